theorem dX6_init_0 : decode cX6_init 0 = .ok (.aload_n 0, 1) := by decide +kernel
theorem dX6_init_1 : decode cX6_init 1 = .ok (.invokespecial 1, 3) := by decide +kernel
theorem dX6_init_4 : decode cX6_init 4 = .ok (.aload_n 0, 1) := by decide +kernel
theorem dX6_init_5 : decode cX6_init 5 = .ok (.new 7, 3) := by decide +kernel
theorem dX6_init_8 : decode cX6_init 8 = .ok (.dup, 1) := by decide +kernel
theorem dX6_init_9 : decode cX6_init 9 = .ok (.invokespecial 9, 3) := by decide +kernel
theorem dX6_init_12 : decode cX6_init 12 = .ok (.putfield 10, 3) := by decide +kernel
theorem dX6_init_15 : decode cX6_init 15 = .ok (.aload_n 0, 1) := by decide +kernel
theorem dX6_init_16 : decode cX6_init 16 = .ok (.new 16, 3) := by decide +kernel
theorem dX6_init_19 : decode cX6_init 19 = .ok (.dup, 1) := by decide +kernel
theorem dX6_init_20 : decode cX6_init 20 = .ok (.invokespecial 18, 3) := by decide +kernel
theorem dX6_init_23 : decode cX6_init 23 = .ok (.putfield 19, 3) := by decide +kernel
theorem dX6_init_26 : decode cX6_init 26 = .ok (.aload_n 0, 1) := by decide +kernel
theorem dX6_init_27 : decode cX6_init 27 = .ok (.new 16, 3) := by decide +kernel
theorem dX6_init_30 : decode cX6_init 30 = .ok (.dup, 1) := by decide +kernel
theorem dX6_init_31 : decode cX6_init 31 = .ok (.invokespecial 18, 3) := by decide +kernel
theorem dX6_init_34 : decode cX6_init 34 = .ok (.putfield 23, 3) := by decide +kernel
theorem dX6_init_37 : decode cX6_init 37 = .ok (.aload_n 0, 1) := by decide +kernel
theorem dX6_init_38 : decode cX6_init 38 = .ok (.new 26, 3) := by decide +kernel
theorem dX6_init_41 : decode cX6_init 41 = .ok (.dup, 1) := by decide +kernel
theorem dX6_init_42 : decode cX6_init 42 = .ok (.bipush 8, 2) := by decide +kernel
theorem dX6_init_44 : decode cX6_init 44 = .ok (.invokespecial 28, 3) := by decide +kernel
theorem dX6_init_47 : decode cX6_init 47 = .ok (.putfield 31, 3) := by decide +kernel
theorem dX6_init_50 : decode cX6_init 50 = .ok (.aload_n 0, 1) := by decide +kernel
theorem dX6_init_51 : decode cX6_init 51 = .ok (.new 26, 3) := by decide +kernel
theorem dX6_init_54 : decode cX6_init 54 = .ok (.dup, 1) := by decide +kernel
theorem dX6_init_55 : decode cX6_init 55 = .ok (.iconst 2, 1) := by decide +kernel
theorem dX6_init_56 : decode cX6_init 56 = .ok (.invokespecial 28, 3) := by decide +kernel
theorem dX6_init_59 : decode cX6_init 59 = .ok (.putfield 35, 3) := by decide +kernel
theorem dX6_init_62 : decode cX6_init 62 = .ok (.aload_n 0, 1) := by decide +kernel
theorem dX6_init_63 : decode cX6_init 63 = .ok (.new 38, 3) := by decide +kernel
theorem dX6_init_66 : decode cX6_init 66 = .ok (.dup, 1) := by decide +kernel
theorem dX6_init_67 : decode cX6_init 67 = .ok (.invokespecial 40, 3) := by decide +kernel
theorem dX6_init_70 : decode cX6_init 70 = .ok (.putfield 41, 3) := by decide +kernel
theorem dX6_init_73 : decode cX6_init 73 = .ok (.aload_n 0, 1) := by decide +kernel
theorem dX6_init_74 : decode cX6_init 74 = .ok (.new 45, 3) := by decide +kernel
theorem dX6_init_77 : decode cX6_init 77 = .ok (.dup, 1) := by decide +kernel
theorem dX6_init_78 : decode cX6_init 78 = .ok (.invokespecial 47, 3) := by decide +kernel
theorem dX6_init_81 : decode cX6_init 81 = .ok (.putfield 48, 3) := by decide +kernel
theorem dX6_init_84 : decode cX6_init 84 = .ok (.aload_n 0, 1) := by decide +kernel
theorem dX6_init_85 : decode cX6_init 85 = .ok (.new 52, 3) := by decide +kernel
theorem dX6_init_88 : decode cX6_init 88 = .ok (.dup, 1) := by decide +kernel
theorem dX6_init_89 : decode cX6_init 89 = .ok (.invokespecial 54, 3) := by decide +kernel
theorem dX6_init_92 : decode cX6_init 92 = .ok (.putfield 55, 3) := by decide +kernel
theorem dX6_init_95 : decode cX6_init 95 = .ok (.aload_n 0, 1) := by decide +kernel
theorem dX6_init_96 : decode cX6_init 96 = .ok (.new 52, 3) := by decide +kernel
theorem dX6_init_99 : decode cX6_init 99 = .ok (.dup, 1) := by decide +kernel
theorem dX6_init_100 : decode cX6_init 100 = .ok (.invokespecial 54, 3) := by decide +kernel
theorem dX6_init_103 : decode cX6_init 103 = .ok (.putfield 59, 3) := by decide +kernel
theorem dX6_init_106 : decode cX6_init 106 = .ok (.iconst 0, 1) := by decide +kernel
theorem dX6_init_107 : decode cX6_init 107 = .ok (.istore_n 1, 1) := by decide +kernel
theorem dX6_init_108 : decode cX6_init 108 = .ok (.iload_n 1, 1) := by decide +kernel
theorem dX6_init_109 : decode cX6_init 109 = .ok (.ldc 62, 2) := by decide +kernel
theorem dX6_init_111 : decode cX6_init 111 = .ok (.invokevirtual 64, 3) := by decide +kernel
theorem dX6_init_114 : decode cX6_init 114 = .ok (.if_icmp .ge 23, 3) := by decide +kernel
theorem dX6_init_117 : decode cX6_init 117 = .ok (.aload_n 0, 1) := by decide +kernel
theorem dX6_init_118 : decode cX6_init 118 = .ok (.getfield 10, 3) := by decide +kernel
theorem dX6_init_121 : decode cX6_init 121 = .ok (.ldc 62, 2) := by decide +kernel
theorem dX6_init_123 : decode cX6_init 123 = .ok (.iload_n 1, 1) := by decide +kernel
theorem dX6_init_124 : decode cX6_init 124 = .ok (.invokevirtual 70, 3) := by decide +kernel
theorem dX6_init_127 : decode cX6_init 127 = .ok (.invokevirtual 74, 3) := by decide +kernel
theorem dX6_init_130 : decode cX6_init 130 = .ok (.pop, 1) := by decide +kernel
theorem dX6_init_131 : decode cX6_init 131 = .ok (.iinc 1 1, 3) := by decide +kernel
theorem dX6_init_134 : decode cX6_init 134 = .ok (.goto (-26), 3) := by decide +kernel
theorem dX6_init_137 : decode cX6_init 137 = .ok (.aload_n 0, 1) := by decide +kernel
theorem dX6_init_138 : decode cX6_init 138 = .ok (.getfield 10, 3) := by decide +kernel
theorem dX6_init_141 : decode cX6_init 141 = .ok (.aload_n 0, 1) := by decide +kernel
theorem dX6_init_142 : decode cX6_init 142 = .ok (.getfield 55, 3) := by decide +kernel
theorem dX6_init_145 : decode cX6_init 145 = .ok (.invokevirtual 78, 3) := by decide +kernel
theorem dX6_init_148 : decode cX6_init 148 = .ok (.pop, 1) := by decide +kernel
theorem dX6_init_149 : decode cX6_init 149 = .ok (.aload_n 0, 1) := by decide +kernel
theorem dX6_init_150 : decode cX6_init 150 = .ok (.getfield 10, 3) := by decide +kernel
theorem dX6_init_153 : decode cX6_init 153 = .ok (.invokevirtual 82, 3) := by decide +kernel
theorem dX6_init_156 : decode cX6_init 156 = .ok (.aload_n 0, 1) := by decide +kernel
theorem dX6_init_157 : decode cX6_init 157 = .ok (.getfield 19, 3) := by decide +kernel
theorem dX6_init_160 : decode cX6_init 160 = .ok (.aload_n 0, 1) := by decide +kernel
theorem dX6_init_161 : decode cX6_init 161 = .ok (.getfield 55, 3) := by decide +kernel
theorem dX6_init_164 : decode cX6_init 164 = .ok (.invokevirtual 85, 3) := by decide +kernel
theorem dX6_init_167 : decode cX6_init 167 = .ok (.return_, 1) := by decide +kernel
theorem dX6_write_0 : decode cX6_write 0 = .ok (.iload_n 1, 1) := by decide +kernel
theorem dX6_write_1 : decode cX6_write 1 = .ok (.bipush 32, 2) := by decide +kernel
theorem dX6_write_3 : decode cX6_write 3 = .ok (.if_icmp .lt 9, 3) := by decide +kernel
theorem dX6_write_6 : decode cX6_write 6 = .ok (.iload_n 1, 1) := by decide +kernel
theorem dX6_write_7 : decode cX6_write 7 = .ok (.bipush 126, 2) := by decide +kernel
theorem dX6_write_9 : decode cX6_write 9 = .ok (.if_icmp .le 5, 3) := by decide +kernel
theorem dX6_write_12 : decode cX6_write 12 = .ok (.iconst (-1), 1) := by decide +kernel
theorem dX6_write_13 : decode cX6_write 13 = .ok (.ireturn, 1) := by decide +kernel
theorem dX6_write_14 : decode cX6_write 14 = .ok (.aload_n 0, 1) := by decide +kernel
theorem dX6_write_15 : decode cX6_write 15 = .ok (.getfield 10, 3) := by decide +kernel
theorem dX6_write_18 : decode cX6_write 18 = .ok (.iload_n 1, 1) := by decide +kernel
theorem dX6_write_19 : decode cX6_write 19 = .ok (.i2c, 1) := by decide +kernel
theorem dX6_write_20 : decode cX6_write 20 = .ok (.invokevirtual 74, 3) := by decide +kernel
theorem dX6_write_23 : decode cX6_write 23 = .ok (.ifCond .ne 6, 3) := by decide +kernel
theorem dX6_write_26 : decode cX6_write 26 = .ok (.bipush (-3), 2) := by decide +kernel
theorem dX6_write_28 : decode cX6_write 28 = .ok (.ireturn, 1) := by decide +kernel
theorem dX6_write_29 : decode cX6_write 29 = .ok (.aload_n 0, 1) := by decide +kernel
theorem dX6_write_30 : decode cX6_write 30 = .ok (.getfield 10, 3) := by decide +kernel
theorem dX6_write_33 : decode cX6_write 33 = .ok (.getfield 89, 3) := by decide +kernel
theorem dX6_write_36 : decode cX6_write 36 = .ok (.ireturn, 1) := by decide +kernel
theorem dX6_wipe_0 : decode cX6_wipe 0 = .ok (.aload_n 0, 1) := by decide +kernel
theorem dX6_wipe_1 : decode cX6_wipe 1 = .ok (.getfield 10, 3) := by decide +kernel
theorem dX6_wipe_4 : decode cX6_wipe 4 = .ok (.getfield 89, 3) := by decide +kernel
theorem dX6_wipe_7 : decode cX6_wipe 7 = .ok (.istore_n 1, 1) := by decide +kernel
theorem dX6_wipe_8 : decode cX6_wipe 8 = .ok (.aload_n 0, 1) := by decide +kernel
theorem dX6_wipe_9 : decode cX6_wipe 9 = .ok (.getfield 10, 3) := by decide +kernel
theorem dX6_wipe_12 : decode cX6_wipe 12 = .ok (.invokevirtual 82, 3) := by decide +kernel
theorem dX6_wipe_15 : decode cX6_wipe 15 = .ok (.iload_n 1, 1) := by decide +kernel
theorem dX6_wipe_16 : decode cX6_wipe 16 = .ok (.ireturn, 1) := by decide +kernel
theorem dX6_fault_0 : decode cX6_fault 0 = .ok (.aload_n 0, 1) := by decide +kernel
theorem dX6_fault_1 : decode cX6_fault 1 = .ok (.getfield 10, 3) := by decide +kernel
theorem dX6_fault_4 : decode cX6_fault 4 = .ok (.aload_n 0, 1) := by decide +kernel
theorem dX6_fault_5 : decode cX6_fault 5 = .ok (.getfield 59, 3) := by decide +kernel
theorem dX6_fault_8 : decode cX6_fault 8 = .ok (.invokevirtual 78, 3) := by decide +kernel
theorem dX6_fault_11 : decode cX6_fault 11 = .ok (.ireturn, 1) := by decide +kernel
theorem dX6_lay_0 : decode cX6_lay 0 = .ok (.aload_n 0, 1) := by decide +kernel
theorem dX6_lay_1 : decode cX6_lay 1 = .ok (.getfield 10, 3) := by decide +kernel
theorem dX6_lay_4 : decode cX6_lay 4 = .ok (.aload_n 0, 1) := by decide +kernel
theorem dX6_lay_5 : decode cX6_lay 5 = .ok (.getfield 59, 3) := by decide +kernel
theorem dX6_lay_8 : decode cX6_lay 8 = .ok (.invokevirtual 78, 3) := by decide +kernel
theorem dX6_lay_11 : decode cX6_lay 11 = .ok (.bipush (-4), 2) := by decide +kernel
theorem dX6_lay_13 : decode cX6_lay 13 = .ok (.if_icmp .ne 13, 3) := by decide +kernel
theorem dX6_lay_16 : decode cX6_lay 16 = .ok (.aload_n 0, 1) := by decide +kernel
theorem dX6_lay_17 : decode cX6_lay 17 = .ok (.getfield 59, 3) := by decide +kernel
theorem dX6_lay_20 : decode cX6_lay 20 = .ok (.getfield 92, 3) := by decide +kernel
theorem dX6_lay_23 : decode cX6_lay 23 = .ok (.ifCond .ne 6, 3) := by decide +kernel
theorem dX6_lay_26 : decode cX6_lay 26 = .ok (.bipush (-2), 2) := by decide +kernel
theorem dX6_lay_28 : decode cX6_lay 28 = .ok (.ireturn, 1) := by decide +kernel
theorem dX6_lay_29 : decode cX6_lay 29 = .ok (.aload_n 0, 1) := by decide +kernel
theorem dX6_lay_30 : decode cX6_lay 30 = .ok (.getfield 59, 3) := by decide +kernel
theorem dX6_lay_33 : decode cX6_lay 33 = .ok (.astore_n 1, 1) := by decide +kernel
theorem dX6_lay_34 : decode cX6_lay 34 = .ok (.aload_n 0, 1) := by decide +kernel
theorem dX6_lay_35 : decode cX6_lay 35 = .ok (.aload_n 0, 1) := by decide +kernel
theorem dX6_lay_36 : decode cX6_lay 36 = .ok (.getfield 55, 3) := by decide +kernel
theorem dX6_lay_39 : decode cX6_lay 39 = .ok (.putfield 59, 3) := by decide +kernel
theorem dX6_lay_42 : decode cX6_lay 42 = .ok (.aload_n 0, 1) := by decide +kernel
theorem dX6_lay_43 : decode cX6_lay 43 = .ok (.aload_n 1, 1) := by decide +kernel
theorem dX6_lay_44 : decode cX6_lay 44 = .ok (.putfield 55, 3) := by decide +kernel
theorem dX6_lay_47 : decode cX6_lay 47 = .ok (.aload_n 0, 1) := by decide +kernel
theorem dX6_lay_48 : decode cX6_lay 48 = .ok (.getfield 19, 3) := by decide +kernel
theorem dX6_lay_51 : decode cX6_lay 51 = .ok (.aload_n 0, 1) := by decide +kernel
theorem dX6_lay_52 : decode cX6_lay 52 = .ok (.getfield 55, 3) := by decide +kernel
theorem dX6_lay_55 : decode cX6_lay 55 = .ok (.invokevirtual 85, 3) := by decide +kernel
theorem dX6_lay_58 : decode cX6_lay 58 = .ok (.aload_n 0, 1) := by decide +kernel
theorem dX6_lay_59 : decode cX6_lay 59 = .ok (.getfield 31, 3) := by decide +kernel
theorem dX6_lay_62 : decode cX6_lay 62 = .ok (.invokevirtual 95, 3) := by decide +kernel
theorem dX6_lay_65 : decode cX6_lay 65 = .ok (.aload_n 0, 1) := by decide +kernel
theorem dX6_lay_66 : decode cX6_lay 66 = .ok (.getfield 35, 3) := by decide +kernel
theorem dX6_lay_69 : decode cX6_lay 69 = .ok (.invokevirtual 95, 3) := by decide +kernel
theorem dX6_lay_72 : decode cX6_lay 72 = .ok (.aload_n 0, 1) := by decide +kernel
theorem dX6_lay_73 : decode cX6_lay 73 = .ok (.getfield 41, 3) := by decide +kernel
theorem dX6_lay_76 : decode cX6_lay 76 = .ok (.invokevirtual 96, 3) := by decide +kernel
theorem dX6_lay_79 : decode cX6_lay 79 = .ok (.aload_n 0, 1) := by decide +kernel
theorem dX6_lay_80 : decode cX6_lay 80 = .ok (.getfield 55, 3) := by decide +kernel
theorem dX6_lay_83 : decode cX6_lay 83 = .ok (.getfield 92, 3) := by decide +kernel
theorem dX6_lay_86 : decode cX6_lay 86 = .ok (.ireturn, 1) := by decide +kernel
theorem dX6_person_0 : decode cX6_person 0 = .ok (.aload_n 0, 1) := by decide +kernel
theorem dX6_person_1 : decode cX6_person 1 = .ok (.getfield 55, 3) := by decide +kernel
theorem dX6_person_4 : decode cX6_person 4 = .ok (.iload_n 1, 1) := by decide +kernel
theorem dX6_person_5 : decode cX6_person 5 = .ok (.invokevirtual 97, 3) := by decide +kernel
theorem dX6_person_8 : decode cX6_person 8 = .ok (.ifCond .ne 5, 3) := by decide +kernel
theorem dX6_person_11 : decode cX6_person 11 = .ok (.iconst (-1), 1) := by decide +kernel
theorem dX6_person_12 : decode cX6_person 12 = .ok (.ireturn, 1) := by decide +kernel
theorem dX6_person_13 : decode cX6_person 13 = .ok (.iload_n 2, 1) := by decide +kernel
theorem dX6_person_14 : decode cX6_person 14 = .ok (.tableswitch 79 0 3 #[30, 39, 49, 58], 30) := by decide +kernel
theorem dX6_person_44 : decode cX6_person 44 = .ok (.aload_n 0, 1) := by decide +kernel
theorem dX6_person_45 : decode cX6_person 45 = .ok (.getfield 19, 3) := by decide +kernel
theorem dX6_person_48 : decode cX6_person 48 = .ok (.iload_n 1, 1) := by decide +kernel
theorem dX6_person_49 : decode cX6_person 49 = .ok (.invokevirtual 101, 3) := by decide +kernel
theorem dX6_person_52 : decode cX6_person 52 = .ok (.ireturn, 1) := by decide +kernel
theorem dX6_person_53 : decode cX6_person 53 = .ok (.aload_n 0, 1) := by decide +kernel
theorem dX6_person_54 : decode cX6_person 54 = .ok (.getfield 55, 3) := by decide +kernel
theorem dX6_person_57 : decode cX6_person 57 = .ok (.getfield 105, 3) := by decide +kernel
theorem dX6_person_60 : decode cX6_person 60 = .ok (.iload_n 1, 1) := by decide +kernel
theorem dX6_person_61 : decode cX6_person 61 = .ok (.iaload, 1) := by decide +kernel
theorem dX6_person_62 : decode cX6_person 62 = .ok (.ireturn, 1) := by decide +kernel
theorem dX6_person_63 : decode cX6_person 63 = .ok (.aload_n 0, 1) := by decide +kernel
theorem dX6_person_64 : decode cX6_person 64 = .ok (.getfield 19, 3) := by decide +kernel
theorem dX6_person_67 : decode cX6_person 67 = .ok (.iload_n 1, 1) := by decide +kernel
theorem dX6_person_68 : decode cX6_person 68 = .ok (.invokevirtual 109, 3) := by decide +kernel
theorem dX6_person_71 : decode cX6_person 71 = .ok (.ireturn, 1) := by decide +kernel
theorem dX6_person_72 : decode cX6_person 72 = .ok (.sipush 1000, 3) := by decide +kernel
theorem dX6_person_75 : decode cX6_person 75 = .ok (.aload_n 0, 1) := by decide +kernel
theorem dX6_person_76 : decode cX6_person 76 = .ok (.getfield 55, 3) := by decide +kernel
theorem dX6_person_79 : decode cX6_person 79 = .ok (.iload_n 1, 1) := by decide +kernel
theorem dX6_person_80 : decode cX6_person 80 = .ok (.aload_n 0, 1) := by decide +kernel
theorem dX6_person_81 : decode cX6_person 81 = .ok (.getfield 19, 3) := by decide +kernel
theorem dX6_person_84 : decode cX6_person 84 = .ok (.iload_n 1, 1) := by decide +kernel
theorem dX6_person_85 : decode cX6_person 85 = .ok (.invokevirtual 109, 3) := by decide +kernel
theorem dX6_person_88 : decode cX6_person 88 = .ok (.invokevirtual 112, 3) := by decide +kernel
theorem dX6_person_91 : decode cX6_person 91 = .ok (.iadd, 1) := by decide +kernel
theorem dX6_person_92 : decode cX6_person 92 = .ok (.ireturn, 1) := by decide +kernel
theorem dX6_person_93 : decode cX6_person 93 = .ok (.iconst (-1), 1) := by decide +kernel
theorem dX6_person_94 : decode cX6_person 94 = .ok (.ireturn, 1) := by decide +kernel
theorem dX6_thing_0 : decode cX6_thing 0 = .ok (.aload_n 0, 1) := by decide +kernel
theorem dX6_thing_1 : decode cX6_thing 1 = .ok (.getfield 55, 3) := by decide +kernel
theorem dX6_thing_4 : decode cX6_thing 4 = .ok (.iload_n 1, 1) := by decide +kernel
theorem dX6_thing_5 : decode cX6_thing 5 = .ok (.invokevirtual 116, 3) := by decide +kernel
theorem dX6_thing_8 : decode cX6_thing 8 = .ok (.ifCond .ne 5, 3) := by decide +kernel
theorem dX6_thing_11 : decode cX6_thing 11 = .ok (.iconst (-1), 1) := by decide +kernel
theorem dX6_thing_12 : decode cX6_thing 12 = .ok (.ireturn, 1) := by decide +kernel
theorem dX6_thing_13 : decode cX6_thing 13 = .ok (.iload_n 2, 1) := by decide +kernel
theorem dX6_thing_14 : decode cX6_thing 14 = .ok (.tableswitch 97 0 4 #[34, 44, 54, 63, 80], 34) := by decide +kernel
theorem dX6_thing_48 : decode cX6_thing 48 = .ok (.aload_n 0, 1) := by decide +kernel
theorem dX6_thing_49 : decode cX6_thing 49 = .ok (.getfield 55, 3) := by decide +kernel
theorem dX6_thing_52 : decode cX6_thing 52 = .ok (.getfield 119, 3) := by decide +kernel
theorem dX6_thing_55 : decode cX6_thing 55 = .ok (.iload_n 1, 1) := by decide +kernel
theorem dX6_thing_56 : decode cX6_thing 56 = .ok (.iaload, 1) := by decide +kernel
theorem dX6_thing_57 : decode cX6_thing 57 = .ok (.ireturn, 1) := by decide +kernel
theorem dX6_thing_58 : decode cX6_thing 58 = .ok (.aload_n 0, 1) := by decide +kernel
theorem dX6_thing_59 : decode cX6_thing 59 = .ok (.getfield 55, 3) := by decide +kernel
theorem dX6_thing_62 : decode cX6_thing 62 = .ok (.getfield 122, 3) := by decide +kernel
theorem dX6_thing_65 : decode cX6_thing 65 = .ok (.iload_n 1, 1) := by decide +kernel
theorem dX6_thing_66 : decode cX6_thing 66 = .ok (.iaload, 1) := by decide +kernel
theorem dX6_thing_67 : decode cX6_thing 67 = .ok (.ireturn, 1) := by decide +kernel
theorem dX6_thing_68 : decode cX6_thing 68 = .ok (.aload_n 0, 1) := by decide +kernel
theorem dX6_thing_69 : decode cX6_thing 69 = .ok (.getfield 19, 3) := by decide +kernel
theorem dX6_thing_72 : decode cX6_thing 72 = .ok (.iload_n 1, 1) := by decide +kernel
theorem dX6_thing_73 : decode cX6_thing 73 = .ok (.invokevirtual 125, 3) := by decide +kernel
theorem dX6_thing_76 : decode cX6_thing 76 = .ok (.ireturn, 1) := by decide +kernel
theorem dX6_thing_77 : decode cX6_thing 77 = .ok (.iload_n 1, 1) := by decide +kernel
theorem dX6_thing_78 : decode cX6_thing 78 = .ok (.aload_n 0, 1) := by decide +kernel
theorem dX6_thing_79 : decode cX6_thing 79 = .ok (.getfield 19, 3) := by decide +kernel
theorem dX6_thing_82 : decode cX6_thing 82 = .ok (.invokevirtual 128, 3) := by decide +kernel
theorem dX6_thing_85 : decode cX6_thing 85 = .ok (.if_icmp .ge 7, 3) := by decide +kernel
theorem dX6_thing_88 : decode cX6_thing 88 = .ok (.iconst 1, 1) := by decide +kernel
theorem dX6_thing_89 : decode cX6_thing 89 = .ok (.goto 4, 3) := by decide +kernel
theorem dX6_thing_92 : decode cX6_thing 92 = .ok (.iconst 0, 1) := by decide +kernel
theorem dX6_thing_93 : decode cX6_thing 93 = .ok (.ireturn, 1) := by decide +kernel
theorem dX6_thing_94 : decode cX6_thing 94 = .ok (.iload_n 1, 1) := by decide +kernel
theorem dX6_thing_95 : decode cX6_thing 95 = .ok (.aload_n 0, 1) := by decide +kernel
theorem dX6_thing_96 : decode cX6_thing 96 = .ok (.getfield 19, 3) := by decide +kernel
theorem dX6_thing_99 : decode cX6_thing 99 = .ok (.invokevirtual 131, 3) := by decide +kernel
theorem dX6_thing_102 : decode cX6_thing 102 = .ok (.if_icmp .ne 7, 3) := by decide +kernel
theorem dX6_thing_105 : decode cX6_thing 105 = .ok (.iconst 1, 1) := by decide +kernel
theorem dX6_thing_106 : decode cX6_thing 106 = .ok (.goto 4, 3) := by decide +kernel
theorem dX6_thing_109 : decode cX6_thing 109 = .ok (.iconst 0, 1) := by decide +kernel
theorem dX6_thing_110 : decode cX6_thing 110 = .ok (.ireturn, 1) := by decide +kernel
theorem dX6_thing_111 : decode cX6_thing 111 = .ok (.iconst (-1), 1) := by decide +kernel
theorem dX6_thing_112 : decode cX6_thing 112 = .ok (.ireturn, 1) := by decide +kernel
theorem dX6_likes_0 : decode cX6_likes 0 = .ok (.aload_n 0, 1) := by decide +kernel
theorem dX6_likes_1 : decode cX6_likes 1 = .ok (.getfield 55, 3) := by decide +kernel
theorem dX6_likes_4 : decode cX6_likes 4 = .ok (.iload_n 1, 1) := by decide +kernel
theorem dX6_likes_5 : decode cX6_likes 5 = .ok (.invokevirtual 97, 3) := by decide +kernel
theorem dX6_likes_8 : decode cX6_likes 8 = .ok (.ifCond .eq 14, 3) := by decide +kernel
theorem dX6_likes_11 : decode cX6_likes 11 = .ok (.aload_n 0, 1) := by decide +kernel
theorem dX6_likes_12 : decode cX6_likes 12 = .ok (.getfield 55, 3) := by decide +kernel
theorem dX6_likes_15 : decode cX6_likes 15 = .ok (.iload_n 2, 1) := by decide +kernel
theorem dX6_likes_16 : decode cX6_likes 16 = .ok (.invokevirtual 116, 3) := by decide +kernel
theorem dX6_likes_19 : decode cX6_likes 19 = .ok (.ifCond .ne 5, 3) := by decide +kernel
theorem dX6_likes_22 : decode cX6_likes 22 = .ok (.iconst (-1), 1) := by decide +kernel
theorem dX6_likes_23 : decode cX6_likes 23 = .ok (.ireturn, 1) := by decide +kernel
theorem dX6_likes_24 : decode cX6_likes 24 = .ok (.aload_n 0, 1) := by decide +kernel
theorem dX6_likes_25 : decode cX6_likes 25 = .ok (.getfield 55, 3) := by decide +kernel
theorem dX6_likes_28 : decode cX6_likes 28 = .ok (.iload_n 1, 1) := by decide +kernel
theorem dX6_likes_29 : decode cX6_likes 29 = .ok (.iload_n 2, 1) := by decide +kernel
theorem dX6_likes_30 : decode cX6_likes 30 = .ok (.invokevirtual 134, 3) := by decide +kernel
theorem dX6_likes_33 : decode cX6_likes 33 = .ok (.ireturn, 1) := by decide +kernel
theorem dX6_draw_0 : decode cX6_draw 0 = .ok (.aload_n 0, 1) := by decide +kernel
theorem dX6_draw_1 : decode cX6_draw 1 = .ok (.getfield 19, 3) := by decide +kernel
theorem dX6_draw_4 : decode cX6_draw 4 = .ok (.iload_n 1, 1) := by decide +kernel
theorem dX6_draw_5 : decode cX6_draw 5 = .ok (.invokevirtual 137, 3) := by decide +kernel
theorem dX6_draw_8 : decode cX6_draw 8 = .ok (.istore_n 2, 1) := by decide +kernel
theorem dX6_draw_9 : decode cX6_draw 9 = .ok (.iload_n 2, 1) := by decide +kernel
theorem dX6_draw_10 : decode cX6_draw 10 = .ok (.bipush (-4), 2) := by decide +kernel
theorem dX6_draw_12 : decode cX6_draw 12 = .ok (.if_icmp .ne 5, 3) := by decide +kernel
theorem dX6_draw_15 : decode cX6_draw 15 = .ok (.iconst (-1), 1) := by decide +kernel
theorem dX6_draw_16 : decode cX6_draw 16 = .ok (.ireturn, 1) := by decide +kernel
theorem dX6_draw_17 : decode cX6_draw 17 = .ok (.aload_n 0, 1) := by decide +kernel
theorem dX6_draw_18 : decode cX6_draw 18 = .ok (.getfield 19, 3) := by decide +kernel
theorem dX6_draw_21 : decode cX6_draw 21 = .ok (.invokevirtual 128, 3) := by decide +kernel
theorem dX6_draw_24 : decode cX6_draw 24 = .ok (.aload_n 0, 1) := by decide +kernel
theorem dX6_draw_25 : decode cX6_draw 25 = .ok (.getfield 55, 3) := by decide +kernel
theorem dX6_draw_28 : decode cX6_draw 28 = .ok (.getfield 140, 3) := by decide +kernel
theorem dX6_draw_31 : decode cX6_draw 31 = .ok (.if_icmp .lt 6, 3) := by decide +kernel
theorem dX6_draw_34 : decode cX6_draw 34 = .ok (.bipush (-2), 2) := by decide +kernel
theorem dX6_draw_36 : decode cX6_draw 36 = .ok (.ireturn, 1) := by decide +kernel
theorem dX6_draw_37 : decode cX6_draw 37 = .ok (.aload_n 0, 1) := by decide +kernel
theorem dX6_draw_38 : decode cX6_draw 38 = .ok (.getfield 31, 3) := by decide +kernel
theorem dX6_draw_41 : decode cX6_draw 41 = .ok (.aload_n 0, 1) := by decide +kernel
theorem dX6_draw_42 : decode cX6_draw 42 = .ok (.getfield 19, 3) := by decide +kernel
theorem dX6_draw_45 : decode cX6_draw 45 = .ok (.invokevirtual 143, 3) := by decide +kernel
theorem dX6_draw_48 : decode cX6_draw 48 = .ok (.aload_n 0, 1) := by decide +kernel
theorem dX6_draw_49 : decode cX6_draw 49 = .ok (.getfield 19, 3) := by decide +kernel
theorem dX6_draw_52 : decode cX6_draw 52 = .ok (.iload_n 2, 1) := by decide +kernel
theorem dX6_draw_53 : decode cX6_draw 53 = .ok (.invokevirtual 147, 3) := by decide +kernel
theorem dX6_draw_56 : decode cX6_draw 56 = .ok (.iload_n 2, 1) := by decide +kernel
theorem dX6_draw_57 : decode cX6_draw 57 = .ok (.ireturn, 1) := by decide +kernel
theorem dX6_refuse_0 : decode cX6_refuse 0 = .ok (.aload_n 0, 1) := by decide +kernel
theorem dX6_refuse_1 : decode cX6_refuse 1 = .ok (.getfield 19, 3) := by decide +kernel
theorem dX6_refuse_4 : decode cX6_refuse 4 = .ok (.invokevirtual 131, 3) := by decide +kernel
theorem dX6_refuse_7 : decode cX6_refuse 7 = .ok (.istore_n 1, 1) := by decide +kernel
theorem dX6_refuse_8 : decode cX6_refuse 8 = .ok (.iload_n 1, 1) := by decide +kernel
theorem dX6_refuse_9 : decode cX6_refuse 9 = .ok (.bipush (-4), 2) := by decide +kernel
theorem dX6_refuse_11 : decode cX6_refuse 11 = .ok (.if_icmp .ne 6, 3) := by decide +kernel
theorem dX6_refuse_14 : decode cX6_refuse 14 = .ok (.bipush (-2), 2) := by decide +kernel
theorem dX6_refuse_16 : decode cX6_refuse 16 = .ok (.ireturn, 1) := by decide +kernel
theorem dX6_refuse_17 : decode cX6_refuse 17 = .ok (.aload_n 0, 1) := by decide +kernel
theorem dX6_refuse_18 : decode cX6_refuse 18 = .ok (.getfield 31, 3) := by decide +kernel
theorem dX6_refuse_21 : decode cX6_refuse 21 = .ok (.aload_n 0, 1) := by decide +kernel
theorem dX6_refuse_22 : decode cX6_refuse 22 = .ok (.getfield 19, 3) := by decide +kernel
theorem dX6_refuse_25 : decode cX6_refuse 25 = .ok (.invokevirtual 143, 3) := by decide +kernel
theorem dX6_refuse_28 : decode cX6_refuse 28 = .ok (.aload_n 0, 1) := by decide +kernel
theorem dX6_refuse_29 : decode cX6_refuse 29 = .ok (.getfield 19, 3) := by decide +kernel
theorem dX6_refuse_32 : decode cX6_refuse 32 = .ok (.iload_n 1, 1) := by decide +kernel
theorem dX6_refuse_33 : decode cX6_refuse 33 = .ok (.invokevirtual 150, 3) := by decide +kernel
theorem dX6_refuse_36 : decode cX6_refuse 36 = .ok (.iload_n 1, 1) := by decide +kernel
theorem dX6_refuse_37 : decode cX6_refuse 37 = .ok (.ireturn, 1) := by decide +kernel
theorem dX6_buy_0 : decode cX6_buy 0 = .ok (.aload_n 0, 1) := by decide +kernel
theorem dX6_buy_1 : decode cX6_buy 1 = .ok (.getfield 55, 3) := by decide +kernel
theorem dX6_buy_4 : decode cX6_buy 4 = .ok (.iload_n 1, 1) := by decide +kernel
theorem dX6_buy_5 : decode cX6_buy 5 = .ok (.invokevirtual 97, 3) := by decide +kernel
theorem dX6_buy_8 : decode cX6_buy 8 = .ok (.ifCond .eq 14, 3) := by decide +kernel
theorem dX6_buy_11 : decode cX6_buy 11 = .ok (.iload_n 2, 1) := by decide +kernel
theorem dX6_buy_12 : decode cX6_buy 12 = .ok (.iconst 1, 1) := by decide +kernel
theorem dX6_buy_13 : decode cX6_buy 13 = .ok (.if_icmp .lt 9, 3) := by decide +kernel
theorem dX6_buy_16 : decode cX6_buy 16 = .ok (.iload_n 2, 1) := by decide +kernel
theorem dX6_buy_17 : decode cX6_buy 17 = .ok (.bipush 9, 2) := by decide +kernel
theorem dX6_buy_19 : decode cX6_buy 19 = .ok (.if_icmp .le 5, 3) := by decide +kernel
theorem dX6_buy_22 : decode cX6_buy 22 = .ok (.iconst (-1), 1) := by decide +kernel
theorem dX6_buy_23 : decode cX6_buy 23 = .ok (.ireturn, 1) := by decide +kernel
theorem dX6_buy_24 : decode cX6_buy 24 = .ok (.aload_n 0, 1) := by decide +kernel
theorem dX6_buy_25 : decode cX6_buy 25 = .ok (.getfield 19, 3) := by decide +kernel
theorem dX6_buy_28 : decode cX6_buy 28 = .ok (.iload_n 1, 1) := by decide +kernel
theorem dX6_buy_29 : decode cX6_buy 29 = .ok (.invokevirtual 101, 3) := by decide +kernel
theorem dX6_buy_32 : decode cX6_buy 32 = .ok (.iload_n 2, 1) := by decide +kernel
theorem dX6_buy_33 : decode cX6_buy 33 = .ok (.iadd, 1) := by decide +kernel
theorem dX6_buy_34 : decode cX6_buy 34 = .ok (.bipush 9, 2) := by decide +kernel
theorem dX6_buy_36 : decode cX6_buy 36 = .ok (.if_icmp .le 6, 3) := by decide +kernel
theorem dX6_buy_39 : decode cX6_buy 39 = .ok (.bipush (-3), 2) := by decide +kernel
theorem dX6_buy_41 : decode cX6_buy 41 = .ok (.ireturn, 1) := by decide +kernel
theorem dX6_buy_42 : decode cX6_buy 42 = .ok (.aload_n 0, 1) := by decide +kernel
theorem dX6_buy_43 : decode cX6_buy 43 = .ok (.getfield 31, 3) := by decide +kernel
theorem dX6_buy_46 : decode cX6_buy 46 = .ok (.aload_n 0, 1) := by decide +kernel
theorem dX6_buy_47 : decode cX6_buy 47 = .ok (.getfield 19, 3) := by decide +kernel
theorem dX6_buy_50 : decode cX6_buy 50 = .ok (.invokevirtual 143, 3) := by decide +kernel
theorem dX6_buy_53 : decode cX6_buy 53 = .ok (.aload_n 0, 1) := by decide +kernel
theorem dX6_buy_54 : decode cX6_buy 54 = .ok (.getfield 19, 3) := by decide +kernel
theorem dX6_buy_57 : decode cX6_buy 57 = .ok (.iload_n 1, 1) := by decide +kernel
theorem dX6_buy_58 : decode cX6_buy 58 = .ok (.iload_n 2, 1) := by decide +kernel
theorem dX6_buy_59 : decode cX6_buy 59 = .ok (.invokevirtual 153, 3) := by decide +kernel
theorem dX6_buy_62 : decode cX6_buy 62 = .ok (.aload_n 0, 1) := by decide +kernel
theorem dX6_buy_63 : decode cX6_buy 63 = .ok (.getfield 19, 3) := by decide +kernel
theorem dX6_buy_66 : decode cX6_buy 66 = .ok (.iload_n 1, 1) := by decide +kernel
theorem dX6_buy_67 : decode cX6_buy 67 = .ok (.invokevirtual 101, 3) := by decide +kernel
theorem dX6_buy_70 : decode cX6_buy 70 = .ok (.ireturn, 1) := by decide +kernel
theorem dX6_hand_0 : decode cX6_hand 0 = .ok (.aload_n 0, 1) := by decide +kernel
theorem dX6_hand_1 : decode cX6_hand 1 = .ok (.getfield 55, 3) := by decide +kernel
theorem dX6_hand_4 : decode cX6_hand 4 = .ok (.iload_n 1, 1) := by decide +kernel
theorem dX6_hand_5 : decode cX6_hand 5 = .ok (.invokevirtual 97, 3) := by decide +kernel
theorem dX6_hand_8 : decode cX6_hand 8 = .ok (.ifCond .eq 19, 3) := by decide +kernel
theorem dX6_hand_11 : decode cX6_hand 11 = .ok (.aload_n 0, 1) := by decide +kernel
theorem dX6_hand_12 : decode cX6_hand 12 = .ok (.getfield 55, 3) := by decide +kernel
theorem dX6_hand_15 : decode cX6_hand 15 = .ok (.iload_n 2, 1) := by decide +kernel
theorem dX6_hand_16 : decode cX6_hand 16 = .ok (.invokevirtual 97, 3) := by decide +kernel
theorem dX6_hand_19 : decode cX6_hand 19 = .ok (.ifCond .eq 8, 3) := by decide +kernel
theorem dX6_hand_22 : decode cX6_hand 22 = .ok (.iload_n 1, 1) := by decide +kernel
theorem dX6_hand_23 : decode cX6_hand 23 = .ok (.iload_n 2, 1) := by decide +kernel
theorem dX6_hand_24 : decode cX6_hand 24 = .ok (.if_icmp .ne 5, 3) := by decide +kernel
theorem dX6_hand_27 : decode cX6_hand 27 = .ok (.iconst (-1), 1) := by decide +kernel
theorem dX6_hand_28 : decode cX6_hand 28 = .ok (.ireturn, 1) := by decide +kernel
theorem dX6_hand_29 : decode cX6_hand 29 = .ok (.aload_n 0, 1) := by decide +kernel
theorem dX6_hand_30 : decode cX6_hand 30 = .ok (.getfield 19, 3) := by decide +kernel
theorem dX6_hand_33 : decode cX6_hand 33 = .ok (.iload_n 1, 1) := by decide +kernel
theorem dX6_hand_34 : decode cX6_hand 34 = .ok (.invokevirtual 101, 3) := by decide +kernel
theorem dX6_hand_37 : decode cX6_hand 37 = .ok (.ifCond .ne 6, 3) := by decide +kernel
theorem dX6_hand_40 : decode cX6_hand 40 = .ok (.bipush (-2), 2) := by decide +kernel
theorem dX6_hand_42 : decode cX6_hand 42 = .ok (.ireturn, 1) := by decide +kernel
theorem dX6_hand_43 : decode cX6_hand 43 = .ok (.aload_n 0, 1) := by decide +kernel
theorem dX6_hand_44 : decode cX6_hand 44 = .ok (.getfield 19, 3) := by decide +kernel
theorem dX6_hand_47 : decode cX6_hand 47 = .ok (.iload_n 2, 1) := by decide +kernel
theorem dX6_hand_48 : decode cX6_hand 48 = .ok (.invokevirtual 101, 3) := by decide +kernel
theorem dX6_hand_51 : decode cX6_hand 51 = .ok (.bipush 9, 2) := by decide +kernel
theorem dX6_hand_53 : decode cX6_hand 53 = .ok (.if_icmp .lt 6, 3) := by decide +kernel
theorem dX6_hand_56 : decode cX6_hand 56 = .ok (.bipush (-3), 2) := by decide +kernel
theorem dX6_hand_58 : decode cX6_hand 58 = .ok (.ireturn, 1) := by decide +kernel
theorem dX6_hand_59 : decode cX6_hand 59 = .ok (.aload_n 0, 1) := by decide +kernel
theorem dX6_hand_60 : decode cX6_hand 60 = .ok (.getfield 31, 3) := by decide +kernel
theorem dX6_hand_63 : decode cX6_hand 63 = .ok (.aload_n 0, 1) := by decide +kernel
theorem dX6_hand_64 : decode cX6_hand 64 = .ok (.getfield 19, 3) := by decide +kernel
theorem dX6_hand_67 : decode cX6_hand 67 = .ok (.invokevirtual 143, 3) := by decide +kernel
theorem dX6_hand_70 : decode cX6_hand 70 = .ok (.aload_n 0, 1) := by decide +kernel
theorem dX6_hand_71 : decode cX6_hand 71 = .ok (.getfield 19, 3) := by decide +kernel
theorem dX6_hand_74 : decode cX6_hand 74 = .ok (.iload_n 1, 1) := by decide +kernel
theorem dX6_hand_75 : decode cX6_hand 75 = .ok (.iconst (-1), 1) := by decide +kernel
theorem dX6_hand_76 : decode cX6_hand 76 = .ok (.invokevirtual 153, 3) := by decide +kernel
theorem dX6_hand_79 : decode cX6_hand 79 = .ok (.aload_n 0, 1) := by decide +kernel
theorem dX6_hand_80 : decode cX6_hand 80 = .ok (.getfield 19, 3) := by decide +kernel
theorem dX6_hand_83 : decode cX6_hand 83 = .ok (.iload_n 2, 1) := by decide +kernel
theorem dX6_hand_84 : decode cX6_hand 84 = .ok (.iconst 1, 1) := by decide +kernel
theorem dX6_hand_85 : decode cX6_hand 85 = .ok (.invokevirtual 153, 3) := by decide +kernel
theorem dX6_hand_88 : decode cX6_hand 88 = .ok (.aload_n 0, 1) := by decide +kernel
theorem dX6_hand_89 : decode cX6_hand 89 = .ok (.getfield 19, 3) := by decide +kernel
theorem dX6_hand_92 : decode cX6_hand 92 = .ok (.iload_n 2, 1) := by decide +kernel
theorem dX6_hand_93 : decode cX6_hand 93 = .ok (.invokevirtual 101, 3) := by decide +kernel
theorem dX6_hand_96 : decode cX6_hand 96 = .ok (.ireturn, 1) := by decide +kernel
theorem dX6_swap_0 : decode cX6_swap 0 = .ok (.aload_n 0, 1) := by decide +kernel
theorem dX6_swap_1 : decode cX6_swap 1 = .ok (.getfield 55, 3) := by decide +kernel
theorem dX6_swap_4 : decode cX6_swap 4 = .ok (.iload_n 1, 1) := by decide +kernel
theorem dX6_swap_5 : decode cX6_swap 5 = .ok (.invokevirtual 116, 3) := by decide +kernel
theorem dX6_swap_8 : decode cX6_swap 8 = .ok (.ifCond .eq 19, 3) := by decide +kernel
theorem dX6_swap_11 : decode cX6_swap 11 = .ok (.aload_n 0, 1) := by decide +kernel
theorem dX6_swap_12 : decode cX6_swap 12 = .ok (.getfield 55, 3) := by decide +kernel
theorem dX6_swap_15 : decode cX6_swap 15 = .ok (.iload_n 2, 1) := by decide +kernel
theorem dX6_swap_16 : decode cX6_swap 16 = .ok (.invokevirtual 116, 3) := by decide +kernel
theorem dX6_swap_19 : decode cX6_swap 19 = .ok (.ifCond .eq 8, 3) := by decide +kernel
theorem dX6_swap_22 : decode cX6_swap 22 = .ok (.iload_n 1, 1) := by decide +kernel
theorem dX6_swap_23 : decode cX6_swap 23 = .ok (.iload_n 2, 1) := by decide +kernel
theorem dX6_swap_24 : decode cX6_swap 24 = .ok (.if_icmp .ne 5, 3) := by decide +kernel
theorem dX6_swap_27 : decode cX6_swap 27 = .ok (.iconst (-1), 1) := by decide +kernel
theorem dX6_swap_28 : decode cX6_swap 28 = .ok (.ireturn, 1) := by decide +kernel
theorem dX6_swap_29 : decode cX6_swap 29 = .ok (.aload_n 0, 1) := by decide +kernel
theorem dX6_swap_30 : decode cX6_swap 30 = .ok (.getfield 19, 3) := by decide +kernel
theorem dX6_swap_33 : decode cX6_swap 33 = .ok (.iload_n 1, 1) := by decide +kernel
theorem dX6_swap_34 : decode cX6_swap 34 = .ok (.invokevirtual 125, 3) := by decide +kernel
theorem dX6_swap_37 : decode cX6_swap 37 = .ok (.istore_n 3, 1) := by decide +kernel
theorem dX6_swap_38 : decode cX6_swap 38 = .ok (.aload_n 0, 1) := by decide +kernel
theorem dX6_swap_39 : decode cX6_swap 39 = .ok (.getfield 19, 3) := by decide +kernel
theorem dX6_swap_42 : decode cX6_swap 42 = .ok (.iload_n 2, 1) := by decide +kernel
theorem dX6_swap_43 : decode cX6_swap 43 = .ok (.invokevirtual 125, 3) := by decide +kernel
theorem dX6_swap_46 : decode cX6_swap 46 = .ok (.istore 4, 2) := by decide +kernel
theorem dX6_swap_48 : decode cX6_swap 48 = .ok (.iload_n 3, 1) := by decide +kernel
theorem dX6_swap_49 : decode cX6_swap 49 = .ok (.bipush (-4), 2) := by decide +kernel
theorem dX6_swap_51 : decode cX6_swap 51 = .ok (.if_icmp .eq 16, 3) := by decide +kernel
theorem dX6_swap_54 : decode cX6_swap 54 = .ok (.iload 4, 2) := by decide +kernel
theorem dX6_swap_56 : decode cX6_swap 56 = .ok (.bipush (-4), 2) := by decide +kernel
theorem dX6_swap_58 : decode cX6_swap 58 = .ok (.if_icmp .eq 9, 3) := by decide +kernel
theorem dX6_swap_61 : decode cX6_swap 61 = .ok (.iload_n 3, 1) := by decide +kernel
theorem dX6_swap_62 : decode cX6_swap 62 = .ok (.iload 4, 2) := by decide +kernel
theorem dX6_swap_64 : decode cX6_swap 64 = .ok (.if_icmp .ne 6, 3) := by decide +kernel
theorem dX6_swap_67 : decode cX6_swap 67 = .ok (.bipush (-2), 2) := by decide +kernel
theorem dX6_swap_69 : decode cX6_swap 69 = .ok (.ireturn, 1) := by decide +kernel
theorem dX6_swap_70 : decode cX6_swap 70 = .ok (.aload_n 0, 1) := by decide +kernel
theorem dX6_swap_71 : decode cX6_swap 71 = .ok (.getfield 31, 3) := by decide +kernel
theorem dX6_swap_74 : decode cX6_swap 74 = .ok (.aload_n 0, 1) := by decide +kernel
theorem dX6_swap_75 : decode cX6_swap 75 = .ok (.getfield 19, 3) := by decide +kernel
theorem dX6_swap_78 : decode cX6_swap 78 = .ok (.invokevirtual 143, 3) := by decide +kernel
theorem dX6_swap_81 : decode cX6_swap 81 = .ok (.aload_n 0, 1) := by decide +kernel
theorem dX6_swap_82 : decode cX6_swap 82 = .ok (.getfield 19, 3) := by decide +kernel
theorem dX6_swap_85 : decode cX6_swap 85 = .ok (.iload_n 1, 1) := by decide +kernel
theorem dX6_swap_86 : decode cX6_swap 86 = .ok (.iload 4, 2) := by decide +kernel
theorem dX6_swap_88 : decode cX6_swap 88 = .ok (.invokevirtual 157, 3) := by decide +kernel
theorem dX6_swap_91 : decode cX6_swap 91 = .ok (.aload_n 0, 1) := by decide +kernel
theorem dX6_swap_92 : decode cX6_swap 92 = .ok (.getfield 19, 3) := by decide +kernel
theorem dX6_swap_95 : decode cX6_swap 95 = .ok (.iload_n 2, 1) := by decide +kernel
theorem dX6_swap_96 : decode cX6_swap 96 = .ok (.iload_n 3, 1) := by decide +kernel
theorem dX6_swap_97 : decode cX6_swap 97 = .ok (.invokevirtual 157, 3) := by decide +kernel
theorem dX6_swap_100 : decode cX6_swap 100 = .ok (.iload 4, 2) := by decide +kernel
theorem dX6_swap_102 : decode cX6_swap 102 = .ok (.ireturn, 1) := by decide +kernel
theorem dX6_give_0 : decode cX6_give 0 = .ok (.aload_n 0, 1) := by decide +kernel
theorem dX6_give_1 : decode cX6_give 1 = .ok (.getfield 55, 3) := by decide +kernel
theorem dX6_give_4 : decode cX6_give 4 = .ok (.iload_n 1, 1) := by decide +kernel
theorem dX6_give_5 : decode cX6_give 5 = .ok (.invokevirtual 116, 3) := by decide +kernel
theorem dX6_give_8 : decode cX6_give 8 = .ok (.ifCond .eq 14, 3) := by decide +kernel
theorem dX6_give_11 : decode cX6_give 11 = .ok (.aload_n 0, 1) := by decide +kernel
theorem dX6_give_12 : decode cX6_give 12 = .ok (.getfield 55, 3) := by decide +kernel
theorem dX6_give_15 : decode cX6_give 15 = .ok (.iload_n 2, 1) := by decide +kernel
theorem dX6_give_16 : decode cX6_give 16 = .ok (.invokevirtual 97, 3) := by decide +kernel
theorem dX6_give_19 : decode cX6_give 19 = .ok (.ifCond .ne 5, 3) := by decide +kernel
theorem dX6_give_22 : decode cX6_give 22 = .ok (.iconst (-1), 1) := by decide +kernel
theorem dX6_give_23 : decode cX6_give 23 = .ok (.ireturn, 1) := by decide +kernel
theorem dX6_give_24 : decode cX6_give 24 = .ok (.aload_n 0, 1) := by decide +kernel
theorem dX6_give_25 : decode cX6_give 25 = .ok (.getfield 19, 3) := by decide +kernel
theorem dX6_give_28 : decode cX6_give 28 = .ok (.iload_n 1, 1) := by decide +kernel
theorem dX6_give_29 : decode cX6_give 29 = .ok (.invokevirtual 125, 3) := by decide +kernel
theorem dX6_give_32 : decode cX6_give 32 = .ok (.istore_n 3, 1) := by decide +kernel
theorem dX6_give_33 : decode cX6_give 33 = .ok (.iload_n 3, 1) := by decide +kernel
theorem dX6_give_34 : decode cX6_give 34 = .ok (.bipush (-4), 2) := by decide +kernel
theorem dX6_give_36 : decode cX6_give 36 = .ok (.if_icmp .eq 8, 3) := by decide +kernel
theorem dX6_give_39 : decode cX6_give 39 = .ok (.iload_n 3, 1) := by decide +kernel
theorem dX6_give_40 : decode cX6_give 40 = .ok (.iload_n 2, 1) := by decide +kernel
theorem dX6_give_41 : decode cX6_give 41 = .ok (.if_icmp .ne 6, 3) := by decide +kernel
theorem dX6_give_44 : decode cX6_give 44 = .ok (.bipush (-2), 2) := by decide +kernel
theorem dX6_give_46 : decode cX6_give 46 = .ok (.ireturn, 1) := by decide +kernel
theorem dX6_give_47 : decode cX6_give 47 = .ok (.aload_n 0, 1) := by decide +kernel
theorem dX6_give_48 : decode cX6_give 48 = .ok (.getfield 31, 3) := by decide +kernel
theorem dX6_give_51 : decode cX6_give 51 = .ok (.aload_n 0, 1) := by decide +kernel
theorem dX6_give_52 : decode cX6_give 52 = .ok (.getfield 19, 3) := by decide +kernel
theorem dX6_give_55 : decode cX6_give 55 = .ok (.invokevirtual 143, 3) := by decide +kernel
theorem dX6_give_58 : decode cX6_give 58 = .ok (.aload_n 0, 1) := by decide +kernel
theorem dX6_give_59 : decode cX6_give 59 = .ok (.getfield 19, 3) := by decide +kernel
theorem dX6_give_62 : decode cX6_give 62 = .ok (.iload_n 1, 1) := by decide +kernel
theorem dX6_give_63 : decode cX6_give 63 = .ok (.iload_n 2, 1) := by decide +kernel
theorem dX6_give_64 : decode cX6_give 64 = .ok (.invokevirtual 157, 3) := by decide +kernel
theorem dX6_give_67 : decode cX6_give 67 = .ok (.iload_n 3, 1) := by decide +kernel
theorem dX6_give_68 : decode cX6_give 68 = .ok (.ireturn, 1) := by decide +kernel
theorem dX6_undo_0 : decode cX6_undo 0 = .ok (.aload_n 0, 1) := by decide +kernel
theorem dX6_undo_1 : decode cX6_undo 1 = .ok (.getfield 31, 3) := by decide +kernel
theorem dX6_undo_4 : decode cX6_undo 4 = .ok (.aload_n 0, 1) := by decide +kernel
theorem dX6_undo_5 : decode cX6_undo 5 = .ok (.getfield 19, 3) := by decide +kernel
theorem dX6_undo_8 : decode cX6_undo 8 = .ok (.invokevirtual 160, 3) := by decide +kernel
theorem dX6_undo_11 : decode cX6_undo 11 = .ok (.ifCond .ne 6, 3) := by decide +kernel
theorem dX6_undo_14 : decode cX6_undo 14 = .ok (.bipush (-2), 2) := by decide +kernel
theorem dX6_undo_16 : decode cX6_undo 16 = .ok (.ireturn, 1) := by decide +kernel
theorem dX6_undo_17 : decode cX6_undo 17 = .ok (.aload_n 0, 1) := by decide +kernel
theorem dX6_undo_18 : decode cX6_undo 18 = .ok (.getfield 31, 3) := by decide +kernel
theorem dX6_undo_21 : decode cX6_undo 21 = .ok (.getfield 164, 3) := by decide +kernel
theorem dX6_undo_24 : decode cX6_undo 24 = .ok (.ireturn, 1) := by decide +kernel
theorem dX6_wins_0 : decode cX6_wins 0 = .ok (.aload_n 0, 1) := by decide +kernel
theorem dX6_wins_1 : decode cX6_wins 1 = .ok (.getfield 55, 3) := by decide +kernel
theorem dX6_wins_4 : decode cX6_wins 4 = .ok (.iload_n 1, 1) := by decide +kernel
theorem dX6_wins_5 : decode cX6_wins 5 = .ok (.invokevirtual 97, 3) := by decide +kernel
theorem dX6_wins_8 : decode cX6_wins 8 = .ok (.ifCond .eq 21, 3) := by decide +kernel
theorem dX6_wins_11 : decode cX6_wins 11 = .ok (.iload_n 2, 1) := by decide +kernel
theorem dX6_wins_12 : decode cX6_wins 12 = .ok (.iconst 1, 1) := by decide +kernel
theorem dX6_wins_13 : decode cX6_wins 13 = .ok (.if_icmp .lt 16, 3) := by decide +kernel
theorem dX6_wins_16 : decode cX6_wins 16 = .ok (.iload_n 2, 1) := by decide +kernel
theorem dX6_wins_17 : decode cX6_wins 17 = .ok (.bipush 6, 2) := by decide +kernel
theorem dX6_wins_19 : decode cX6_wins 19 = .ok (.if_icmp .gt 10, 3) := by decide +kernel
theorem dX6_wins_22 : decode cX6_wins 22 = .ok (.iload_n 3, 1) := by decide +kernel
theorem dX6_wins_23 : decode cX6_wins 23 = .ok (.invokestatic 167, 3) := by decide +kernel
theorem dX6_wins_26 : decode cX6_wins 26 = .ok (.ifCond .ne 5, 3) := by decide +kernel
theorem dX6_wins_29 : decode cX6_wins 29 = .ok (.iconst (-1), 1) := by decide +kernel
theorem dX6_wins_30 : decode cX6_wins 30 = .ok (.ireturn, 1) := by decide +kernel
theorem dX6_wins_31 : decode cX6_wins 31 = .ok (.aload_n 0, 1) := by decide +kernel
theorem dX6_wins_32 : decode cX6_wins 32 = .ok (.getfield 19, 3) := by decide +kernel
theorem dX6_wins_35 : decode cX6_wins 35 = .ok (.invokevirtual 170, 3) := by decide +kernel
theorem dX6_wins_38 : decode cX6_wins 38 = .ok (.istore 4, 2) := by decide +kernel
theorem dX6_wins_40 : decode cX6_wins 40 = .ok (.aload_n 0, 1) := by decide +kernel
theorem dX6_wins_41 : decode cX6_wins 41 = .ok (.iload_n 2, 1) := by decide +kernel
theorem dX6_wins_42 : decode cX6_wins 42 = .ok (.iload 4, 2) := by decide +kernel
theorem dX6_wins_44 : decode cX6_wins 44 = .ok (.invokevirtual 172, 3) := by decide +kernel
theorem dX6_wins_47 : decode cX6_wins 47 = .ok (.istore 5, 2) := by decide +kernel
theorem dX6_wins_49 : decode cX6_wins 49 = .ok (.iload 4, 2) := by decide +kernel
theorem dX6_wins_51 : decode cX6_wins 51 = .ok (.iload 5, 2) := by decide +kernel
theorem dX6_wins_53 : decode cX6_wins 53 = .ok (.invokestatic 175, 3) := by decide +kernel
theorem dX6_wins_56 : decode cX6_wins 56 = .ok (.lstore 6, 2) := by decide +kernel
theorem dX6_wins_58 : decode cX6_wins 58 = .ok (.iload 4, 2) := by decide +kernel
theorem dX6_wins_60 : decode cX6_wins 60 = .ok (.aload_n 0, 1) := by decide +kernel
theorem dX6_wins_61 : decode cX6_wins 61 = .ok (.getfield 19, 3) := by decide +kernel
theorem dX6_wins_64 : decode cX6_wins 64 = .ok (.iload_n 1, 1) := by decide +kernel
theorem dX6_wins_65 : decode cX6_wins 65 = .ok (.invokevirtual 101, 3) := by decide +kernel
theorem dX6_wins_68 : decode cX6_wins 68 = .ok (.isub, 1) := by decide +kernel
theorem dX6_wins_69 : decode cX6_wins 69 = .ok (.iload 5, 2) := by decide +kernel
theorem dX6_wins_71 : decode cX6_wins 71 = .ok (.invokestatic 175, 3) := by decide +kernel
theorem dX6_wins_74 : decode cX6_wins 74 = .ok (.lstore 8, 2) := by decide +kernel
theorem dX6_wins_76 : decode cX6_wins 76 = .ok (.lload 6, 2) := by decide +kernel
theorem dX6_wins_78 : decode cX6_wins 78 = .ok (.lload 8, 2) := by decide +kernel
theorem dX6_wins_80 : decode cX6_wins 80 = .ok (.lsub, 1) := by decide +kernel
theorem dX6_wins_81 : decode cX6_wins 81 = .ok (.lload 6, 2) := by decide +kernel
theorem dX6_wins_83 : decode cX6_wins 83 = .ok (.iload_n 3, 1) := by decide +kernel
theorem dX6_wins_84 : decode cX6_wins 84 = .ok (.invokestatic 179, 3) := by decide +kernel
theorem dX6_wins_87 : decode cX6_wins 87 = .ok (.l2i, 1) := by decide +kernel
theorem dX6_wins_88 : decode cX6_wins 88 = .ok (.ireturn, 1) := by decide +kernel
theorem dX6_mean_0 : decode cX6_mean 0 = .ok (.aload_n 0, 1) := by decide +kernel
theorem dX6_mean_1 : decode cX6_mean 1 = .ok (.getfield 55, 3) := by decide +kernel
theorem dX6_mean_4 : decode cX6_mean 4 = .ok (.iload_n 1, 1) := by decide +kernel
theorem dX6_mean_5 : decode cX6_mean 5 = .ok (.invokevirtual 97, 3) := by decide +kernel
theorem dX6_mean_8 : decode cX6_mean 8 = .ok (.ifCond .eq 10, 3) := by decide +kernel
theorem dX6_mean_11 : decode cX6_mean 11 = .ok (.iload_n 2, 1) := by decide +kernel
theorem dX6_mean_12 : decode cX6_mean 12 = .ok (.invokestatic 167, 3) := by decide +kernel
theorem dX6_mean_15 : decode cX6_mean 15 = .ok (.ifCond .ne 7, 3) := by decide +kernel
theorem dX6_mean_18 : decode cX6_mean 18 = .ok (.ldc2_w 183, 3) := by decide +kernel
theorem dX6_mean_21 : decode cX6_mean 21 = .ok (.lreturn, 1) := by decide +kernel
theorem dX6_mean_22 : decode cX6_mean 22 = .ok (.aload_n 0, 1) := by decide +kernel
theorem dX6_mean_23 : decode cX6_mean 23 = .ok (.getfield 19, 3) := by decide +kernel
theorem dX6_mean_26 : decode cX6_mean 26 = .ok (.invokevirtual 170, 3) := by decide +kernel
theorem dX6_mean_29 : decode cX6_mean 29 = .ok (.istore_n 3, 1) := by decide +kernel
theorem dX6_mean_30 : decode cX6_mean 30 = .ok (.aload_n 0, 1) := by decide +kernel
theorem dX6_mean_31 : decode cX6_mean 31 = .ok (.bipush 6, 2) := by decide +kernel
theorem dX6_mean_33 : decode cX6_mean 33 = .ok (.iload_n 3, 1) := by decide +kernel
theorem dX6_mean_34 : decode cX6_mean 34 = .ok (.invokevirtual 172, 3) := by decide +kernel
theorem dX6_mean_37 : decode cX6_mean 37 = .ok (.istore 4, 2) := by decide +kernel
theorem dX6_mean_39 : decode cX6_mean 39 = .ok (.iload_n 3, 1) := by decide +kernel
theorem dX6_mean_40 : decode cX6_mean 40 = .ok (.iload 4, 2) := by decide +kernel
theorem dX6_mean_42 : decode cX6_mean 42 = .ok (.invokestatic 175, 3) := by decide +kernel
theorem dX6_mean_45 : decode cX6_mean 45 = .ok (.lstore 5, 2) := by decide +kernel
theorem dX6_mean_47 : decode cX6_mean 47 = .ok (.ldc2_w 185, 3) := by decide +kernel
theorem dX6_mean_50 : decode cX6_mean 50 = .ok (.lload 5, 2) := by decide +kernel
theorem dX6_mean_52 : decode cX6_mean 52 = .ok (.lmul, 1) := by decide +kernel
theorem dX6_mean_53 : decode cX6_mean 53 = .ok (.aload_n 0, 1) := by decide +kernel
theorem dX6_mean_54 : decode cX6_mean 54 = .ok (.iload_n 1, 1) := by decide +kernel
theorem dX6_mean_55 : decode cX6_mean 55 = .ok (.iload_n 3, 1) := by decide +kernel
theorem dX6_mean_56 : decode cX6_mean 56 = .ok (.iload 4, 2) := by decide +kernel
theorem dX6_mean_58 : decode cX6_mean 58 = .ok (.invokevirtual 187, 3) := by decide +kernel
theorem dX6_mean_61 : decode cX6_mean 61 = .ok (.ladd, 1) := by decide +kernel
theorem dX6_mean_62 : decode cX6_mean 62 = .ok (.lload 5, 2) := by decide +kernel
theorem dX6_mean_64 : decode cX6_mean 64 = .ok (.iload_n 2, 1) := by decide +kernel
theorem dX6_mean_65 : decode cX6_mean 65 = .ok (.invokestatic 179, 3) := by decide +kernel
theorem dX6_mean_68 : decode cX6_mean 68 = .ok (.lreturn, 1) := by decide +kernel
theorem dX6_needs_0 : decode cX6_needs 0 = .ok (.aload_n 0, 1) := by decide +kernel
theorem dX6_needs_1 : decode cX6_needs 1 = .ok (.getfield 55, 3) := by decide +kernel
theorem dX6_needs_4 : decode cX6_needs 4 = .ok (.iload_n 1, 1) := by decide +kernel
theorem dX6_needs_5 : decode cX6_needs 5 = .ok (.invokevirtual 97, 3) := by decide +kernel
theorem dX6_needs_8 : decode cX6_needs 8 = .ok (.ifCond .eq 25, 3) := by decide +kernel
theorem dX6_needs_11 : decode cX6_needs 11 = .ok (.iload_n 2, 1) := by decide +kernel
theorem dX6_needs_12 : decode cX6_needs 12 = .ok (.iconst 1, 1) := by decide +kernel
theorem dX6_needs_13 : decode cX6_needs 13 = .ok (.if_icmp .lt 20, 3) := by decide +kernel
theorem dX6_needs_16 : decode cX6_needs 16 = .ok (.iload_n 2, 1) := by decide +kernel
theorem dX6_needs_17 : decode cX6_needs 17 = .ok (.bipush 6, 2) := by decide +kernel
theorem dX6_needs_19 : decode cX6_needs 19 = .ok (.if_icmp .gt 14, 3) := by decide +kernel
theorem dX6_needs_22 : decode cX6_needs 22 = .ok (.iload_n 3, 1) := by decide +kernel
theorem dX6_needs_23 : decode cX6_needs 23 = .ok (.iconst 1, 1) := by decide +kernel
theorem dX6_needs_24 : decode cX6_needs 24 = .ok (.if_icmp .lt 9, 3) := by decide +kernel
theorem dX6_needs_27 : decode cX6_needs 27 = .ok (.iload_n 3, 1) := by decide +kernel
theorem dX6_needs_28 : decode cX6_needs 28 = .ok (.bipush 10, 2) := by decide +kernel
theorem dX6_needs_30 : decode cX6_needs 30 = .ok (.if_icmp .le 5, 3) := by decide +kernel
theorem dX6_needs_33 : decode cX6_needs 33 = .ok (.iconst (-1), 1) := by decide +kernel
theorem dX6_needs_34 : decode cX6_needs 34 = .ok (.ireturn, 1) := by decide +kernel
theorem dX6_needs_35 : decode cX6_needs 35 = .ok (.aload_n 0, 1) := by decide +kernel
theorem dX6_needs_36 : decode cX6_needs 36 = .ok (.getfield 19, 3) := by decide +kernel
theorem dX6_needs_39 : decode cX6_needs 39 = .ok (.invokevirtual 170, 3) := by decide +kernel
theorem dX6_needs_42 : decode cX6_needs 42 = .ok (.aload_n 0, 1) := by decide +kernel
theorem dX6_needs_43 : decode cX6_needs 43 = .ok (.getfield 19, 3) := by decide +kernel
theorem dX6_needs_46 : decode cX6_needs 46 = .ok (.iload_n 1, 1) := by decide +kernel
theorem dX6_needs_47 : decode cX6_needs 47 = .ok (.invokevirtual 101, 3) := by decide +kernel
theorem dX6_needs_50 : decode cX6_needs 50 = .ok (.isub, 1) := by decide +kernel
theorem dX6_needs_51 : decode cX6_needs 51 = .ok (.istore 4, 2) := by decide +kernel
theorem dX6_needs_53 : decode cX6_needs 53 = .ok (.iconst 0, 1) := by decide +kernel
theorem dX6_needs_54 : decode cX6_needs 54 = .ok (.istore 5, 2) := by decide +kernel
theorem dX6_needs_56 : decode cX6_needs 56 = .ok (.iload 5, 2) := by decide +kernel
theorem dX6_needs_58 : decode cX6_needs 58 = .ok (.bipush 9, 2) := by decide +kernel
theorem dX6_needs_60 : decode cX6_needs 60 = .ok (.if_icmp .gt 63, 3) := by decide +kernel
theorem dX6_needs_63 : decode cX6_needs 63 = .ok (.aload_n 0, 1) := by decide +kernel
theorem dX6_needs_64 : decode cX6_needs 64 = .ok (.iload_n 2, 1) := by decide +kernel
theorem dX6_needs_65 : decode cX6_needs 65 = .ok (.iload 4, 2) := by decide +kernel
theorem dX6_needs_67 : decode cX6_needs 67 = .ok (.iload 5, 2) := by decide +kernel
theorem dX6_needs_69 : decode cX6_needs 69 = .ok (.iadd, 1) := by decide +kernel
theorem dX6_needs_70 : decode cX6_needs 70 = .ok (.invokevirtual 172, 3) := by decide +kernel
theorem dX6_needs_73 : decode cX6_needs 73 = .ok (.istore 6, 2) := by decide +kernel
theorem dX6_needs_75 : decode cX6_needs 75 = .ok (.iload 4, 2) := by decide +kernel
theorem dX6_needs_77 : decode cX6_needs 77 = .ok (.iload 5, 2) := by decide +kernel
theorem dX6_needs_79 : decode cX6_needs 79 = .ok (.iadd, 1) := by decide +kernel
theorem dX6_needs_80 : decode cX6_needs 80 = .ok (.iload 6, 2) := by decide +kernel
theorem dX6_needs_82 : decode cX6_needs 82 = .ok (.invokestatic 175, 3) := by decide +kernel
theorem dX6_needs_85 : decode cX6_needs 85 = .ok (.lstore 7, 2) := by decide +kernel
theorem dX6_needs_87 : decode cX6_needs 87 = .ok (.lload 7, 2) := by decide +kernel
theorem dX6_needs_89 : decode cX6_needs 89 = .ok (.iload 4, 2) := by decide +kernel
theorem dX6_needs_91 : decode cX6_needs 91 = .ok (.iload 6, 2) := by decide +kernel
theorem dX6_needs_93 : decode cX6_needs 93 = .ok (.invokestatic 175, 3) := by decide +kernel
theorem dX6_needs_96 : decode cX6_needs 96 = .ok (.lsub, 1) := by decide +kernel
theorem dX6_needs_97 : decode cX6_needs 97 = .ok (.lstore 9, 2) := by decide +kernel
theorem dX6_needs_99 : decode cX6_needs 99 = .ok (.ldc2_w 191, 3) := by decide +kernel
theorem dX6_needs_102 : decode cX6_needs 102 = .ok (.lload 9, 2) := by decide +kernel
theorem dX6_needs_104 : decode cX6_needs 104 = .ok (.lmul, 1) := by decide +kernel
theorem dX6_needs_105 : decode cX6_needs 105 = .ok (.iload_n 3, 1) := by decide +kernel
theorem dX6_needs_106 : decode cX6_needs 106 = .ok (.i2l, 1) := by decide +kernel
theorem dX6_needs_107 : decode cX6_needs 107 = .ok (.lload 7, 2) := by decide +kernel
theorem dX6_needs_109 : decode cX6_needs 109 = .ok (.lmul, 1) := by decide +kernel
theorem dX6_needs_110 : decode cX6_needs 110 = .ok (.lcmp, 1) := by decide +kernel
theorem dX6_needs_111 : decode cX6_needs 111 = .ok (.ifCond .lt 6, 3) := by decide +kernel
theorem dX6_needs_114 : decode cX6_needs 114 = .ok (.iload 5, 2) := by decide +kernel
theorem dX6_needs_116 : decode cX6_needs 116 = .ok (.ireturn, 1) := by decide +kernel
theorem dX6_needs_117 : decode cX6_needs 117 = .ok (.iinc 5 1, 3) := by decide +kernel
theorem dX6_needs_120 : decode cX6_needs 120 = .ok (.goto (-64), 3) := by decide +kernel
theorem dX6_needs_123 : decode cX6_needs 123 = .ok (.bipush (-4), 2) := by decide +kernel
theorem dX6_needs_125 : decode cX6_needs 125 = .ok (.ireturn, 1) := by decide +kernel
theorem dX6_swaps_0 : decode cX6_swaps 0 = .ok (.aload_n 0, 1) := by decide +kernel
theorem dX6_swaps_1 : decode cX6_swaps 1 = .ok (.getfield 48, 3) := by decide +kernel
theorem dX6_swaps_4 : decode cX6_swaps 4 = .ok (.aload_n 0, 1) := by decide +kernel
theorem dX6_swaps_5 : decode cX6_swaps 5 = .ok (.getfield 55, 3) := by decide +kernel
theorem dX6_swaps_8 : decode cX6_swaps 8 = .ok (.aload_n 0, 1) := by decide +kernel
theorem dX6_swaps_9 : decode cX6_swaps 9 = .ok (.getfield 19, 3) := by decide +kernel
theorem dX6_swaps_12 : decode cX6_swaps 12 = .ok (.invokevirtual 193, 3) := by decide +kernel
theorem dX6_swaps_15 : decode cX6_swaps 15 = .ok (.ireturn, 1) := by decide +kernel
theorem dX6_gives_0 : decode cX6_gives 0 = .ok (.aload_n 0, 1) := by decide +kernel
theorem dX6_gives_1 : decode cX6_gives 1 = .ok (.getfield 48, 3) := by decide +kernel
theorem dX6_gives_4 : decode cX6_gives 4 = .ok (.aload_n 0, 1) := by decide +kernel
theorem dX6_gives_5 : decode cX6_gives 5 = .ok (.getfield 55, 3) := by decide +kernel
theorem dX6_gives_8 : decode cX6_gives 8 = .ok (.aload_n 0, 1) := by decide +kernel
theorem dX6_gives_9 : decode cX6_gives 9 = .ok (.getfield 19, 3) := by decide +kernel
theorem dX6_gives_12 : decode cX6_gives 12 = .ok (.invokevirtual 197, 3) := by decide +kernel
theorem dX6_gives_15 : decode cX6_gives 15 = .ok (.ireturn, 1) := by decide +kernel
theorem dX6_share_0 : decode cX6_share 0 = .ok (.iload_n 1, 1) := by decide +kernel
theorem dX6_share_1 : decode cX6_share 1 = .ok (.iconst (-1), 1) := by decide +kernel
theorem dX6_share_2 : decode cX6_share 2 = .ok (.if_icmp .eq 16, 3) := by decide +kernel
theorem dX6_share_5 : decode cX6_share 5 = .ok (.aload_n 0, 1) := by decide +kernel
theorem dX6_share_6 : decode cX6_share 6 = .ok (.getfield 55, 3) := by decide +kernel
theorem dX6_share_9 : decode cX6_share 9 = .ok (.iload_n 1, 1) := by decide +kernel
theorem dX6_share_10 : decode cX6_share 10 = .ok (.invokevirtual 116, 3) := by decide +kernel
theorem dX6_share_13 : decode cX6_share 13 = .ok (.ifCond .ne 5, 3) := by decide +kernel
theorem dX6_share_16 : decode cX6_share 16 = .ok (.iconst (-1), 1) := by decide +kernel
theorem dX6_share_17 : decode cX6_share 17 = .ok (.ireturn, 1) := by decide +kernel
theorem dX6_share_18 : decode cX6_share 18 = .ok (.iload_n 1, 1) := by decide +kernel
theorem dX6_share_19 : decode cX6_share 19 = .ok (.iconst (-1), 1) := by decide +kernel
theorem dX6_share_20 : decode cX6_share 20 = .ok (.if_icmp .ne 23, 3) := by decide +kernel
theorem dX6_share_23 : decode cX6_share 23 = .ok (.sipush 1000, 3) := by decide +kernel
theorem dX6_share_26 : decode cX6_share 26 = .ok (.aload_n 0, 1) := by decide +kernel
theorem dX6_share_27 : decode cX6_share 27 = .ok (.getfield 48, 3) := by decide +kernel
theorem dX6_share_30 : decode cX6_share 30 = .ok (.aload_n 0, 1) := by decide +kernel
theorem dX6_share_31 : decode cX6_share 31 = .ok (.getfield 55, 3) := by decide +kernel
theorem dX6_share_34 : decode cX6_share 34 = .ok (.aload_n 0, 1) := by decide +kernel
theorem dX6_share_35 : decode cX6_share 35 = .ok (.getfield 19, 3) := by decide +kernel
theorem dX6_share_38 : decode cX6_share 38 = .ok (.invokevirtual 200, 3) := by decide +kernel
theorem dX6_share_41 : decode cX6_share 41 = .ok (.iadd, 1) := by decide +kernel
theorem dX6_share_42 : decode cX6_share 42 = .ok (.ireturn, 1) := by decide +kernel
theorem dX6_share_43 : decode cX6_share 43 = .ok (.aload_n 0, 1) := by decide +kernel
theorem dX6_share_44 : decode cX6_share 44 = .ok (.getfield 48, 3) := by decide +kernel
theorem dX6_share_47 : decode cX6_share 47 = .ok (.aload_n 0, 1) := by decide +kernel
theorem dX6_share_48 : decode cX6_share 48 = .ok (.getfield 55, 3) := by decide +kernel
theorem dX6_share_51 : decode cX6_share 51 = .ok (.aload_n 0, 1) := by decide +kernel
theorem dX6_share_52 : decode cX6_share 52 = .ok (.getfield 19, 3) := by decide +kernel
theorem dX6_share_55 : decode cX6_share 55 = .ok (.iload_n 1, 1) := by decide +kernel
theorem dX6_share_56 : decode cX6_share 56 = .ok (.invokevirtual 203, 3) := by decide +kernel
theorem dX6_share_59 : decode cX6_share 59 = .ok (.ireturn, 1) := by decide +kernel
theorem dX6_envy_0 : decode cX6_envy 0 = .ok (.aload_n 0, 1) := by decide +kernel
theorem dX6_envy_1 : decode cX6_envy 1 = .ok (.getfield 48, 3) := by decide +kernel
theorem dX6_envy_4 : decode cX6_envy 4 = .ok (.aload_n 0, 1) := by decide +kernel
theorem dX6_envy_5 : decode cX6_envy 5 = .ok (.getfield 55, 3) := by decide +kernel
theorem dX6_envy_8 : decode cX6_envy 8 = .ok (.aload_n 0, 1) := by decide +kernel
theorem dX6_envy_9 : decode cX6_envy 9 = .ok (.getfield 19, 3) := by decide +kernel
theorem dX6_envy_12 : decode cX6_envy 12 = .ok (.invokevirtual 207, 3) := by decide +kernel
theorem dX6_envy_15 : decode cX6_envy 15 = .ok (.ireturn, 1) := by decide +kernel
theorem dX6_ring_0 : decode cX6_ring 0 = .ok (.aload_n 0, 1) := by decide +kernel
theorem dX6_ring_1 : decode cX6_ring 1 = .ok (.getfield 48, 3) := by decide +kernel
theorem dX6_ring_4 : decode cX6_ring 4 = .ok (.aload_n 0, 1) := by decide +kernel
theorem dX6_ring_5 : decode cX6_ring 5 = .ok (.getfield 55, 3) := by decide +kernel
theorem dX6_ring_8 : decode cX6_ring 8 = .ok (.aload_n 0, 1) := by decide +kernel
theorem dX6_ring_9 : decode cX6_ring 9 = .ok (.getfield 19, 3) := by decide +kernel
theorem dX6_ring_12 : decode cX6_ring 12 = .ok (.invokevirtual 210, 3) := by decide +kernel
theorem dX6_ring_15 : decode cX6_ring 15 = .ok (.ireturn, 1) := by decide +kernel
theorem dX6_note_0 : decode cX6_note 0 = .ok (.aload_n 0, 1) := by decide +kernel
theorem dX6_note_1 : decode cX6_note 1 = .ok (.getfield 55, 3) := by decide +kernel
theorem dX6_note_4 : decode cX6_note 4 = .ok (.iload_n 1, 1) := by decide +kernel
theorem dX6_note_5 : decode cX6_note 5 = .ok (.invokevirtual 97, 3) := by decide +kernel
theorem dX6_note_8 : decode cX6_note 8 = .ok (.ifCond .ne 5, 3) := by decide +kernel
theorem dX6_note_11 : decode cX6_note 11 = .ok (.iconst (-1), 1) := by decide +kernel
theorem dX6_note_12 : decode cX6_note 12 = .ok (.ireturn, 1) := by decide +kernel
theorem dX6_note_13 : decode cX6_note 13 = .ok (.aload_n 0, 1) := by decide +kernel
theorem dX6_note_14 : decode cX6_note 14 = .ok (.getfield 41, 3) := by decide +kernel
theorem dX6_note_17 : decode cX6_note 17 = .ok (.getfield 213, 3) := by decide +kernel
theorem dX6_note_20 : decode cX6_note 20 = .ok (.bipush 8, 2) := by decide +kernel
theorem dX6_note_22 : decode cX6_note 22 = .ok (.if_icmp .lt 6, 3) := by decide +kernel
theorem dX6_note_25 : decode cX6_note 25 = .ok (.bipush (-3), 2) := by decide +kernel
theorem dX6_note_27 : decode cX6_note 27 = .ok (.ireturn, 1) := by decide +kernel
theorem dX6_note_28 : decode cX6_note 28 = .ok (.aload_n 0, 1) := by decide +kernel
theorem dX6_note_29 : decode cX6_note 29 = .ok (.getfield 41, 3) := by decide +kernel
theorem dX6_note_32 : decode cX6_note 32 = .ok (.iload_n 1, 1) := by decide +kernel
theorem dX6_note_33 : decode cX6_note 33 = .ok (.invokevirtual 214, 3) := by decide +kernel
theorem dX6_note_36 : decode cX6_note 36 = .ok (.aload_n 0, 1) := by decide +kernel
theorem dX6_note_37 : decode cX6_note 37 = .ok (.getfield 41, 3) := by decide +kernel
theorem dX6_note_40 : decode cX6_note 40 = .ok (.getfield 213, 3) := by decide +kernel
theorem dX6_note_43 : decode cX6_note 43 = .ok (.ireturn, 1) := by decide +kernel
theorem dX6_forget_0 : decode cX6_forget 0 = .ok (.aload_n 0, 1) := by decide +kernel
theorem dX6_forget_1 : decode cX6_forget 1 = .ok (.getfield 41, 3) := by decide +kernel
theorem dX6_forget_4 : decode cX6_forget 4 = .ok (.getfield 213, 3) := by decide +kernel
theorem dX6_forget_7 : decode cX6_forget 7 = .ok (.istore_n 1, 1) := by decide +kernel
theorem dX6_forget_8 : decode cX6_forget 8 = .ok (.aload_n 0, 1) := by decide +kernel
theorem dX6_forget_9 : decode cX6_forget 9 = .ok (.getfield 41, 3) := by decide +kernel
theorem dX6_forget_12 : decode cX6_forget 12 = .ok (.invokevirtual 96, 3) := by decide +kernel
theorem dX6_forget_15 : decode cX6_forget 15 = .ok (.iload_n 1, 1) := by decide +kernel
theorem dX6_forget_16 : decode cX6_forget 16 = .ok (.ireturn, 1) := by decide +kernel
theorem dX6_fair_0 : decode cX6_fair 0 = .ok (.aload_n 0, 1) := by decide +kernel
theorem dX6_fair_1 : decode cX6_fair 1 = .ok (.getfield 55, 3) := by decide +kernel
theorem dX6_fair_4 : decode cX6_fair 4 = .ok (.iload_n 1, 1) := by decide +kernel
theorem dX6_fair_5 : decode cX6_fair 5 = .ok (.invokevirtual 97, 3) := by decide +kernel
theorem dX6_fair_8 : decode cX6_fair 8 = .ok (.ifCond .eq 21, 3) := by decide +kernel
theorem dX6_fair_11 : decode cX6_fair 11 = .ok (.iload_n 2, 1) := by decide +kernel
theorem dX6_fair_12 : decode cX6_fair 12 = .ok (.iconst 1, 1) := by decide +kernel
theorem dX6_fair_13 : decode cX6_fair 13 = .ok (.if_icmp .lt 16, 3) := by decide +kernel
theorem dX6_fair_16 : decode cX6_fair 16 = .ok (.iload_n 2, 1) := by decide +kernel
theorem dX6_fair_17 : decode cX6_fair 17 = .ok (.bipush 9, 2) := by decide +kernel
theorem dX6_fair_19 : decode cX6_fair 19 = .ok (.if_icmp .gt 10, 3) := by decide +kernel
theorem dX6_fair_22 : decode cX6_fair 22 = .ok (.iload_n 3, 1) := by decide +kernel
theorem dX6_fair_23 : decode cX6_fair 23 = .ok (.invokestatic 167, 3) := by decide +kernel
theorem dX6_fair_26 : decode cX6_fair 26 = .ok (.ifCond .ne 7, 3) := by decide +kernel
theorem dX6_fair_29 : decode cX6_fair 29 = .ok (.ldc2_w 183, 3) := by decide +kernel
theorem dX6_fair_32 : decode cX6_fair 32 = .ok (.lreturn, 1) := by decide +kernel
theorem dX6_fair_33 : decode cX6_fair 33 = .ok (.aload_n 0, 1) := by decide +kernel
theorem dX6_fair_34 : decode cX6_fair 34 = .ok (.getfield 41, 3) := by decide +kernel
theorem dX6_fair_37 : decode cX6_fair 37 = .ok (.aload_n 0, 1) := by decide +kernel
theorem dX6_fair_38 : decode cX6_fair 38 = .ok (.getfield 55, 3) := by decide +kernel
theorem dX6_fair_41 : decode cX6_fair 41 = .ok (.invokevirtual 217, 3) := by decide +kernel
theorem dX6_fair_44 : decode cX6_fair 44 = .ok (.ifCond .ne 7, 3) := by decide +kernel
theorem dX6_fair_47 : decode cX6_fair 47 = .ok (.ldc2_w 221, 3) := by decide +kernel
theorem dX6_fair_50 : decode cX6_fair 50 = .ok (.lreturn, 1) := by decide +kernel
theorem dX6_fair_51 : decode cX6_fair 51 = .ok (.iload_n 2, 1) := by decide +kernel
theorem dX6_fair_52 : decode cX6_fair 52 = .ok (.i2l, 1) := by decide +kernel
theorem dX6_fair_53 : decode cX6_fair 53 = .ok (.aload_n 0, 1) := by decide +kernel
theorem dX6_fair_54 : decode cX6_fair 54 = .ok (.getfield 41, 3) := by decide +kernel
theorem dX6_fair_57 : decode cX6_fair 57 = .ok (.aload_n 0, 1) := by decide +kernel
theorem dX6_fair_58 : decode cX6_fair 58 = .ok (.getfield 55, 3) := by decide +kernel
theorem dX6_fair_61 : decode cX6_fair 61 = .ok (.iload_n 1, 1) := by decide +kernel
theorem dX6_fair_62 : decode cX6_fair 62 = .ok (.invokevirtual 223, 3) := by decide +kernel
theorem dX6_fair_65 : decode cX6_fair 65 = .ok (.lmul, 1) := by decide +kernel
theorem dX6_fair_66 : decode cX6_fair 66 = .ok (.lstore 4, 2) := by decide +kernel
theorem dX6_fair_68 : decode cX6_fair 68 = .ok (.bipush 10, 2) := by decide +kernel
theorem dX6_fair_70 : decode cX6_fair 70 = .ok (.iload_n 2, 1) := by decide +kernel
theorem dX6_fair_71 : decode cX6_fair 71 = .ok (.isub, 1) := by decide +kernel
theorem dX6_fair_72 : decode cX6_fair 72 = .ok (.i2l, 1) := by decide +kernel
theorem dX6_fair_73 : decode cX6_fair 73 = .ok (.aload_n 0, 1) := by decide +kernel
theorem dX6_fair_74 : decode cX6_fair 74 = .ok (.getfield 41, 3) := by decide +kernel
theorem dX6_fair_77 : decode cX6_fair 77 = .ok (.aload_n 0, 1) := by decide +kernel
theorem dX6_fair_78 : decode cX6_fair 78 = .ok (.getfield 55, 3) := by decide +kernel
theorem dX6_fair_81 : decode cX6_fair 81 = .ok (.iload_n 1, 1) := by decide +kernel
theorem dX6_fair_82 : decode cX6_fair 82 = .ok (.invokevirtual 227, 3) := by decide +kernel
theorem dX6_fair_85 : decode cX6_fair 85 = .ok (.lmul, 1) := by decide +kernel
theorem dX6_fair_86 : decode cX6_fair 86 = .ok (.lstore 6, 2) := by decide +kernel
theorem dX6_fair_88 : decode cX6_fair 88 = .ok (.lload 4, 2) := by decide +kernel
theorem dX6_fair_90 : decode cX6_fair 90 = .ok (.lload 4, 2) := by decide +kernel
theorem dX6_fair_92 : decode cX6_fair 92 = .ok (.lload 6, 2) := by decide +kernel
theorem dX6_fair_94 : decode cX6_fair 94 = .ok (.ladd, 1) := by decide +kernel
theorem dX6_fair_95 : decode cX6_fair 95 = .ok (.iload_n 3, 1) := by decide +kernel
theorem dX6_fair_96 : decode cX6_fair 96 = .ok (.invokestatic 179, 3) := by decide +kernel
theorem dX6_fair_99 : decode cX6_fair 99 = .ok (.lreturn, 1) := by decide +kernel
theorem dX6_seats_0 : decode cX6_seats 0 = .ok (.iload_n 1, 1) := by decide +kernel
theorem dX6_seats_1 : decode cX6_seats 1 = .ok (.ifCond .lt 9, 3) := by decide +kernel
theorem dX6_seats_4 : decode cX6_seats 4 = .ok (.iload_n 1, 1) := by decide +kernel
theorem dX6_seats_5 : decode cX6_seats 5 = .ok (.bipush 8, 2) := by decide +kernel
theorem dX6_seats_7 : decode cX6_seats 7 = .ok (.if_icmp .le 7, 3) := by decide +kernel
theorem dX6_seats_10 : decode cX6_seats 10 = .ok (.ldc2_w 183, 3) := by decide +kernel
theorem dX6_seats_13 : decode cX6_seats 13 = .ok (.lreturn, 1) := by decide +kernel
theorem dX6_seats_14 : decode cX6_seats 14 = .ok (.aload_n 0, 1) := by decide +kernel
theorem dX6_seats_15 : decode cX6_seats 15 = .ok (.getfield 55, 3) := by decide +kernel
theorem dX6_seats_18 : decode cX6_seats 18 = .ok (.iload_n 1, 1) := by decide +kernel
theorem dX6_seats_19 : decode cX6_seats 19 = .ok (.invokevirtual 230, 3) := by decide +kernel
theorem dX6_seats_22 : decode cX6_seats 22 = .ok (.lreturn, 1) := by decide +kernel
theorem dX6_year_0 : decode cX6_year 0 = .ok (.iload_n 1, 1) := by decide +kernel
theorem dX6_year_1 : decode cX6_year 1 = .ok (.ifCond .lt 30, 3) := by decide +kernel
theorem dX6_year_4 : decode cX6_year 4 = .ok (.iload_n 1, 1) := by decide +kernel
theorem dX6_year_5 : decode cX6_year 5 = .ok (.sipush 9999, 3) := by decide +kernel
theorem dX6_year_8 : decode cX6_year 8 = .ok (.if_icmp .gt 23, 3) := by decide +kernel
theorem dX6_year_11 : decode cX6_year 11 = .ok (.iload_n 2, 1) := by decide +kernel
theorem dX6_year_12 : decode cX6_year 12 = .ok (.iconst 1, 1) := by decide +kernel
theorem dX6_year_13 : decode cX6_year 13 = .ok (.if_icmp .lt 18, 3) := by decide +kernel
theorem dX6_year_16 : decode cX6_year 16 = .ok (.iload_n 2, 1) := by decide +kernel
theorem dX6_year_17 : decode cX6_year 17 = .ok (.bipush 60, 2) := by decide +kernel
theorem dX6_year_19 : decode cX6_year 19 = .ok (.if_icmp .gt 12, 3) := by decide +kernel
theorem dX6_year_22 : decode cX6_year 22 = .ok (.iload_n 3, 1) := by decide +kernel
theorem dX6_year_23 : decode cX6_year 23 = .ok (.ifCond .lt 8, 3) := by decide +kernel
theorem dX6_year_26 : decode cX6_year 26 = .ok (.iload_n 3, 1) := by decide +kernel
theorem dX6_year_27 : decode cX6_year 27 = .ok (.iconst 1, 1) := by decide +kernel
theorem dX6_year_28 : decode cX6_year 28 = .ok (.if_icmp .le 5, 3) := by decide +kernel
theorem dX6_year_31 : decode cX6_year 31 = .ok (.iconst (-1), 1) := by decide +kernel
theorem dX6_year_32 : decode cX6_year 32 = .ok (.ireturn, 1) := by decide +kernel
theorem dX6_year_33 : decode cX6_year 33 = .ok (.aload_n 0, 1) := by decide +kernel
theorem dX6_year_34 : decode cX6_year 34 = .ok (.getfield 23, 3) := by decide +kernel
theorem dX6_year_37 : decode cX6_year 37 = .ok (.aload_n 0, 1) := by decide +kernel
theorem dX6_year_38 : decode cX6_year 38 = .ok (.getfield 19, 3) := by decide +kernel
theorem dX6_year_41 : decode cX6_year 41 = .ok (.invokevirtual 234, 3) := by decide +kernel
theorem dX6_year_44 : decode cX6_year 44 = .ok (.iconst 0, 1) := by decide +kernel
theorem dX6_year_45 : decode cX6_year 45 = .ok (.istore 4, 2) := by decide +kernel
theorem dX6_year_47 : decode cX6_year 47 = .ok (.iload 4, 2) := by decide +kernel
theorem dX6_year_49 : decode cX6_year 49 = .ok (.iload_n 2, 1) := by decide +kernel
theorem dX6_year_50 : decode cX6_year 50 = .ok (.if_icmp .ge 41, 3) := by decide +kernel
theorem dX6_year_53 : decode cX6_year 53 = .ok (.ldc2_w 237, 3) := by decide +kernel
theorem dX6_year_56 : decode cX6_year 56 = .ok (.iload_n 1, 1) := by decide +kernel
theorem dX6_year_57 : decode cX6_year 57 = .ok (.i2l, 1) := by decide +kernel
theorem dX6_year_58 : decode cX6_year 58 = .ok (.lmul, 1) := by decide +kernel
theorem dX6_year_59 : decode cX6_year 59 = .ok (.ldc2_w 239, 3) := by decide +kernel
theorem dX6_year_62 : decode cX6_year 62 = .ok (.iload 4, 2) := by decide +kernel
theorem dX6_year_64 : decode cX6_year 64 = .ok (.i2l, 1) := by decide +kernel
theorem dX6_year_65 : decode cX6_year 65 = .ok (.lmul, 1) := by decide +kernel
theorem dX6_year_66 : decode cX6_year 66 = .ok (.ladd, 1) := by decide +kernel
theorem dX6_year_67 : decode cX6_year 67 = .ok (.lconst 1, 1) := by decide +kernel
theorem dX6_year_68 : decode cX6_year 68 = .ok (.ladd, 1) := by decide +kernel
theorem dX6_year_69 : decode cX6_year 69 = .ok (.lstore 5, 2) := by decide +kernel
theorem dX6_year_71 : decode cX6_year 71 = .ok (.aload_n 0, 1) := by decide +kernel
theorem dX6_year_72 : decode cX6_year 72 = .ok (.lload 5, 2) := by decide +kernel
theorem dX6_year_74 : decode cX6_year 74 = .ok (.lload 5, 2) := by decide +kernel
theorem dX6_year_76 : decode cX6_year 76 = .ok (.lmul, 1) := by decide +kernel
theorem dX6_year_77 : decode cX6_year 77 = .ok (.ldc2_w 241, 3) := by decide +kernel
theorem dX6_year_80 : decode cX6_year 80 = .ok (.lrem, 1) := by decide +kernel
theorem dX6_year_81 : decode cX6_year 81 = .ok (.l2i, 1) := by decide +kernel
theorem dX6_year_82 : decode cX6_year 82 = .ok (.invokevirtual 243, 3) := by decide +kernel
theorem dX6_year_85 : decode cX6_year 85 = .ok (.iinc 4 1, 3) := by decide +kernel
theorem dX6_year_88 : decode cX6_year 88 = .ok (.goto (-41), 3) := by decide +kernel
theorem dX6_year_91 : decode cX6_year 91 = .ok (.iload_n 3, 1) := by decide +kernel
theorem dX6_year_92 : decode cX6_year 92 = .ok (.ifCond .ne 13, 3) := by decide +kernel
theorem dX6_year_95 : decode cX6_year 95 = .ok (.aload_n 0, 1) := by decide +kernel
theorem dX6_year_96 : decode cX6_year 96 = .ok (.getfield 23, 3) := by decide +kernel
theorem dX6_year_99 : decode cX6_year 99 = .ok (.invokevirtual 246, 3) := by decide +kernel
theorem dX6_year_102 : decode cX6_year 102 = .ok (.goto 15, 3) := by decide +kernel
theorem dX6_year_105 : decode cX6_year 105 = .ok (.sipush 1000, 3) := by decide +kernel
theorem dX6_year_108 : decode cX6_year 108 = .ok (.aload_n 0, 1) := by decide +kernel
theorem dX6_year_109 : decode cX6_year 109 = .ok (.aload_n 0, 1) := by decide +kernel
theorem dX6_year_110 : decode cX6_year 110 = .ok (.getfield 23, 3) := by decide +kernel
theorem dX6_year_113 : decode cX6_year 113 = .ok (.invokevirtual 249, 3) := by decide +kernel
theorem dX6_year_116 : decode cX6_year 116 = .ok (.iadd, 1) := by decide +kernel
theorem dX6_year_117 : decode cX6_year 117 = .ok (.ireturn, 1) := by decide +kernel
theorem dX6_keep_0 : decode cX6_keep 0 = .ok (.aload_n 0, 1) := by decide +kernel
theorem dX6_keep_1 : decode cX6_keep 1 = .ok (.getfield 35, 3) := by decide +kernel
theorem dX6_keep_4 : decode cX6_keep 4 = .ok (.invokevirtual 253, 3) := by decide +kernel
theorem dX6_keep_7 : decode cX6_keep 7 = .ok (.ifCond .eq 6, 3) := by decide +kernel
theorem dX6_keep_10 : decode cX6_keep 10 = .ok (.bipush (-3), 2) := by decide +kernel
theorem dX6_keep_12 : decode cX6_keep 12 = .ok (.ireturn, 1) := by decide +kernel
theorem dX6_keep_13 : decode cX6_keep 13 = .ok (.aload_n 0, 1) := by decide +kernel
theorem dX6_keep_14 : decode cX6_keep 14 = .ok (.getfield 35, 3) := by decide +kernel
theorem dX6_keep_17 : decode cX6_keep 17 = .ok (.aload_n 0, 1) := by decide +kernel
theorem dX6_keep_18 : decode cX6_keep 18 = .ok (.getfield 19, 3) := by decide +kernel
theorem dX6_keep_21 : decode cX6_keep 21 = .ok (.invokevirtual 143, 3) := by decide +kernel
theorem dX6_keep_24 : decode cX6_keep 24 = .ok (.aload_n 0, 1) := by decide +kernel
theorem dX6_keep_25 : decode cX6_keep 25 = .ok (.getfield 35, 3) := by decide +kernel
theorem dX6_keep_28 : decode cX6_keep 28 = .ok (.getfield 164, 3) := by decide +kernel
theorem dX6_keep_31 : decode cX6_keep 31 = .ok (.ireturn, 1) := by decide +kernel
theorem dX6_back_0 : decode cX6_back 0 = .ok (.aload_n 0, 1) := by decide +kernel
theorem dX6_back_1 : decode cX6_back 1 = .ok (.getfield 35, 3) := by decide +kernel
theorem dX6_back_4 : decode cX6_back 4 = .ok (.aload_n 0, 1) := by decide +kernel
theorem dX6_back_5 : decode cX6_back 5 = .ok (.getfield 19, 3) := by decide +kernel
theorem dX6_back_8 : decode cX6_back 8 = .ok (.invokevirtual 160, 3) := by decide +kernel
theorem dX6_back_11 : decode cX6_back 11 = .ok (.ifCond .ne 6, 3) := by decide +kernel
theorem dX6_back_14 : decode cX6_back 14 = .ok (.bipush (-2), 2) := by decide +kernel
theorem dX6_back_16 : decode cX6_back 16 = .ok (.ireturn, 1) := by decide +kernel
theorem dX6_back_17 : decode cX6_back 17 = .ok (.aload_n 0, 1) := by decide +kernel
theorem dX6_back_18 : decode cX6_back 18 = .ok (.getfield 31, 3) := by decide +kernel
theorem dX6_back_21 : decode cX6_back 21 = .ok (.invokevirtual 95, 3) := by decide +kernel
theorem dX6_back_24 : decode cX6_back 24 = .ok (.aload_n 0, 1) := by decide +kernel
theorem dX6_back_25 : decode cX6_back 25 = .ok (.getfield 35, 3) := by decide +kernel
theorem dX6_back_28 : decode cX6_back 28 = .ok (.getfield 164, 3) := by decide +kernel
theorem dX6_back_31 : decode cX6_back 31 = .ok (.ireturn, 1) := by decide +kernel
theorem dX6_count_0 : decode cX6_count 0 = .ok (.iload_n 1, 1) := by decide +kernel
theorem dX6_count_1 : decode cX6_count 1 = .ok (.tableswitch 162 0 9 #[55, 63, 71, 79, 109, 117, 130, 138, 146, 154], 55) := by decide +kernel
theorem dX6_count_56 : decode cX6_count 56 = .ok (.aload_n 0, 1) := by decide +kernel
theorem dX6_count_57 : decode cX6_count 57 = .ok (.getfield 55, 3) := by decide +kernel
theorem dX6_count_60 : decode cX6_count 60 = .ok (.getfield 92, 3) := by decide +kernel
theorem dX6_count_63 : decode cX6_count 63 = .ok (.ireturn, 1) := by decide +kernel
theorem dX6_count_64 : decode cX6_count 64 = .ok (.aload_n 0, 1) := by decide +kernel
theorem dX6_count_65 : decode cX6_count 65 = .ok (.getfield 55, 3) := by decide +kernel
theorem dX6_count_68 : decode cX6_count 68 = .ok (.getfield 140, 3) := by decide +kernel
theorem dX6_count_71 : decode cX6_count 71 = .ok (.ireturn, 1) := by decide +kernel
theorem dX6_count_72 : decode cX6_count 72 = .ok (.aload_n 0, 1) := by decide +kernel
theorem dX6_count_73 : decode cX6_count 73 = .ok (.getfield 19, 3) := by decide +kernel
theorem dX6_count_76 : decode cX6_count 76 = .ok (.invokevirtual 170, 3) := by decide +kernel
theorem dX6_count_79 : decode cX6_count 79 = .ok (.ireturn, 1) := by decide +kernel
theorem dX6_count_80 : decode cX6_count 80 = .ok (.aload_n 0, 1) := by decide +kernel
theorem dX6_count_81 : decode cX6_count 81 = .ok (.getfield 19, 3) := by decide +kernel
theorem dX6_count_84 : decode cX6_count 84 = .ok (.invokevirtual 128, 3) := by decide +kernel
theorem dX6_count_87 : decode cX6_count 87 = .ok (.aload_n 0, 1) := by decide +kernel
theorem dX6_count_88 : decode cX6_count 88 = .ok (.getfield 55, 3) := by decide +kernel
theorem dX6_count_91 : decode cX6_count 91 = .ok (.getfield 140, 3) := by decide +kernel
theorem dX6_count_94 : decode cX6_count 94 = .ok (.if_icmp .ge 13, 3) := by decide +kernel
theorem dX6_count_97 : decode cX6_count 97 = .ok (.aload_n 0, 1) := by decide +kernel
theorem dX6_count_98 : decode cX6_count 98 = .ok (.getfield 19, 3) := by decide +kernel
theorem dX6_count_101 : decode cX6_count 101 = .ok (.invokevirtual 128, 3) := by decide +kernel
theorem dX6_count_104 : decode cX6_count 104 = .ok (.goto 5, 3) := by decide +kernel
theorem dX6_count_107 : decode cX6_count 107 = .ok (.bipush (-4), 2) := by decide +kernel
theorem dX6_count_109 : decode cX6_count 109 = .ok (.ireturn, 1) := by decide +kernel
theorem dX6_count_110 : decode cX6_count 110 = .ok (.aload_n 0, 1) := by decide +kernel
theorem dX6_count_111 : decode cX6_count 111 = .ok (.getfield 19, 3) := by decide +kernel
theorem dX6_count_114 : decode cX6_count 114 = .ok (.invokevirtual 246, 3) := by decide +kernel
theorem dX6_count_117 : decode cX6_count 117 = .ok (.ireturn, 1) := by decide +kernel
theorem dX6_count_118 : decode cX6_count 118 = .ok (.sipush 1000, 3) := by decide +kernel
theorem dX6_count_121 : decode cX6_count 121 = .ok (.aload_n 0, 1) := by decide +kernel
theorem dX6_count_122 : decode cX6_count 122 = .ok (.aload_n 0, 1) := by decide +kernel
theorem dX6_count_123 : decode cX6_count 123 = .ok (.getfield 19, 3) := by decide +kernel
theorem dX6_count_126 : decode cX6_count 126 = .ok (.invokevirtual 249, 3) := by decide +kernel
theorem dX6_count_129 : decode cX6_count 129 = .ok (.iadd, 1) := by decide +kernel
theorem dX6_count_130 : decode cX6_count 130 = .ok (.ireturn, 1) := by decide +kernel
theorem dX6_count_131 : decode cX6_count 131 = .ok (.aload_n 0, 1) := by decide +kernel
theorem dX6_count_132 : decode cX6_count 132 = .ok (.getfield 41, 3) := by decide +kernel
theorem dX6_count_135 : decode cX6_count 135 = .ok (.getfield 213, 3) := by decide +kernel
theorem dX6_count_138 : decode cX6_count 138 = .ok (.ireturn, 1) := by decide +kernel
theorem dX6_count_139 : decode cX6_count 139 = .ok (.aload_n 0, 1) := by decide +kernel
theorem dX6_count_140 : decode cX6_count 140 = .ok (.getfield 31, 3) := by decide +kernel
theorem dX6_count_143 : decode cX6_count 143 = .ok (.getfield 164, 3) := by decide +kernel
theorem dX6_count_146 : decode cX6_count 146 = .ok (.ireturn, 1) := by decide +kernel
theorem dX6_count_147 : decode cX6_count 147 = .ok (.aload_n 0, 1) := by decide +kernel
theorem dX6_count_148 : decode cX6_count 148 = .ok (.getfield 35, 3) := by decide +kernel
theorem dX6_count_151 : decode cX6_count 151 = .ok (.getfield 164, 3) := by decide +kernel
theorem dX6_count_154 : decode cX6_count 154 = .ok (.ireturn, 1) := by decide +kernel
theorem dX6_count_155 : decode cX6_count 155 = .ok (.aload_n 0, 1) := by decide +kernel
theorem dX6_count_156 : decode cX6_count 156 = .ok (.getfield 10, 3) := by decide +kernel
theorem dX6_count_159 : decode cX6_count 159 = .ok (.getfield 89, 3) := by decide +kernel
theorem dX6_count_162 : decode cX6_count 162 = .ok (.ireturn, 1) := by decide +kernel
theorem dX6_count_163 : decode cX6_count 163 = .ok (.iconst (-1), 1) := by decide +kernel
theorem dX6_count_164 : decode cX6_count 164 = .ok (.ireturn, 1) := by decide +kernel
theorem dX6_isPart_0 : decode cX6_isPart 0 = .ok (.iload_n 0, 1) := by decide +kernel
theorem dX6_isPart_1 : decode cX6_isPart 1 = .ok (.ifCond .eq 8, 3) := by decide +kernel
theorem dX6_isPart_4 : decode cX6_isPart 4 = .ok (.iload_n 0, 1) := by decide +kernel
theorem dX6_isPart_5 : decode cX6_isPart 5 = .ok (.iconst 1, 1) := by decide +kernel
theorem dX6_isPart_6 : decode cX6_isPart 6 = .ok (.if_icmp .ne 7, 3) := by decide +kernel
theorem dX6_isPart_9 : decode cX6_isPart 9 = .ok (.iconst 1, 1) := by decide +kernel
theorem dX6_isPart_10 : decode cX6_isPart 10 = .ok (.goto 4, 3) := by decide +kernel
theorem dX6_isPart_13 : decode cX6_isPart 13 = .ok (.iconst 0, 1) := by decide +kernel
theorem dX6_isPart_14 : decode cX6_isPart 14 = .ok (.ireturn, 1) := by decide +kernel
theorem dX6_drawsAhead_0 : decode cX6_drawsAhead 0 = .ok (.iload_n 1, 1) := by decide +kernel
theorem dX6_drawsAhead_1 : decode cX6_drawsAhead 1 = .ok (.aload_n 0, 1) := by decide +kernel
theorem dX6_drawsAhead_2 : decode cX6_drawsAhead 2 = .ok (.getfield 55, 3) := by decide +kernel
theorem dX6_drawsAhead_5 : decode cX6_drawsAhead 5 = .ok (.getfield 140, 3) := by decide +kernel
theorem dX6_drawsAhead_8 : decode cX6_drawsAhead 8 = .ok (.aload_n 0, 1) := by decide +kernel
theorem dX6_drawsAhead_9 : decode cX6_drawsAhead 9 = .ok (.getfield 19, 3) := by decide +kernel
theorem dX6_drawsAhead_12 : decode cX6_drawsAhead 12 = .ok (.invokevirtual 128, 3) := by decide +kernel
theorem dX6_drawsAhead_15 : decode cX6_drawsAhead 15 = .ok (.isub, 1) := by decide +kernel
theorem dX6_drawsAhead_16 : decode cX6_drawsAhead 16 = .ok (.iload_n 2, 1) := by decide +kernel
theorem dX6_drawsAhead_17 : decode cX6_drawsAhead 17 = .ok (.invokestatic 257, 3) := by decide +kernel
theorem dX6_drawsAhead_20 : decode cX6_drawsAhead 20 = .ok (.invokestatic 257, 3) := by decide +kernel
theorem dX6_drawsAhead_23 : decode cX6_drawsAhead 23 = .ok (.ireturn, 1) := by decide +kernel
theorem dX6_worthOverWays_0 : decode cX6_worthOverWays 0 = .ok (.aload_n 0, 1) := by decide +kernel
theorem dX6_worthOverWays_1 : decode cX6_worthOverWays 1 = .ok (.getfield 19, 3) := by decide +kernel
theorem dX6_worthOverWays_4 : decode cX6_worthOverWays 4 = .ok (.iload_n 1, 1) := by decide +kernel
theorem dX6_worthOverWays_5 : decode cX6_worthOverWays 5 = .ok (.invokevirtual 101, 3) := by decide +kernel
theorem dX6_worthOverWays_8 : decode cX6_worthOverWays 8 = .ok (.istore 4, 2) := by decide +kernel
theorem dX6_worthOverWays_10 : decode cX6_worthOverWays 10 = .ok (.aload_n 0, 1) := by decide +kernel
theorem dX6_worthOverWays_11 : decode cX6_worthOverWays 11 = .ok (.getfield 19, 3) := by decide +kernel
theorem dX6_worthOverWays_14 : decode cX6_worthOverWays 14 = .ok (.iload_n 1, 1) := by decide +kernel
theorem dX6_worthOverWays_15 : decode cX6_worthOverWays 15 = .ok (.invokevirtual 109, 3) := by decide +kernel
theorem dX6_worthOverWays_18 : decode cX6_worthOverWays 18 = .ok (.istore 5, 2) := by decide +kernel
theorem dX6_worthOverWays_20 : decode cX6_worthOverWays 20 = .ok (.lconst 0, 1) := by decide +kernel
theorem dX6_worthOverWays_21 : decode cX6_worthOverWays 21 = .ok (.lstore 6, 2) := by decide +kernel
theorem dX6_worthOverWays_23 : decode cX6_worthOverWays 23 = .ok (.iconst 0, 1) := by decide +kernel
theorem dX6_worthOverWays_24 : decode cX6_worthOverWays 24 = .ok (.istore 8, 2) := by decide +kernel
theorem dX6_worthOverWays_26 : decode cX6_worthOverWays 26 = .ok (.iload 8, 2) := by decide +kernel
theorem dX6_worthOverWays_28 : decode cX6_worthOverWays 28 = .ok (.iconst 1, 1) := by decide +kernel
theorem dX6_worthOverWays_29 : decode cX6_worthOverWays 29 = .ok (.iload_n 3, 1) := by decide +kernel
theorem dX6_worthOverWays_30 : decode cX6_worthOverWays 30 = .ok (.ishl, 1) := by decide +kernel
theorem dX6_worthOverWays_31 : decode cX6_worthOverWays 31 = .ok (.if_icmp .ge 67, 3) := by decide +kernel
theorem dX6_worthOverWays_34 : decode cX6_worthOverWays 34 = .ok (.iload 8, 2) := by decide +kernel
theorem dX6_worthOverWays_36 : decode cX6_worthOverWays 36 = .ok (.invokestatic 262, 3) := by decide +kernel
theorem dX6_worthOverWays_39 : decode cX6_worthOverWays 39 = .ok (.istore 9, 2) := by decide +kernel
theorem dX6_worthOverWays_41 : decode cX6_worthOverWays 41 = .ok (.iload 4, 2) := by decide +kernel
theorem dX6_worthOverWays_43 : decode cX6_worthOverWays 43 = .ok (.iload 9, 2) := by decide +kernel
theorem dX6_worthOverWays_45 : decode cX6_worthOverWays 45 = .ok (.invokestatic 175, 3) := by decide +kernel
theorem dX6_worthOverWays_48 : decode cX6_worthOverWays 48 = .ok (.iload_n 2, 1) := by decide +kernel
theorem dX6_worthOverWays_49 : decode cX6_worthOverWays 49 = .ok (.iload 4, 2) := by decide +kernel
theorem dX6_worthOverWays_51 : decode cX6_worthOverWays 51 = .ok (.isub, 1) := by decide +kernel
theorem dX6_worthOverWays_52 : decode cX6_worthOverWays 52 = .ok (.iload_n 3, 1) := by decide +kernel
theorem dX6_worthOverWays_53 : decode cX6_worthOverWays 53 = .ok (.iload 9, 2) := by decide +kernel
theorem dX6_worthOverWays_55 : decode cX6_worthOverWays 55 = .ok (.isub, 1) := by decide +kernel
theorem dX6_worthOverWays_56 : decode cX6_worthOverWays 56 = .ok (.invokestatic 175, 3) := by decide +kernel
theorem dX6_worthOverWays_59 : decode cX6_worthOverWays 59 = .ok (.lmul, 1) := by decide +kernel
theorem dX6_worthOverWays_60 : decode cX6_worthOverWays 60 = .ok (.lstore 10, 2) := by decide +kernel
theorem dX6_worthOverWays_62 : decode cX6_worthOverWays 62 = .ok (.lload 6, 2) := by decide +kernel
theorem dX6_worthOverWays_64 : decode cX6_worthOverWays 64 = .ok (.lload 10, 2) := by decide +kernel
theorem dX6_worthOverWays_66 : decode cX6_worthOverWays 66 = .ok (.aload_n 0, 1) := by decide +kernel
theorem dX6_worthOverWays_67 : decode cX6_worthOverWays 67 = .ok (.getfield 55, 3) := by decide +kernel
theorem dX6_worthOverWays_70 : decode cX6_worthOverWays 70 = .ok (.iload_n 1, 1) := by decide +kernel
theorem dX6_worthOverWays_71 : decode cX6_worthOverWays 71 = .ok (.iload 5, 2) := by decide +kernel
theorem dX6_worthOverWays_73 : decode cX6_worthOverWays 73 = .ok (.iload 8, 2) := by decide +kernel
theorem dX6_worthOverWays_75 : decode cX6_worthOverWays 75 = .ok (.aload_n 0, 1) := by decide +kernel
theorem dX6_worthOverWays_76 : decode cX6_worthOverWays 76 = .ok (.getfield 19, 3) := by decide +kernel
theorem dX6_worthOverWays_79 : decode cX6_worthOverWays 79 = .ok (.invokevirtual 128, 3) := by decide +kernel
theorem dX6_worthOverWays_82 : decode cX6_worthOverWays 82 = .ok (.ishl, 1) := by decide +kernel
theorem dX6_worthOverWays_83 : decode cX6_worthOverWays 83 = .ok (.ior, 1) := by decide +kernel
theorem dX6_worthOverWays_84 : decode cX6_worthOverWays 84 = .ok (.invokevirtual 112, 3) := by decide +kernel
theorem dX6_worthOverWays_87 : decode cX6_worthOverWays 87 = .ok (.i2l, 1) := by decide +kernel
theorem dX6_worthOverWays_88 : decode cX6_worthOverWays 88 = .ok (.lmul, 1) := by decide +kernel
theorem dX6_worthOverWays_89 : decode cX6_worthOverWays 89 = .ok (.ladd, 1) := by decide +kernel
theorem dX6_worthOverWays_90 : decode cX6_worthOverWays 90 = .ok (.lstore 6, 2) := by decide +kernel
theorem dX6_worthOverWays_92 : decode cX6_worthOverWays 92 = .ok (.iinc 8 1, 3) := by decide +kernel
theorem dX6_worthOverWays_95 : decode cX6_worthOverWays 95 = .ok (.goto (-69), 3) := by decide +kernel
theorem dX6_worthOverWays_98 : decode cX6_worthOverWays 98 = .ok (.lload 6, 2) := by decide +kernel
theorem dX6_worthOverWays_100 : decode cX6_worthOverWays 100 = .ok (.lreturn, 1) := by decide +kernel
theorem dX6_worthOfAll_0 : decode cX6_worthOfAll 0 = .ok (.iconst 0, 1) := by decide +kernel
theorem dX6_worthOfAll_1 : decode cX6_worthOfAll 1 = .ok (.istore_n 2, 1) := by decide +kernel
theorem dX6_worthOfAll_2 : decode cX6_worthOfAll 2 = .ok (.iconst 0, 1) := by decide +kernel
theorem dX6_worthOfAll_3 : decode cX6_worthOfAll 3 = .ok (.istore_n 3, 1) := by decide +kernel
theorem dX6_worthOfAll_4 : decode cX6_worthOfAll 4 = .ok (.iload_n 3, 1) := by decide +kernel
theorem dX6_worthOfAll_5 : decode cX6_worthOfAll 5 = .ok (.aload_n 0, 1) := by decide +kernel
theorem dX6_worthOfAll_6 : decode cX6_worthOfAll 6 = .ok (.getfield 55, 3) := by decide +kernel
theorem dX6_worthOfAll_9 : decode cX6_worthOfAll 9 = .ok (.getfield 92, 3) := by decide +kernel
theorem dX6_worthOfAll_12 : decode cX6_worthOfAll 12 = .ok (.if_icmp .ge 25, 3) := by decide +kernel
theorem dX6_worthOfAll_15 : decode cX6_worthOfAll 15 = .ok (.iload_n 2, 1) := by decide +kernel
theorem dX6_worthOfAll_16 : decode cX6_worthOfAll 16 = .ok (.aload_n 0, 1) := by decide +kernel
theorem dX6_worthOfAll_17 : decode cX6_worthOfAll 17 = .ok (.getfield 55, 3) := by decide +kernel
theorem dX6_worthOfAll_20 : decode cX6_worthOfAll 20 = .ok (.iload_n 3, 1) := by decide +kernel
theorem dX6_worthOfAll_21 : decode cX6_worthOfAll 21 = .ok (.aload_n 1, 1) := by decide +kernel
theorem dX6_worthOfAll_22 : decode cX6_worthOfAll 22 = .ok (.iload_n 3, 1) := by decide +kernel
theorem dX6_worthOfAll_23 : decode cX6_worthOfAll 23 = .ok (.invokevirtual 109, 3) := by decide +kernel
theorem dX6_worthOfAll_26 : decode cX6_worthOfAll 26 = .ok (.invokevirtual 112, 3) := by decide +kernel
theorem dX6_worthOfAll_29 : decode cX6_worthOfAll 29 = .ok (.iadd, 1) := by decide +kernel
theorem dX6_worthOfAll_30 : decode cX6_worthOfAll 30 = .ok (.istore_n 2, 1) := by decide +kernel
theorem dX6_worthOfAll_31 : decode cX6_worthOfAll 31 = .ok (.iinc 3 1, 3) := by decide +kernel
theorem dX6_worthOfAll_34 : decode cX6_worthOfAll 34 = .ok (.goto (-30), 3) := by decide +kernel
theorem dX6_worthOfAll_37 : decode cX6_worthOfAll 37 = .ok (.iload_n 2, 1) := by decide +kernel
theorem dX6_worthOfAll_38 : decode cX6_worthOfAll 38 = .ok (.ireturn, 1) := by decide +kernel
theorem dX6_takeTurn_0 : decode cX6_takeTurn 0 = .ok (.iload_n 1, 1) := by decide +kernel
theorem dX6_takeTurn_1 : decode cX6_takeTurn 1 = .ok (.iconst 4, 1) := by decide +kernel
theorem dX6_takeTurn_2 : decode cX6_takeTurn 2 = .ok (.idiv, 1) := by decide +kernel
theorem dX6_takeTurn_3 : decode cX6_takeTurn 3 = .ok (.istore_n 2, 1) := by decide +kernel
theorem dX6_takeTurn_4 : decode cX6_takeTurn 4 = .ok (.iload_n 1, 1) := by decide +kernel
theorem dX6_takeTurn_5 : decode cX6_takeTurn 5 = .ok (.bipush 64, 2) := by decide +kernel
theorem dX6_takeTurn_7 : decode cX6_takeTurn 7 = .ok (.idiv, 1) := by decide +kernel
theorem dX6_takeTurn_8 : decode cX6_takeTurn 8 = .ok (.istore_n 3, 1) := by decide +kernel
theorem dX6_takeTurn_9 : decode cX6_takeTurn 9 = .ok (.iload_n 1, 1) := by decide +kernel
theorem dX6_takeTurn_10 : decode cX6_takeTurn 10 = .ok (.iconst 4, 1) := by decide +kernel
theorem dX6_takeTurn_11 : decode cX6_takeTurn 11 = .ok (.irem, 1) := by decide +kernel
theorem dX6_takeTurn_12 : decode cX6_takeTurn 12 = .ok (.tableswitch 58 0 2 #[28, 36, 49], 28) := by decide +kernel
theorem dX6_takeTurn_40 : decode cX6_takeTurn 40 = .ok (.aload_n 0, 1) := by decide +kernel
theorem dX6_takeTurn_41 : decode cX6_takeTurn 41 = .ok (.iload_n 2, 1) := by decide +kernel
theorem dX6_takeTurn_42 : decode cX6_takeTurn 42 = .ok (.invokevirtual 267, 3) := by decide +kernel
theorem dX6_takeTurn_45 : decode cX6_takeTurn 45 = .ok (.goto 25, 3) := by decide +kernel
theorem dX6_takeTurn_48 : decode cX6_takeTurn 48 = .ok (.aload_n 0, 1) := by decide +kernel
theorem dX6_takeTurn_49 : decode cX6_takeTurn 49 = .ok (.iload_n 2, 1) := by decide +kernel
theorem dX6_takeTurn_50 : decode cX6_takeTurn 50 = .ok (.iload_n 3, 1) := by decide +kernel
theorem dX6_takeTurn_51 : decode cX6_takeTurn 51 = .ok (.iconst 3, 1) := by decide +kernel
theorem dX6_takeTurn_52 : decode cX6_takeTurn 52 = .ok (.irem, 1) := by decide +kernel
theorem dX6_takeTurn_53 : decode cX6_takeTurn 53 = .ok (.iconst 1, 1) := by decide +kernel
theorem dX6_takeTurn_54 : decode cX6_takeTurn 54 = .ok (.iadd, 1) := by decide +kernel
theorem dX6_takeTurn_55 : decode cX6_takeTurn 55 = .ok (.invokevirtual 270, 3) := by decide +kernel
theorem dX6_takeTurn_58 : decode cX6_takeTurn 58 = .ok (.goto 12, 3) := by decide +kernel
theorem dX6_takeTurn_61 : decode cX6_takeTurn 61 = .ok (.aload_n 0, 1) := by decide +kernel
theorem dX6_takeTurn_62 : decode cX6_takeTurn 62 = .ok (.iload_n 2, 1) := by decide +kernel
theorem dX6_takeTurn_63 : decode cX6_takeTurn 63 = .ok (.iload_n 3, 1) := by decide +kernel
theorem dX6_takeTurn_64 : decode cX6_takeTurn 64 = .ok (.invokevirtual 273, 3) := by decide +kernel
theorem dX6_takeTurn_67 : decode cX6_takeTurn 67 = .ok (.goto 3, 3) := by decide +kernel
theorem dX6_takeTurn_70 : decode cX6_takeTurn 70 = .ok (.return_, 1) := by decide +kernel
theorem dX6_tryDraw_0 : decode cX6_tryDraw 0 = .ok (.aload_n 0, 1) := by decide +kernel
theorem dX6_tryDraw_1 : decode cX6_tryDraw 1 = .ok (.getfield 23, 3) := by decide +kernel
theorem dX6_tryDraw_4 : decode cX6_tryDraw 4 = .ok (.invokevirtual 170, 3) := by decide +kernel
theorem dX6_tryDraw_7 : decode cX6_tryDraw 7 = .ok (.istore_n 2, 1) := by decide +kernel
theorem dX6_tryDraw_8 : decode cX6_tryDraw 8 = .ok (.iload_n 2, 1) := by decide +kernel
theorem dX6_tryDraw_9 : decode cX6_tryDraw 9 = .ok (.ifCond .le 37, 3) := by decide +kernel
theorem dX6_tryDraw_12 : decode cX6_tryDraw 12 = .ok (.aload_n 0, 1) := by decide +kernel
theorem dX6_tryDraw_13 : decode cX6_tryDraw 13 = .ok (.getfield 23, 3) := by decide +kernel
theorem dX6_tryDraw_16 : decode cX6_tryDraw 16 = .ok (.invokevirtual 128, 3) := by decide +kernel
theorem dX6_tryDraw_19 : decode cX6_tryDraw 19 = .ok (.aload_n 0, 1) := by decide +kernel
theorem dX6_tryDraw_20 : decode cX6_tryDraw 20 = .ok (.getfield 55, 3) := by decide +kernel
theorem dX6_tryDraw_23 : decode cX6_tryDraw 23 = .ok (.getfield 140, 3) := by decide +kernel
theorem dX6_tryDraw_26 : decode cX6_tryDraw 26 = .ok (.if_icmp .ge 20, 3) := by decide +kernel
theorem dX6_tryDraw_29 : decode cX6_tryDraw 29 = .ok (.aload_n 0, 1) := by decide +kernel
theorem dX6_tryDraw_30 : decode cX6_tryDraw 30 = .ok (.getfield 23, 3) := by decide +kernel
theorem dX6_tryDraw_33 : decode cX6_tryDraw 33 = .ok (.aload_n 0, 1) := by decide +kernel
theorem dX6_tryDraw_34 : decode cX6_tryDraw 34 = .ok (.getfield 23, 3) := by decide +kernel
theorem dX6_tryDraw_37 : decode cX6_tryDraw 37 = .ok (.iload_n 1, 1) := by decide +kernel
theorem dX6_tryDraw_38 : decode cX6_tryDraw 38 = .ok (.iload_n 2, 1) := by decide +kernel
theorem dX6_tryDraw_39 : decode cX6_tryDraw 39 = .ok (.irem, 1) := by decide +kernel
theorem dX6_tryDraw_40 : decode cX6_tryDraw 40 = .ok (.invokevirtual 137, 3) := by decide +kernel
theorem dX6_tryDraw_43 : decode cX6_tryDraw 43 = .ok (.invokevirtual 147, 3) := by decide +kernel
theorem dX6_tryDraw_46 : decode cX6_tryDraw 46 = .ok (.return_, 1) := by decide +kernel
theorem dX6_tryBuy_0 : decode cX6_tryBuy 0 = .ok (.aload_n 0, 1) := by decide +kernel
theorem dX6_tryBuy_1 : decode cX6_tryBuy 1 = .ok (.getfield 55, 3) := by decide +kernel
theorem dX6_tryBuy_4 : decode cX6_tryBuy 4 = .ok (.getfield 92, 3) := by decide +kernel
theorem dX6_tryBuy_7 : decode cX6_tryBuy 7 = .ok (.ifCond .le 37, 3) := by decide +kernel
theorem dX6_tryBuy_10 : decode cX6_tryBuy 10 = .ok (.iload_n 1, 1) := by decide +kernel
theorem dX6_tryBuy_11 : decode cX6_tryBuy 11 = .ok (.aload_n 0, 1) := by decide +kernel
theorem dX6_tryBuy_12 : decode cX6_tryBuy 12 = .ok (.getfield 55, 3) := by decide +kernel
theorem dX6_tryBuy_15 : decode cX6_tryBuy 15 = .ok (.getfield 92, 3) := by decide +kernel
theorem dX6_tryBuy_18 : decode cX6_tryBuy 18 = .ok (.irem, 1) := by decide +kernel
theorem dX6_tryBuy_19 : decode cX6_tryBuy 19 = .ok (.istore_n 3, 1) := by decide +kernel
theorem dX6_tryBuy_20 : decode cX6_tryBuy 20 = .ok (.aload_n 0, 1) := by decide +kernel
theorem dX6_tryBuy_21 : decode cX6_tryBuy 21 = .ok (.getfield 23, 3) := by decide +kernel
theorem dX6_tryBuy_24 : decode cX6_tryBuy 24 = .ok (.iload_n 3, 1) := by decide +kernel
theorem dX6_tryBuy_25 : decode cX6_tryBuy 25 = .ok (.invokevirtual 101, 3) := by decide +kernel
theorem dX6_tryBuy_28 : decode cX6_tryBuy 28 = .ok (.iload_n 2, 1) := by decide +kernel
theorem dX6_tryBuy_29 : decode cX6_tryBuy 29 = .ok (.iadd, 1) := by decide +kernel
theorem dX6_tryBuy_30 : decode cX6_tryBuy 30 = .ok (.bipush 9, 2) := by decide +kernel
theorem dX6_tryBuy_32 : decode cX6_tryBuy 32 = .ok (.if_icmp .gt 12, 3) := by decide +kernel
theorem dX6_tryBuy_35 : decode cX6_tryBuy 35 = .ok (.aload_n 0, 1) := by decide +kernel
theorem dX6_tryBuy_36 : decode cX6_tryBuy 36 = .ok (.getfield 23, 3) := by decide +kernel
theorem dX6_tryBuy_39 : decode cX6_tryBuy 39 = .ok (.iload_n 3, 1) := by decide +kernel
theorem dX6_tryBuy_40 : decode cX6_tryBuy 40 = .ok (.iload_n 2, 1) := by decide +kernel
theorem dX6_tryBuy_41 : decode cX6_tryBuy 41 = .ok (.invokevirtual 153, 3) := by decide +kernel
theorem dX6_tryBuy_44 : decode cX6_tryBuy 44 = .ok (.return_, 1) := by decide +kernel
theorem dX6_tryGive_0 : decode cX6_tryGive 0 = .ok (.aload_n 0, 1) := by decide +kernel
theorem dX6_tryGive_1 : decode cX6_tryGive 1 = .ok (.getfield 55, 3) := by decide +kernel
theorem dX6_tryGive_4 : decode cX6_tryGive 4 = .ok (.getfield 140, 3) := by decide +kernel
theorem dX6_tryGive_7 : decode cX6_tryGive 7 = .ok (.ifCond .le 53, 3) := by decide +kernel
theorem dX6_tryGive_10 : decode cX6_tryGive 10 = .ok (.aload_n 0, 1) := by decide +kernel
theorem dX6_tryGive_11 : decode cX6_tryGive 11 = .ok (.getfield 55, 3) := by decide +kernel
theorem dX6_tryGive_14 : decode cX6_tryGive 14 = .ok (.getfield 92, 3) := by decide +kernel
theorem dX6_tryGive_17 : decode cX6_tryGive 17 = .ok (.ifCond .le 43, 3) := by decide +kernel
theorem dX6_tryGive_20 : decode cX6_tryGive 20 = .ok (.iload_n 1, 1) := by decide +kernel
theorem dX6_tryGive_21 : decode cX6_tryGive 21 = .ok (.aload_n 0, 1) := by decide +kernel
theorem dX6_tryGive_22 : decode cX6_tryGive 22 = .ok (.getfield 55, 3) := by decide +kernel
theorem dX6_tryGive_25 : decode cX6_tryGive 25 = .ok (.getfield 140, 3) := by decide +kernel
theorem dX6_tryGive_28 : decode cX6_tryGive 28 = .ok (.irem, 1) := by decide +kernel
theorem dX6_tryGive_29 : decode cX6_tryGive 29 = .ok (.istore_n 3, 1) := by decide +kernel
theorem dX6_tryGive_30 : decode cX6_tryGive 30 = .ok (.aload_n 0, 1) := by decide +kernel
theorem dX6_tryGive_31 : decode cX6_tryGive 31 = .ok (.getfield 23, 3) := by decide +kernel
theorem dX6_tryGive_34 : decode cX6_tryGive 34 = .ok (.iload_n 3, 1) := by decide +kernel
theorem dX6_tryGive_35 : decode cX6_tryGive 35 = .ok (.invokevirtual 125, 3) := by decide +kernel
theorem dX6_tryGive_38 : decode cX6_tryGive 38 = .ok (.bipush (-4), 2) := by decide +kernel
theorem dX6_tryGive_40 : decode cX6_tryGive 40 = .ok (.if_icmp .eq 20, 3) := by decide +kernel
theorem dX6_tryGive_43 : decode cX6_tryGive 43 = .ok (.aload_n 0, 1) := by decide +kernel
theorem dX6_tryGive_44 : decode cX6_tryGive 44 = .ok (.getfield 23, 3) := by decide +kernel
theorem dX6_tryGive_47 : decode cX6_tryGive 47 = .ok (.iload_n 3, 1) := by decide +kernel
theorem dX6_tryGive_48 : decode cX6_tryGive 48 = .ok (.iload_n 2, 1) := by decide +kernel
theorem dX6_tryGive_49 : decode cX6_tryGive 49 = .ok (.aload_n 0, 1) := by decide +kernel
theorem dX6_tryGive_50 : decode cX6_tryGive 50 = .ok (.getfield 55, 3) := by decide +kernel
theorem dX6_tryGive_53 : decode cX6_tryGive 53 = .ok (.getfield 92, 3) := by decide +kernel
theorem dX6_tryGive_56 : decode cX6_tryGive 56 = .ok (.irem, 1) := by decide +kernel
theorem dX6_tryGive_57 : decode cX6_tryGive 57 = .ok (.invokevirtual 157, 3) := by decide +kernel
theorem dX6_tryGive_60 : decode cX6_tryGive 60 = .ok (.return_, 1) := by decide +kernel
theorem dX6_falling_0 : decode cX6_falling 0 = .ok (.lconst 1, 1) := by decide +kernel
theorem dX6_falling_1 : decode cX6_falling 1 = .ok (.lstore_n 2, 1) := by decide +kernel
theorem dX6_falling_2 : decode cX6_falling 2 = .ok (.iconst 0, 1) := by decide +kernel
theorem dX6_falling_3 : decode cX6_falling 3 = .ok (.istore 4, 2) := by decide +kernel
theorem dX6_falling_5 : decode cX6_falling 5 = .ok (.iload 4, 2) := by decide +kernel
theorem dX6_falling_7 : decode cX6_falling 7 = .ok (.iload_n 1, 1) := by decide +kernel
theorem dX6_falling_8 : decode cX6_falling 8 = .ok (.if_icmp .ge 17, 3) := by decide +kernel
theorem dX6_falling_11 : decode cX6_falling 11 = .ok (.lload_n 2, 1) := by decide +kernel
theorem dX6_falling_12 : decode cX6_falling 12 = .ok (.iload_n 0, 1) := by decide +kernel
theorem dX6_falling_13 : decode cX6_falling 13 = .ok (.iload 4, 2) := by decide +kernel
theorem dX6_falling_15 : decode cX6_falling 15 = .ok (.isub, 1) := by decide +kernel
theorem dX6_falling_16 : decode cX6_falling 16 = .ok (.i2l, 1) := by decide +kernel
theorem dX6_falling_17 : decode cX6_falling 17 = .ok (.lmul, 1) := by decide +kernel
theorem dX6_falling_18 : decode cX6_falling 18 = .ok (.lstore_n 2, 1) := by decide +kernel
theorem dX6_falling_19 : decode cX6_falling 19 = .ok (.iinc 4 1, 3) := by decide +kernel
theorem dX6_falling_22 : decode cX6_falling 22 = .ok (.goto (-17), 3) := by decide +kernel
theorem dX6_falling_25 : decode cX6_falling 25 = .ok (.lload_n 2, 1) := by decide +kernel
theorem dX6_falling_26 : decode cX6_falling 26 = .ok (.lreturn, 1) := by decide +kernel
theorem dX6_lowest_0 : decode cX6_lowest 0 = .ok (.lload_n 0, 1) := by decide +kernel
theorem dX6_lowest_1 : decode cX6_lowest 1 = .ok (.lload_n 2, 1) := by decide +kernel
theorem dX6_lowest_2 : decode cX6_lowest 2 = .ok (.invokestatic 276, 3) := by decide +kernel
theorem dX6_lowest_5 : decode cX6_lowest 5 = .ok (.lstore 5, 2) := by decide +kernel
theorem dX6_lowest_7 : decode cX6_lowest 7 = .ok (.lload 5, 2) := by decide +kernel
theorem dX6_lowest_9 : decode cX6_lowest 9 = .ok (.lconst 0, 1) := by decide +kernel
theorem dX6_lowest_10 : decode cX6_lowest 10 = .ok (.lcmp, 1) := by decide +kernel
theorem dX6_lowest_11 : decode cX6_lowest 11 = .ok (.ifCond .ne 5, 3) := by decide +kernel
theorem dX6_lowest_14 : decode cX6_lowest 14 = .ok (.lconst 0, 1) := by decide +kernel
theorem dX6_lowest_15 : decode cX6_lowest 15 = .ok (.lreturn, 1) := by decide +kernel
theorem dX6_lowest_16 : decode cX6_lowest 16 = .ok (.iload 4, 2) := by decide +kernel
theorem dX6_lowest_18 : decode cX6_lowest 18 = .ok (.ifCond .ne 7, 3) := by decide +kernel
theorem dX6_lowest_21 : decode cX6_lowest 21 = .ok (.lload_n 0, 1) := by decide +kernel
theorem dX6_lowest_22 : decode cX6_lowest 22 = .ok (.goto 4, 3) := by decide +kernel
theorem dX6_lowest_25 : decode cX6_lowest 25 = .ok (.lload_n 2, 1) := by decide +kernel
theorem dX6_lowest_26 : decode cX6_lowest 26 = .ok (.lload 5, 2) := by decide +kernel
theorem dX6_lowest_28 : decode cX6_lowest 28 = .ok (.ldiv, 1) := by decide +kernel
theorem dX6_lowest_29 : decode cX6_lowest 29 = .ok (.lreturn, 1) := by decide +kernel
theorem dX6_commonDivisor_0 : decode cX6_commonDivisor 0 = .ok (.lload_n 0, 1) := by decide +kernel
theorem dX6_commonDivisor_1 : decode cX6_commonDivisor 1 = .ok (.lstore 4, 2) := by decide +kernel
theorem dX6_commonDivisor_3 : decode cX6_commonDivisor 3 = .ok (.lload_n 2, 1) := by decide +kernel
theorem dX6_commonDivisor_4 : decode cX6_commonDivisor 4 = .ok (.lstore 6, 2) := by decide +kernel
theorem dX6_commonDivisor_6 : decode cX6_commonDivisor 6 = .ok (.iconst 0, 1) := by decide +kernel
theorem dX6_commonDivisor_7 : decode cX6_commonDivisor 7 = .ok (.istore 8, 2) := by decide +kernel
theorem dX6_commonDivisor_9 : decode cX6_commonDivisor 9 = .ok (.iload 8, 2) := by decide +kernel
theorem dX6_commonDivisor_11 : decode cX6_commonDivisor 11 = .ok (.bipush 100, 2) := by decide +kernel
theorem dX6_commonDivisor_13 : decode cX6_commonDivisor 13 = .ok (.if_icmp .ge 31, 3) := by decide +kernel
theorem dX6_commonDivisor_16 : decode cX6_commonDivisor 16 = .ok (.lload 6, 2) := by decide +kernel
theorem dX6_commonDivisor_18 : decode cX6_commonDivisor 18 = .ok (.lconst 0, 1) := by decide +kernel
theorem dX6_commonDivisor_19 : decode cX6_commonDivisor 19 = .ok (.lcmp, 1) := by decide +kernel
theorem dX6_commonDivisor_20 : decode cX6_commonDivisor 20 = .ok (.ifCond .eq 24, 3) := by decide +kernel
theorem dX6_commonDivisor_23 : decode cX6_commonDivisor 23 = .ok (.lload 4, 2) := by decide +kernel
theorem dX6_commonDivisor_25 : decode cX6_commonDivisor 25 = .ok (.lload 6, 2) := by decide +kernel
theorem dX6_commonDivisor_27 : decode cX6_commonDivisor 27 = .ok (.lrem, 1) := by decide +kernel
theorem dX6_commonDivisor_28 : decode cX6_commonDivisor 28 = .ok (.lstore 9, 2) := by decide +kernel
theorem dX6_commonDivisor_30 : decode cX6_commonDivisor 30 = .ok (.lload 6, 2) := by decide +kernel
theorem dX6_commonDivisor_32 : decode cX6_commonDivisor 32 = .ok (.lstore 4, 2) := by decide +kernel
theorem dX6_commonDivisor_34 : decode cX6_commonDivisor 34 = .ok (.lload 9, 2) := by decide +kernel
theorem dX6_commonDivisor_36 : decode cX6_commonDivisor 36 = .ok (.lstore 6, 2) := by decide +kernel
theorem dX6_commonDivisor_38 : decode cX6_commonDivisor 38 = .ok (.iinc 8 1, 3) := by decide +kernel
theorem dX6_commonDivisor_41 : decode cX6_commonDivisor 41 = .ok (.goto (-32), 3) := by decide +kernel
theorem dX6_commonDivisor_44 : decode cX6_commonDivisor 44 = .ok (.lload 4, 2) := by decide +kernel
theorem dX6_commonDivisor_46 : decode cX6_commonDivisor 46 = .ok (.lreturn, 1) := by decide +kernel
