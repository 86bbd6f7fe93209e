theorem dX6_init_0 : decode cX6_init 0 = .ok (.aload_n 0, 1) := by decide +kernel
theorem dX6_init_1 : decode cX6_init 1 = .ok (.invokespecial 1, 3) := by decide +kernel
theorem dX6_init_4 : decode cX6_init 4 = .ok (.aload_n 0, 1) := by decide +kernel
theorem dX6_init_5 : decode cX6_init 5 = .ok (.sipush 200, 3) := by decide +kernel
theorem dX6_init_8 : decode cX6_init 8 = .ok (.newarray .char, 2) := by decide +kernel
theorem dX6_init_10 : decode cX6_init 10 = .ok (.putfield 9, 3) := by decide +kernel
theorem dX6_init_13 : decode cX6_init 13 = .ok (.aload_n 0, 1) := by decide +kernel
theorem dX6_init_14 : decode cX6_init 14 = .ok (.new 13, 3) := by decide +kernel
theorem dX6_init_17 : decode cX6_init 17 = .ok (.dup, 1) := by decide +kernel
theorem dX6_init_18 : decode cX6_init 18 = .ok (.invokespecial 15, 3) := by decide +kernel
theorem dX6_init_21 : decode cX6_init 21 = .ok (.putfield 16, 3) := by decide +kernel
theorem dX6_init_24 : decode cX6_init 24 = .ok (.aload_n 0, 1) := by decide +kernel
theorem dX6_init_25 : decode cX6_init 25 = .ok (.new 13, 3) := by decide +kernel
theorem dX6_init_28 : decode cX6_init 28 = .ok (.dup, 1) := by decide +kernel
theorem dX6_init_29 : decode cX6_init 29 = .ok (.invokespecial 15, 3) := by decide +kernel
theorem dX6_init_32 : decode cX6_init 32 = .ok (.putfield 20, 3) := by decide +kernel
theorem dX6_init_35 : decode cX6_init 35 = .ok (.aload_n 0, 1) := by decide +kernel
theorem dX6_init_36 : decode cX6_init 36 = .ok (.new 23, 3) := by decide +kernel
theorem dX6_init_39 : decode cX6_init 39 = .ok (.dup, 1) := by decide +kernel
theorem dX6_init_40 : decode cX6_init 40 = .ok (.invokespecial 25, 3) := by decide +kernel
theorem dX6_init_43 : decode cX6_init 43 = .ok (.putfield 26, 3) := by decide +kernel
theorem dX6_init_46 : decode cX6_init 46 = .ok (.aload_n 0, 1) := by decide +kernel
theorem dX6_init_47 : decode cX6_init 47 = .ok (.new 23, 3) := by decide +kernel
theorem dX6_init_50 : decode cX6_init 50 = .ok (.dup, 1) := by decide +kernel
theorem dX6_init_51 : decode cX6_init 51 = .ok (.invokespecial 25, 3) := by decide +kernel
theorem dX6_init_54 : decode cX6_init 54 = .ok (.putfield 30, 3) := by decide +kernel
theorem dX6_init_57 : decode cX6_init 57 = .ok (.aload_n 0, 1) := by decide +kernel
theorem dX6_init_58 : decode cX6_init 58 = .ok (.new 33, 3) := by decide +kernel
theorem dX6_init_61 : decode cX6_init 61 = .ok (.dup, 1) := by decide +kernel
theorem dX6_init_62 : decode cX6_init 62 = .ok (.bipush 8, 2) := by decide +kernel
theorem dX6_init_64 : decode cX6_init 64 = .ok (.invokespecial 35, 3) := by decide +kernel
theorem dX6_init_67 : decode cX6_init 67 = .ok (.putfield 38, 3) := by decide +kernel
theorem dX6_init_70 : decode cX6_init 70 = .ok (.aload_n 0, 1) := by decide +kernel
theorem dX6_init_71 : decode cX6_init 71 = .ok (.new 33, 3) := by decide +kernel
theorem dX6_init_74 : decode cX6_init 74 = .ok (.dup, 1) := by decide +kernel
theorem dX6_init_75 : decode cX6_init 75 = .ok (.iconst 2, 1) := by decide +kernel
theorem dX6_init_76 : decode cX6_init 76 = .ok (.invokespecial 35, 3) := by decide +kernel
theorem dX6_init_79 : decode cX6_init 79 = .ok (.putfield 42, 3) := by decide +kernel
theorem dX6_init_82 : decode cX6_init 82 = .ok (.aload_n 0, 1) := by decide +kernel
theorem dX6_init_83 : decode cX6_init 83 = .ok (.new 45, 3) := by decide +kernel
theorem dX6_init_86 : decode cX6_init 86 = .ok (.dup, 1) := by decide +kernel
theorem dX6_init_87 : decode cX6_init 87 = .ok (.invokespecial 47, 3) := by decide +kernel
theorem dX6_init_90 : decode cX6_init 90 = .ok (.putfield 48, 3) := by decide +kernel
theorem dX6_init_93 : decode cX6_init 93 = .ok (.aload_n 0, 1) := by decide +kernel
theorem dX6_init_94 : decode cX6_init 94 = .ok (.new 52, 3) := by decide +kernel
theorem dX6_init_97 : decode cX6_init 97 = .ok (.dup, 1) := by decide +kernel
theorem dX6_init_98 : decode cX6_init 98 = .ok (.invokespecial 54, 3) := by decide +kernel
theorem dX6_init_101 : decode cX6_init 101 = .ok (.putfield 55, 3) := by decide +kernel
theorem dX6_init_104 : decode cX6_init 104 = .ok (.aload_n 0, 1) := by decide +kernel
theorem dX6_init_105 : decode cX6_init 105 = .ok (.new 59, 3) := by decide +kernel
theorem dX6_init_108 : decode cX6_init 108 = .ok (.dup, 1) := by decide +kernel
theorem dX6_init_109 : decode cX6_init 109 = .ok (.invokespecial 61, 3) := by decide +kernel
theorem dX6_init_112 : decode cX6_init 112 = .ok (.putfield 62, 3) := by decide +kernel
theorem dX6_init_115 : decode cX6_init 115 = .ok (.aload_n 0, 1) := by decide +kernel
theorem dX6_init_116 : decode cX6_init 116 = .ok (.getfield 16, 3) := by decide +kernel
theorem dX6_init_119 : decode cX6_init 119 = .ok (.ldc 66, 2) := by decide +kernel
theorem dX6_init_121 : decode cX6_init 121 = .ok (.invokevirtual 68, 3) := by decide +kernel
theorem dX6_init_124 : decode cX6_init 124 = .ok (.ldc 66, 2) := by decide +kernel
theorem dX6_init_126 : decode cX6_init 126 = .ok (.invokevirtual 74, 3) := by decide +kernel
theorem dX6_init_129 : decode cX6_init 129 = .ok (.invokevirtual 78, 3) := by decide +kernel
theorem dX6_init_132 : decode cX6_init 132 = .ok (.pop, 1) := by decide +kernel
theorem dX6_init_133 : decode cX6_init 133 = .ok (.aload_n 0, 1) := by decide +kernel
theorem dX6_init_134 : decode cX6_init 134 = .ok (.getfield 26, 3) := by decide +kernel
theorem dX6_init_137 : decode cX6_init 137 = .ok (.aload_n 0, 1) := by decide +kernel
theorem dX6_init_138 : decode cX6_init 138 = .ok (.getfield 16, 3) := by decide +kernel
theorem dX6_init_141 : decode cX6_init 141 = .ok (.getfield 82, 3) := by decide +kernel
theorem dX6_init_144 : decode cX6_init 144 = .ok (.invokevirtual 86, 3) := by decide +kernel
theorem dX6_init_147 : decode cX6_init 147 = .ok (.return_, 1) := by decide +kernel
theorem dX6_write_0 : decode cX6_write 0 = .ok (.iload_n 1, 1) := by decide +kernel
theorem dX6_write_1 : decode cX6_write 1 = .ok (.bipush 32, 2) := by decide +kernel
theorem dX6_write_3 : decode cX6_write 3 = .ok (.bipush 126, 2) := by decide +kernel
theorem dX6_write_5 : decode cX6_write 5 = .ok (.invokestatic 89, 3) := by decide +kernel
theorem dX6_write_8 : decode cX6_write 8 = .ok (.ifCond .ne 5, 3) := by decide +kernel
theorem dX6_write_11 : decode cX6_write 11 = .ok (.iconst (-1), 1) := by decide +kernel
theorem dX6_write_12 : decode cX6_write 12 = .ok (.ireturn, 1) := by decide +kernel
theorem dX6_write_13 : decode cX6_write 13 = .ok (.aload_n 0, 1) := by decide +kernel
theorem dX6_write_14 : decode cX6_write 14 = .ok (.getfield 93, 3) := by decide +kernel
theorem dX6_write_17 : decode cX6_write 17 = .ok (.ifCond .lt 15, 3) := by decide +kernel
theorem dX6_write_20 : decode cX6_write 20 = .ok (.aload_n 0, 1) := by decide +kernel
theorem dX6_write_21 : decode cX6_write 21 = .ok (.getfield 93, 3) := by decide +kernel
theorem dX6_write_24 : decode cX6_write 24 = .ok (.aload_n 0, 1) := by decide +kernel
theorem dX6_write_25 : decode cX6_write 25 = .ok (.getfield 9, 3) := by decide +kernel
theorem dX6_write_28 : decode cX6_write 28 = .ok (.arraylength, 1) := by decide +kernel
theorem dX6_write_29 : decode cX6_write 29 = .ok (.if_icmp .lt 6, 3) := by decide +kernel
theorem dX6_write_32 : decode cX6_write 32 = .ok (.bipush (-3), 2) := by decide +kernel
theorem dX6_write_34 : decode cX6_write 34 = .ok (.ireturn, 1) := by decide +kernel
theorem dX6_write_35 : decode cX6_write 35 = .ok (.aload_n 0, 1) := by decide +kernel
theorem dX6_write_36 : decode cX6_write 36 = .ok (.getfield 9, 3) := by decide +kernel
theorem dX6_write_39 : decode cX6_write 39 = .ok (.aload_n 0, 1) := by decide +kernel
theorem dX6_write_40 : decode cX6_write 40 = .ok (.getfield 93, 3) := by decide +kernel
theorem dX6_write_43 : decode cX6_write 43 = .ok (.iload_n 1, 1) := by decide +kernel
theorem dX6_write_44 : decode cX6_write 44 = .ok (.i2c, 1) := by decide +kernel
theorem dX6_write_45 : decode cX6_write 45 = .ok (.castore, 1) := by decide +kernel
theorem dX6_write_46 : decode cX6_write 46 = .ok (.aload_n 0, 1) := by decide +kernel
theorem dX6_write_47 : decode cX6_write 47 = .ok (.dup, 1) := by decide +kernel
theorem dX6_write_48 : decode cX6_write 48 = .ok (.getfield 93, 3) := by decide +kernel
theorem dX6_write_51 : decode cX6_write 51 = .ok (.iconst 1, 1) := by decide +kernel
theorem dX6_write_52 : decode cX6_write 52 = .ok (.iadd, 1) := by decide +kernel
theorem dX6_write_53 : decode cX6_write 53 = .ok (.putfield 93, 3) := by decide +kernel
theorem dX6_write_56 : decode cX6_write 56 = .ok (.aload_n 0, 1) := by decide +kernel
theorem dX6_write_57 : decode cX6_write 57 = .ok (.getfield 93, 3) := by decide +kernel
theorem dX6_write_60 : decode cX6_write 60 = .ok (.ireturn, 1) := by decide +kernel
theorem dX6_wipe_0 : decode cX6_wipe 0 = .ok (.aload_n 0, 1) := by decide +kernel
theorem dX6_wipe_1 : decode cX6_wipe 1 = .ok (.getfield 93, 3) := by decide +kernel
theorem dX6_wipe_4 : decode cX6_wipe 4 = .ok (.istore_n 1, 1) := by decide +kernel
theorem dX6_wipe_5 : decode cX6_wipe 5 = .ok (.aload_n 0, 1) := by decide +kernel
theorem dX6_wipe_6 : decode cX6_wipe 6 = .ok (.iconst 0, 1) := by decide +kernel
theorem dX6_wipe_7 : decode cX6_wipe 7 = .ok (.putfield 93, 3) := by decide +kernel
theorem dX6_wipe_10 : decode cX6_wipe 10 = .ok (.iload_n 1, 1) := by decide +kernel
theorem dX6_wipe_11 : decode cX6_wipe 11 = .ok (.ireturn, 1) := by decide +kernel
theorem dX6_fault_0 : decode cX6_fault 0 = .ok (.aload_n 0, 1) := by decide +kernel
theorem dX6_fault_1 : decode cX6_fault 1 = .ok (.getfield 20, 3) := by decide +kernel
theorem dX6_fault_4 : decode cX6_fault 4 = .ok (.aload_n 0, 1) := by decide +kernel
theorem dX6_fault_5 : decode cX6_fault 5 = .ok (.getfield 9, 3) := by decide +kernel
theorem dX6_fault_8 : decode cX6_fault 8 = .ok (.aload_n 0, 1) := by decide +kernel
theorem dX6_fault_9 : decode cX6_fault 9 = .ok (.getfield 93, 3) := by decide +kernel
theorem dX6_fault_12 : decode cX6_fault 12 = .ok (.invokevirtual 78, 3) := by decide +kernel
theorem dX6_fault_15 : decode cX6_fault 15 = .ok (.ireturn, 1) := by decide +kernel
theorem dX6_lay_0 : decode cX6_lay 0 = .ok (.aload_n 0, 1) := by decide +kernel
theorem dX6_lay_1 : decode cX6_lay 1 = .ok (.getfield 20, 3) := by decide +kernel
theorem dX6_lay_4 : decode cX6_lay 4 = .ok (.aload_n 0, 1) := by decide +kernel
theorem dX6_lay_5 : decode cX6_lay 5 = .ok (.getfield 9, 3) := by decide +kernel
theorem dX6_lay_8 : decode cX6_lay 8 = .ok (.aload_n 0, 1) := by decide +kernel
theorem dX6_lay_9 : decode cX6_lay 9 = .ok (.getfield 93, 3) := by decide +kernel
theorem dX6_lay_12 : decode cX6_lay 12 = .ok (.invokevirtual 78, 3) := by decide +kernel
theorem dX6_lay_15 : decode cX6_lay 15 = .ok (.bipush (-4), 2) := by decide +kernel
theorem dX6_lay_17 : decode cX6_lay 17 = .ok (.if_icmp .ne 13, 3) := by decide +kernel
theorem dX6_lay_20 : decode cX6_lay 20 = .ok (.aload_n 0, 1) := by decide +kernel
theorem dX6_lay_21 : decode cX6_lay 21 = .ok (.getfield 20, 3) := by decide +kernel
theorem dX6_lay_24 : decode cX6_lay 24 = .ok (.getfield 96, 3) := by decide +kernel
theorem dX6_lay_27 : decode cX6_lay 27 = .ok (.ifCond .ne 6, 3) := by decide +kernel
theorem dX6_lay_30 : decode cX6_lay 30 = .ok (.bipush (-2), 2) := by decide +kernel
theorem dX6_lay_32 : decode cX6_lay 32 = .ok (.ireturn, 1) := by decide +kernel
theorem dX6_lay_33 : decode cX6_lay 33 = .ok (.aload_n 0, 1) := by decide +kernel
theorem dX6_lay_34 : decode cX6_lay 34 = .ok (.getfield 16, 3) := by decide +kernel
theorem dX6_lay_37 : decode cX6_lay 37 = .ok (.astore_n 1, 1) := by decide +kernel
theorem dX6_lay_38 : decode cX6_lay 38 = .ok (.aload_n 0, 1) := by decide +kernel
theorem dX6_lay_39 : decode cX6_lay 39 = .ok (.aload_n 0, 1) := by decide +kernel
theorem dX6_lay_40 : decode cX6_lay 40 = .ok (.getfield 20, 3) := by decide +kernel
theorem dX6_lay_43 : decode cX6_lay 43 = .ok (.putfield 16, 3) := by decide +kernel
theorem dX6_lay_46 : decode cX6_lay 46 = .ok (.aload_n 0, 1) := by decide +kernel
theorem dX6_lay_47 : decode cX6_lay 47 = .ok (.aload_n 1, 1) := by decide +kernel
theorem dX6_lay_48 : decode cX6_lay 48 = .ok (.putfield 20, 3) := by decide +kernel
theorem dX6_lay_51 : decode cX6_lay 51 = .ok (.aload_n 0, 1) := by decide +kernel
theorem dX6_lay_52 : decode cX6_lay 52 = .ok (.getfield 26, 3) := by decide +kernel
theorem dX6_lay_55 : decode cX6_lay 55 = .ok (.aload_n 0, 1) := by decide +kernel
theorem dX6_lay_56 : decode cX6_lay 56 = .ok (.getfield 16, 3) := by decide +kernel
theorem dX6_lay_59 : decode cX6_lay 59 = .ok (.getfield 82, 3) := by decide +kernel
theorem dX6_lay_62 : decode cX6_lay 62 = .ok (.invokevirtual 86, 3) := by decide +kernel
theorem dX6_lay_65 : decode cX6_lay 65 = .ok (.aload_n 0, 1) := by decide +kernel
theorem dX6_lay_66 : decode cX6_lay 66 = .ok (.getfield 38, 3) := by decide +kernel
theorem dX6_lay_69 : decode cX6_lay 69 = .ok (.invokevirtual 99, 3) := by decide +kernel
theorem dX6_lay_72 : decode cX6_lay 72 = .ok (.aload_n 0, 1) := by decide +kernel
theorem dX6_lay_73 : decode cX6_lay 73 = .ok (.getfield 42, 3) := by decide +kernel
theorem dX6_lay_76 : decode cX6_lay 76 = .ok (.invokevirtual 99, 3) := by decide +kernel
theorem dX6_lay_79 : decode cX6_lay 79 = .ok (.aload_n 0, 1) := by decide +kernel
theorem dX6_lay_80 : decode cX6_lay 80 = .ok (.getfield 48, 3) := by decide +kernel
theorem dX6_lay_83 : decode cX6_lay 83 = .ok (.invokevirtual 101, 3) := by decide +kernel
theorem dX6_lay_86 : decode cX6_lay 86 = .ok (.aload_n 0, 1) := by decide +kernel
theorem dX6_lay_87 : decode cX6_lay 87 = .ok (.getfield 16, 3) := by decide +kernel
theorem dX6_lay_90 : decode cX6_lay 90 = .ok (.getfield 96, 3) := by decide +kernel
theorem dX6_lay_93 : decode cX6_lay 93 = .ok (.ireturn, 1) := by decide +kernel
theorem dX6_strip_0 : decode cX6_strip 0 = .ok (.iload_n 1, 1) := by decide +kernel
theorem dX6_strip_1 : decode cX6_strip 1 = .ok (.iconst 0, 1) := by decide +kernel
theorem dX6_strip_2 : decode cX6_strip 2 = .ok (.aload_n 0, 1) := by decide +kernel
theorem dX6_strip_3 : decode cX6_strip 3 = .ok (.getfield 16, 3) := by decide +kernel
theorem dX6_strip_6 : decode cX6_strip 6 = .ok (.getfield 96, 3) := by decide +kernel
theorem dX6_strip_9 : decode cX6_strip 9 = .ok (.iconst 1, 1) := by decide +kernel
theorem dX6_strip_10 : decode cX6_strip 10 = .ok (.isub, 1) := by decide +kernel
theorem dX6_strip_11 : decode cX6_strip 11 = .ok (.invokestatic 89, 3) := by decide +kernel
theorem dX6_strip_14 : decode cX6_strip 14 = .ok (.ifCond .ne 5, 3) := by decide +kernel
theorem dX6_strip_17 : decode cX6_strip 17 = .ok (.iconst (-1), 1) := by decide +kernel
theorem dX6_strip_18 : decode cX6_strip 18 = .ok (.ireturn, 1) := by decide +kernel
theorem dX6_strip_19 : decode cX6_strip 19 = .ok (.iload_n 2, 1) := by decide +kernel
theorem dX6_strip_20 : decode cX6_strip 20 = .ok (.tableswitch 89 0 4 #[36, 45, 54, 63, 72], 36) := by decide +kernel
theorem dX6_strip_56 : decode cX6_strip 56 = .ok (.aload_n 0, 1) := by decide +kernel
theorem dX6_strip_57 : decode cX6_strip 57 = .ok (.getfield 16, 3) := by decide +kernel
theorem dX6_strip_60 : decode cX6_strip 60 = .ok (.iload_n 1, 1) := by decide +kernel
theorem dX6_strip_61 : decode cX6_strip 61 = .ok (.invokevirtual 102, 3) := by decide +kernel
theorem dX6_strip_64 : decode cX6_strip 64 = .ok (.ireturn, 1) := by decide +kernel
theorem dX6_strip_65 : decode cX6_strip 65 = .ok (.aload_n 0, 1) := by decide +kernel
theorem dX6_strip_66 : decode cX6_strip 66 = .ok (.getfield 16, 3) := by decide +kernel
theorem dX6_strip_69 : decode cX6_strip 69 = .ok (.iload_n 1, 1) := by decide +kernel
theorem dX6_strip_70 : decode cX6_strip 70 = .ok (.invokevirtual 106, 3) := by decide +kernel
theorem dX6_strip_73 : decode cX6_strip 73 = .ok (.ireturn, 1) := by decide +kernel
theorem dX6_strip_74 : decode cX6_strip 74 = .ok (.aload_n 0, 1) := by decide +kernel
theorem dX6_strip_75 : decode cX6_strip 75 = .ok (.getfield 16, 3) := by decide +kernel
theorem dX6_strip_78 : decode cX6_strip 78 = .ok (.iload_n 1, 1) := by decide +kernel
theorem dX6_strip_79 : decode cX6_strip 79 = .ok (.invokevirtual 109, 3) := by decide +kernel
theorem dX6_strip_82 : decode cX6_strip 82 = .ok (.ireturn, 1) := by decide +kernel
theorem dX6_strip_83 : decode cX6_strip 83 = .ok (.aload_n 0, 1) := by decide +kernel
theorem dX6_strip_84 : decode cX6_strip 84 = .ok (.getfield 26, 3) := by decide +kernel
theorem dX6_strip_87 : decode cX6_strip 87 = .ok (.iload_n 1, 1) := by decide +kernel
theorem dX6_strip_88 : decode cX6_strip 88 = .ok (.invokevirtual 112, 3) := by decide +kernel
theorem dX6_strip_91 : decode cX6_strip 91 = .ok (.ireturn, 1) := by decide +kernel
theorem dX6_strip_92 : decode cX6_strip 92 = .ok (.aload_n 0, 1) := by decide +kernel
theorem dX6_strip_93 : decode cX6_strip 93 = .ok (.getfield 26, 3) := by decide +kernel
theorem dX6_strip_96 : decode cX6_strip 96 = .ok (.iload_n 1, 1) := by decide +kernel
theorem dX6_strip_97 : decode cX6_strip 97 = .ok (.invokevirtual 115, 3) := by decide +kernel
theorem dX6_strip_100 : decode cX6_strip 100 = .ok (.ifCond .eq 7, 3) := by decide +kernel
theorem dX6_strip_103 : decode cX6_strip 103 = .ok (.iconst 1, 1) := by decide +kernel
theorem dX6_strip_104 : decode cX6_strip 104 = .ok (.goto 4, 3) := by decide +kernel
theorem dX6_strip_107 : decode cX6_strip 107 = .ok (.iconst 0, 1) := by decide +kernel
theorem dX6_strip_108 : decode cX6_strip 108 = .ok (.ireturn, 1) := by decide +kernel
theorem dX6_strip_109 : decode cX6_strip 109 = .ok (.iconst (-1), 1) := by decide +kernel
theorem dX6_strip_110 : decode cX6_strip 110 = .ok (.ireturn, 1) := by decide +kernel
theorem dX6_wall_0 : decode cX6_wall 0 = .ok (.iload_n 1, 1) := by decide +kernel
theorem dX6_wall_1 : decode cX6_wall 1 = .ok (.invokestatic 119, 3) := by decide +kernel
theorem dX6_wall_4 : decode cX6_wall 4 = .ok (.ifCond .ne 5, 3) := by decide +kernel
theorem dX6_wall_7 : decode cX6_wall 7 = .ok (.iconst (-1), 1) := by decide +kernel
theorem dX6_wall_8 : decode cX6_wall 8 = .ok (.ireturn, 1) := by decide +kernel
theorem dX6_wall_9 : decode cX6_wall 9 = .ok (.iload_n 2, 1) := by decide +kernel
theorem dX6_wall_10 : decode cX6_wall 10 = .ok (.tableswitch 90 0 3 #[30, 39, 56, 73], 30) := by decide +kernel
theorem dX6_wall_40 : decode cX6_wall 40 = .ok (.aload_n 0, 1) := by decide +kernel
theorem dX6_wall_41 : decode cX6_wall 41 = .ok (.getfield 26, 3) := by decide +kernel
theorem dX6_wall_44 : decode cX6_wall 44 = .ok (.iload_n 1, 1) := by decide +kernel
theorem dX6_wall_45 : decode cX6_wall 45 = .ok (.invokevirtual 122, 3) := by decide +kernel
theorem dX6_wall_48 : decode cX6_wall 48 = .ok (.ireturn, 1) := by decide +kernel
theorem dX6_wall_49 : decode cX6_wall 49 = .ok (.aload_n 0, 1) := by decide +kernel
theorem dX6_wall_50 : decode cX6_wall 50 = .ok (.getfield 26, 3) := by decide +kernel
theorem dX6_wall_53 : decode cX6_wall 53 = .ok (.iload_n 1, 1) := by decide +kernel
theorem dX6_wall_54 : decode cX6_wall 54 = .ok (.invokevirtual 125, 3) := by decide +kernel
theorem dX6_wall_57 : decode cX6_wall 57 = .ok (.ifCond .eq 7, 3) := by decide +kernel
theorem dX6_wall_60 : decode cX6_wall 60 = .ok (.iconst 1, 1) := by decide +kernel
theorem dX6_wall_61 : decode cX6_wall 61 = .ok (.goto 4, 3) := by decide +kernel
theorem dX6_wall_64 : decode cX6_wall 64 = .ok (.iconst 0, 1) := by decide +kernel
theorem dX6_wall_65 : decode cX6_wall 65 = .ok (.ireturn, 1) := by decide +kernel
theorem dX6_wall_66 : decode cX6_wall 66 = .ok (.aload_n 0, 1) := by decide +kernel
theorem dX6_wall_67 : decode cX6_wall 67 = .ok (.getfield 26, 3) := by decide +kernel
theorem dX6_wall_70 : decode cX6_wall 70 = .ok (.iload_n 1, 1) := by decide +kernel
theorem dX6_wall_71 : decode cX6_wall 71 = .ok (.invokevirtual 128, 3) := by decide +kernel
theorem dX6_wall_74 : decode cX6_wall 74 = .ok (.ifCond .eq 7, 3) := by decide +kernel
theorem dX6_wall_77 : decode cX6_wall 77 = .ok (.iconst 1, 1) := by decide +kernel
theorem dX6_wall_78 : decode cX6_wall 78 = .ok (.goto 4, 3) := by decide +kernel
theorem dX6_wall_81 : decode cX6_wall 81 = .ok (.iconst 0, 1) := by decide +kernel
theorem dX6_wall_82 : decode cX6_wall 82 = .ok (.ireturn, 1) := by decide +kernel
theorem dX6_wall_83 : decode cX6_wall 83 = .ok (.aload_n 0, 1) := by decide +kernel
theorem dX6_wall_84 : decode cX6_wall 84 = .ok (.getfield 26, 3) := by decide +kernel
theorem dX6_wall_87 : decode cX6_wall 87 = .ok (.iload_n 1, 1) := by decide +kernel
theorem dX6_wall_88 : decode cX6_wall 88 = .ok (.invokevirtual 131, 3) := by decide +kernel
theorem dX6_wall_91 : decode cX6_wall 91 = .ok (.ifCond .eq 7, 3) := by decide +kernel
theorem dX6_wall_94 : decode cX6_wall 94 = .ok (.iconst 1, 1) := by decide +kernel
theorem dX6_wall_95 : decode cX6_wall 95 = .ok (.goto 4, 3) := by decide +kernel
theorem dX6_wall_98 : decode cX6_wall 98 = .ok (.iconst 0, 1) := by decide +kernel
theorem dX6_wall_99 : decode cX6_wall 99 = .ok (.ireturn, 1) := by decide +kernel
theorem dX6_wall_100 : decode cX6_wall 100 = .ok (.iconst (-1), 1) := by decide +kernel
theorem dX6_wall_101 : decode cX6_wall 101 = .ok (.ireturn, 1) := by decide +kernel
theorem dX6_damp_0 : decode cX6_damp 0 = .ok (.iload_n 1, 1) := by decide +kernel
theorem dX6_damp_1 : decode cX6_damp 1 = .ok (.iconst 0, 1) := by decide +kernel
theorem dX6_damp_2 : decode cX6_damp 2 = .ok (.sipush 999, 3) := by decide +kernel
theorem dX6_damp_5 : decode cX6_damp 5 = .ok (.invokestatic 89, 3) := by decide +kernel
theorem dX6_damp_8 : decode cX6_damp 8 = .ok (.ifCond .eq 14, 3) := by decide +kernel
theorem dX6_damp_11 : decode cX6_damp 11 = .ok (.aload_n 0, 1) := by decide +kernel
theorem dX6_damp_12 : decode cX6_damp 12 = .ok (.getfield 16, 3) := by decide +kernel
theorem dX6_damp_15 : decode cX6_damp 15 = .ok (.iload_n 1, 1) := by decide +kernel
theorem dX6_damp_16 : decode cX6_damp 16 = .ok (.invokevirtual 134, 3) := by decide +kernel
theorem dX6_damp_19 : decode cX6_damp 19 = .ok (.goto 4, 3) := by decide +kernel
theorem dX6_damp_22 : decode cX6_damp 22 = .ok (.iconst (-1), 1) := by decide +kernel
theorem dX6_damp_23 : decode cX6_damp 23 = .ok (.ireturn, 1) := by decide +kernel
theorem dX6_cut_0 : decode cX6_cut 0 = .ok (.iload_n 1, 1) := by decide +kernel
theorem dX6_cut_1 : decode cX6_cut 1 = .ok (.iconst 1, 1) := by decide +kernel
theorem dX6_cut_2 : decode cX6_cut 2 = .ok (.bipush 6, 2) := by decide +kernel
theorem dX6_cut_4 : decode cX6_cut 4 = .ok (.invokestatic 89, 3) := by decide +kernel
theorem dX6_cut_7 : decode cX6_cut 7 = .ok (.ifCond .ne 5, 3) := by decide +kernel
theorem dX6_cut_10 : decode cX6_cut 10 = .ok (.iconst (-1), 1) := by decide +kernel
theorem dX6_cut_11 : decode cX6_cut 11 = .ok (.ireturn, 1) := by decide +kernel
theorem dX6_cut_12 : decode cX6_cut 12 = .ok (.aload_n 0, 1) := by decide +kernel
theorem dX6_cut_13 : decode cX6_cut 13 = .ok (.getfield 26, 3) := by decide +kernel
theorem dX6_cut_16 : decode cX6_cut 16 = .ok (.aload_n 0, 1) := by decide +kernel
theorem dX6_cut_17 : decode cX6_cut 17 = .ok (.getfield 16, 3) := by decide +kernel
theorem dX6_cut_20 : decode cX6_cut 20 = .ok (.iload_n 1, 1) := by decide +kernel
theorem dX6_cut_21 : decode cX6_cut 21 = .ok (.invokevirtual 137, 3) := by decide +kernel
theorem dX6_cut_24 : decode cX6_cut 24 = .ok (.ifCond .ne 6, 3) := by decide +kernel
theorem dX6_cut_27 : decode cX6_cut 27 = .ok (.bipush (-2), 2) := by decide +kernel
theorem dX6_cut_29 : decode cX6_cut 29 = .ok (.ireturn, 1) := by decide +kernel
theorem dX6_cut_30 : decode cX6_cut 30 = .ok (.aload_n 0, 1) := by decide +kernel
theorem dX6_cut_31 : decode cX6_cut 31 = .ok (.getfield 38, 3) := by decide +kernel
theorem dX6_cut_34 : decode cX6_cut 34 = .ok (.aload_n 0, 1) := by decide +kernel
theorem dX6_cut_35 : decode cX6_cut 35 = .ok (.getfield 26, 3) := by decide +kernel
theorem dX6_cut_38 : decode cX6_cut 38 = .ok (.invokevirtual 141, 3) := by decide +kernel
theorem dX6_cut_41 : decode cX6_cut 41 = .ok (.aload_n 0, 1) := by decide +kernel
theorem dX6_cut_42 : decode cX6_cut 42 = .ok (.getfield 26, 3) := by decide +kernel
theorem dX6_cut_45 : decode cX6_cut 45 = .ok (.aload_n 0, 1) := by decide +kernel
theorem dX6_cut_46 : decode cX6_cut 46 = .ok (.getfield 16, 3) := by decide +kernel
theorem dX6_cut_49 : decode cX6_cut 49 = .ok (.iload_n 1, 1) := by decide +kernel
theorem dX6_cut_50 : decode cX6_cut 50 = .ok (.invokevirtual 145, 3) := by decide +kernel
theorem dX6_cut_53 : decode cX6_cut 53 = .ok (.ireturn, 1) := by decide +kernel
theorem dX6_hook_0 : decode cX6_hook 0 = .ok (.iload_n 1, 1) := by decide +kernel
theorem dX6_hook_1 : decode cX6_hook 1 = .ok (.invokestatic 119, 3) := by decide +kernel
theorem dX6_hook_4 : decode cX6_hook 4 = .ok (.ifCond .eq 13, 3) := by decide +kernel
theorem dX6_hook_7 : decode cX6_hook 7 = .ok (.iload_n 2, 1) := by decide +kernel
theorem dX6_hook_8 : decode cX6_hook 8 = .ok (.iconst 0, 1) := by decide +kernel
theorem dX6_hook_9 : decode cX6_hook 9 = .ok (.bipush 20, 2) := by decide +kernel
theorem dX6_hook_11 : decode cX6_hook 11 = .ok (.invokestatic 89, 3) := by decide +kernel
theorem dX6_hook_14 : decode cX6_hook 14 = .ok (.ifCond .ne 5, 3) := by decide +kernel
theorem dX6_hook_17 : decode cX6_hook 17 = .ok (.iconst (-1), 1) := by decide +kernel
theorem dX6_hook_18 : decode cX6_hook 18 = .ok (.ireturn, 1) := by decide +kernel
theorem dX6_hook_19 : decode cX6_hook 19 = .ok (.aload_n 0, 1) := by decide +kernel
theorem dX6_hook_20 : decode cX6_hook 20 = .ok (.getfield 26, 3) := by decide +kernel
theorem dX6_hook_23 : decode cX6_hook 23 = .ok (.aload_n 0, 1) := by decide +kernel
theorem dX6_hook_24 : decode cX6_hook 24 = .ok (.getfield 16, 3) := by decide +kernel
theorem dX6_hook_27 : decode cX6_hook 27 = .ok (.invokevirtual 149, 3) := by decide +kernel
theorem dX6_hook_30 : decode cX6_hook 30 = .ok (.ifCond .eq 14, 3) := by decide +kernel
theorem dX6_hook_33 : decode cX6_hook 33 = .ok (.aload_n 0, 1) := by decide +kernel
theorem dX6_hook_34 : decode cX6_hook 34 = .ok (.getfield 26, 3) := by decide +kernel
theorem dX6_hook_37 : decode cX6_hook 37 = .ok (.iload_n 1, 1) := by decide +kernel
theorem dX6_hook_38 : decode cX6_hook 38 = .ok (.invokevirtual 153, 3) := by decide +kernel
theorem dX6_hook_41 : decode cX6_hook 41 = .ok (.ifCond .ne 6, 3) := by decide +kernel
theorem dX6_hook_44 : decode cX6_hook 44 = .ok (.bipush (-2), 2) := by decide +kernel
theorem dX6_hook_46 : decode cX6_hook 46 = .ok (.ireturn, 1) := by decide +kernel
theorem dX6_hook_47 : decode cX6_hook 47 = .ok (.aload_n 0, 1) := by decide +kernel
theorem dX6_hook_48 : decode cX6_hook 48 = .ok (.getfield 38, 3) := by decide +kernel
theorem dX6_hook_51 : decode cX6_hook 51 = .ok (.aload_n 0, 1) := by decide +kernel
theorem dX6_hook_52 : decode cX6_hook 52 = .ok (.getfield 26, 3) := by decide +kernel
theorem dX6_hook_55 : decode cX6_hook 55 = .ok (.invokevirtual 141, 3) := by decide +kernel
theorem dX6_hook_58 : decode cX6_hook 58 = .ok (.aload_n 0, 1) := by decide +kernel
theorem dX6_hook_59 : decode cX6_hook 59 = .ok (.getfield 26, 3) := by decide +kernel
theorem dX6_hook_62 : decode cX6_hook 62 = .ok (.aload_n 0, 1) := by decide +kernel
theorem dX6_hook_63 : decode cX6_hook 63 = .ok (.getfield 16, 3) := by decide +kernel
theorem dX6_hook_66 : decode cX6_hook 66 = .ok (.iload_n 1, 1) := by decide +kernel
theorem dX6_hook_67 : decode cX6_hook 67 = .ok (.iload_n 2, 1) := by decide +kernel
theorem dX6_hook_68 : decode cX6_hook 68 = .ok (.invokevirtual 156, 3) := by decide +kernel
theorem dX6_hook_71 : decode cX6_hook 71 = .ok (.ireturn, 1) := by decide +kernel
theorem dX6_letGo_0 : decode cX6_letGo 0 = .ok (.iload_n 1, 1) := by decide +kernel
theorem dX6_letGo_1 : decode cX6_letGo 1 = .ok (.invokestatic 119, 3) := by decide +kernel
theorem dX6_letGo_4 : decode cX6_letGo 4 = .ok (.ifCond .ne 5, 3) := by decide +kernel
theorem dX6_letGo_7 : decode cX6_letGo 7 = .ok (.iconst (-1), 1) := by decide +kernel
theorem dX6_letGo_8 : decode cX6_letGo 8 = .ok (.ireturn, 1) := by decide +kernel
theorem dX6_letGo_9 : decode cX6_letGo 9 = .ok (.aload_n 0, 1) := by decide +kernel
theorem dX6_letGo_10 : decode cX6_letGo 10 = .ok (.getfield 26, 3) := by decide +kernel
theorem dX6_letGo_13 : decode cX6_letGo 13 = .ok (.iload_n 1, 1) := by decide +kernel
theorem dX6_letGo_14 : decode cX6_letGo 14 = .ok (.invokevirtual 125, 3) := by decide +kernel
theorem dX6_letGo_17 : decode cX6_letGo 17 = .ok (.ifCond .ne 6, 3) := by decide +kernel
theorem dX6_letGo_20 : decode cX6_letGo 20 = .ok (.bipush (-2), 2) := by decide +kernel
theorem dX6_letGo_22 : decode cX6_letGo 22 = .ok (.ireturn, 1) := by decide +kernel
theorem dX6_letGo_23 : decode cX6_letGo 23 = .ok (.aload_n 0, 1) := by decide +kernel
theorem dX6_letGo_24 : decode cX6_letGo 24 = .ok (.getfield 38, 3) := by decide +kernel
theorem dX6_letGo_27 : decode cX6_letGo 27 = .ok (.aload_n 0, 1) := by decide +kernel
theorem dX6_letGo_28 : decode cX6_letGo 28 = .ok (.getfield 26, 3) := by decide +kernel
theorem dX6_letGo_31 : decode cX6_letGo 31 = .ok (.invokevirtual 141, 3) := by decide +kernel
theorem dX6_letGo_34 : decode cX6_letGo 34 = .ok (.aload_n 0, 1) := by decide +kernel
theorem dX6_letGo_35 : decode cX6_letGo 35 = .ok (.getfield 26, 3) := by decide +kernel
theorem dX6_letGo_38 : decode cX6_letGo 38 = .ok (.iload_n 1, 1) := by decide +kernel
theorem dX6_letGo_39 : decode cX6_letGo 39 = .ok (.invokevirtual 160, 3) := by decide +kernel
theorem dX6_letGo_42 : decode cX6_letGo 42 = .ok (.ireturn, 1) := by decide +kernel
theorem dX6_pass_0 : decode cX6_pass 0 = .ok (.iload_n 1, 1) := by decide +kernel
theorem dX6_pass_1 : decode cX6_pass 1 = .ok (.iconst 1, 1) := by decide +kernel
theorem dX6_pass_2 : decode cX6_pass 2 = .ok (.bipush 60, 2) := by decide +kernel
theorem dX6_pass_4 : decode cX6_pass 4 = .ok (.invokestatic 89, 3) := by decide +kernel
theorem dX6_pass_7 : decode cX6_pass 7 = .ok (.ifCond .ne 5, 3) := by decide +kernel
theorem dX6_pass_10 : decode cX6_pass 10 = .ok (.iconst (-1), 1) := by decide +kernel
theorem dX6_pass_11 : decode cX6_pass 11 = .ok (.ireturn, 1) := by decide +kernel
theorem dX6_pass_12 : decode cX6_pass 12 = .ok (.aload_n 0, 1) := by decide +kernel
theorem dX6_pass_13 : decode cX6_pass 13 = .ok (.getfield 26, 3) := by decide +kernel
theorem dX6_pass_16 : decode cX6_pass 16 = .ok (.getfield 163, 3) := by decide +kernel
theorem dX6_pass_19 : decode cX6_pass 19 = .ok (.iload_n 1, 1) := by decide +kernel
theorem dX6_pass_20 : decode cX6_pass 20 = .ok (.iadd, 1) := by decide +kernel
theorem dX6_pass_21 : decode cX6_pass 21 = .ok (.sipush 999, 3) := by decide +kernel
theorem dX6_pass_24 : decode cX6_pass 24 = .ok (.if_icmp .le 6, 3) := by decide +kernel
theorem dX6_pass_27 : decode cX6_pass 27 = .ok (.bipush (-2), 2) := by decide +kernel
theorem dX6_pass_29 : decode cX6_pass 29 = .ok (.ireturn, 1) := by decide +kernel
theorem dX6_pass_30 : decode cX6_pass 30 = .ok (.aload_n 0, 1) := by decide +kernel
theorem dX6_pass_31 : decode cX6_pass 31 = .ok (.getfield 38, 3) := by decide +kernel
theorem dX6_pass_34 : decode cX6_pass 34 = .ok (.aload_n 0, 1) := by decide +kernel
theorem dX6_pass_35 : decode cX6_pass 35 = .ok (.getfield 26, 3) := by decide +kernel
theorem dX6_pass_38 : decode cX6_pass 38 = .ok (.invokevirtual 141, 3) := by decide +kernel
theorem dX6_pass_41 : decode cX6_pass 41 = .ok (.iconst 0, 1) := by decide +kernel
theorem dX6_pass_42 : decode cX6_pass 42 = .ok (.istore_n 2, 1) := by decide +kernel
theorem dX6_pass_43 : decode cX6_pass 43 = .ok (.iload_n 2, 1) := by decide +kernel
theorem dX6_pass_44 : decode cX6_pass 44 = .ok (.iload_n 1, 1) := by decide +kernel
theorem dX6_pass_45 : decode cX6_pass 45 = .ok (.if_icmp .ge 20, 3) := by decide +kernel
theorem dX6_pass_48 : decode cX6_pass 48 = .ok (.aload_n 0, 1) := by decide +kernel
theorem dX6_pass_49 : decode cX6_pass 49 = .ok (.getfield 26, 3) := by decide +kernel
theorem dX6_pass_52 : decode cX6_pass 52 = .ok (.aload_n 0, 1) := by decide +kernel
theorem dX6_pass_53 : decode cX6_pass 53 = .ok (.getfield 16, 3) := by decide +kernel
theorem dX6_pass_56 : decode cX6_pass 56 = .ok (.invokevirtual 166, 3) := by decide +kernel
theorem dX6_pass_59 : decode cX6_pass 59 = .ok (.iinc 2 1, 3) := by decide +kernel
theorem dX6_pass_62 : decode cX6_pass 62 = .ok (.goto (-19), 3) := by decide +kernel
theorem dX6_pass_65 : decode cX6_pass 65 = .ok (.aload_n 0, 1) := by decide +kernel
theorem dX6_pass_66 : decode cX6_pass 66 = .ok (.getfield 26, 3) := by decide +kernel
theorem dX6_pass_69 : decode cX6_pass 69 = .ok (.getfield 163, 3) := by decide +kernel
theorem dX6_pass_72 : decode cX6_pass 72 = .ok (.ireturn, 1) := by decide +kernel
theorem dX6_undo_0 : decode cX6_undo 0 = .ok (.aload_n 0, 1) := by decide +kernel
theorem dX6_undo_1 : decode cX6_undo 1 = .ok (.getfield 38, 3) := by decide +kernel
theorem dX6_undo_4 : decode cX6_undo 4 = .ok (.aload_n 0, 1) := by decide +kernel
theorem dX6_undo_5 : decode cX6_undo 5 = .ok (.getfield 26, 3) := by decide +kernel
theorem dX6_undo_8 : decode cX6_undo 8 = .ok (.invokevirtual 170, 3) := by decide +kernel
theorem dX6_undo_11 : decode cX6_undo 11 = .ok (.ifCond .eq 13, 3) := by decide +kernel
theorem dX6_undo_14 : decode cX6_undo 14 = .ok (.aload_n 0, 1) := by decide +kernel
theorem dX6_undo_15 : decode cX6_undo 15 = .ok (.getfield 38, 3) := by decide +kernel
theorem dX6_undo_18 : decode cX6_undo 18 = .ok (.getfield 174, 3) := by decide +kernel
theorem dX6_undo_21 : decode cX6_undo 21 = .ok (.goto 5, 3) := by decide +kernel
theorem dX6_undo_24 : decode cX6_undo 24 = .ok (.bipush (-2), 2) := by decide +kernel
theorem dX6_undo_26 : decode cX6_undo 26 = .ok (.ireturn, 1) := by decide +kernel
theorem dX6_plan_0 : decode cX6_plan 0 = .ok (.iload_n 1, 1) := by decide +kernel
theorem dX6_plan_1 : decode cX6_plan 1 = .ok (.bipush (-2), 2) := by decide +kernel
theorem dX6_plan_3 : decode cX6_plan 3 = .ok (.if_icmp .ge 5, 3) := by decide +kernel
theorem dX6_plan_6 : decode cX6_plan 6 = .ok (.iconst (-1), 1) := by decide +kernel
theorem dX6_plan_7 : decode cX6_plan 7 = .ok (.ireturn, 1) := by decide +kernel
theorem dX6_plan_8 : decode cX6_plan 8 = .ok (.aload_n 0, 1) := by decide +kernel
theorem dX6_plan_9 : decode cX6_plan 9 = .ok (.getfield 55, 3) := by decide +kernel
theorem dX6_plan_12 : decode cX6_plan 12 = .ok (.aload_n 0, 1) := by decide +kernel
theorem dX6_plan_13 : decode cX6_plan 13 = .ok (.getfield 16, 3) := by decide +kernel
theorem dX6_plan_16 : decode cX6_plan 16 = .ok (.aload_n 0, 1) := by decide +kernel
theorem dX6_plan_17 : decode cX6_plan 17 = .ok (.getfield 26, 3) := by decide +kernel
theorem dX6_plan_20 : decode cX6_plan 20 = .ok (.invokevirtual 177, 3) := by decide +kernel
theorem dX6_plan_23 : decode cX6_plan 23 = .ok (.aload_n 0, 1) := by decide +kernel
theorem dX6_plan_24 : decode cX6_plan 24 = .ok (.getfield 55, 3) := by decide +kernel
theorem dX6_plan_27 : decode cX6_plan 27 = .ok (.getfield 181, 3) := by decide +kernel
theorem dX6_plan_30 : decode cX6_plan 30 = .ok (.ifCond .ne 6, 3) := by decide +kernel
theorem dX6_plan_33 : decode cX6_plan 33 = .ok (.bipush (-4), 2) := by decide +kernel
theorem dX6_plan_35 : decode cX6_plan 35 = .ok (.ireturn, 1) := by decide +kernel
theorem dX6_plan_36 : decode cX6_plan 36 = .ok (.iload_n 1, 1) := by decide +kernel
theorem dX6_plan_37 : decode cX6_plan 37 = .ok (.lookupswitch 43 #[(-2, 35), (-1, 27)], 27) := by decide +kernel
theorem dX6_plan_64 : decode cX6_plan 64 = .ok (.aload_n 0, 1) := by decide +kernel
theorem dX6_plan_65 : decode cX6_plan 65 = .ok (.getfield 55, 3) := by decide +kernel
theorem dX6_plan_68 : decode cX6_plan 68 = .ok (.getfield 185, 3) := by decide +kernel
theorem dX6_plan_71 : decode cX6_plan 71 = .ok (.ireturn, 1) := by decide +kernel
theorem dX6_plan_72 : decode cX6_plan 72 = .ok (.aload_n 0, 1) := by decide +kernel
theorem dX6_plan_73 : decode cX6_plan 73 = .ok (.getfield 55, 3) := by decide +kernel
theorem dX6_plan_76 : decode cX6_plan 76 = .ok (.getfield 188, 3) := by decide +kernel
theorem dX6_plan_79 : decode cX6_plan 79 = .ok (.ireturn, 1) := by decide +kernel
theorem dX6_plan_80 : decode cX6_plan 80 = .ok (.aload_n 0, 1) := by decide +kernel
theorem dX6_plan_81 : decode cX6_plan 81 = .ok (.getfield 55, 3) := by decide +kernel
theorem dX6_plan_84 : decode cX6_plan 84 = .ok (.iload_n 1, 1) := by decide +kernel
theorem dX6_plan_85 : decode cX6_plan 85 = .ok (.invokevirtual 191, 3) := by decide +kernel
theorem dX6_plan_88 : decode cX6_plan 88 = .ok (.ireturn, 1) := by decide +kernel
theorem dX6_order_0 : decode cX6_order 0 = .ok (.iload_n 1, 1) := by decide +kernel
theorem dX6_order_1 : decode cX6_order 1 = .ok (.iconst (-1), 1) := by decide +kernel
theorem dX6_order_2 : decode cX6_order 2 = .ok (.iconst 3, 1) := by decide +kernel
theorem dX6_order_3 : decode cX6_order 3 = .ok (.invokestatic 89, 3) := by decide +kernel
theorem dX6_order_6 : decode cX6_order 6 = .ok (.ifCond .ne 5, 3) := by decide +kernel
theorem dX6_order_9 : decode cX6_order 9 = .ok (.iconst (-1), 1) := by decide +kernel
theorem dX6_order_10 : decode cX6_order 10 = .ok (.ireturn, 1) := by decide +kernel
theorem dX6_order_11 : decode cX6_order 11 = .ok (.aload_n 0, 1) := by decide +kernel
theorem dX6_order_12 : decode cX6_order 12 = .ok (.getfield 62, 3) := by decide +kernel
theorem dX6_order_15 : decode cX6_order 15 = .ok (.aload_n 0, 1) := by decide +kernel
theorem dX6_order_16 : decode cX6_order 16 = .ok (.getfield 16, 3) := by decide +kernel
theorem dX6_order_19 : decode cX6_order 19 = .ok (.aload_n 0, 1) := by decide +kernel
theorem dX6_order_20 : decode cX6_order 20 = .ok (.getfield 26, 3) := by decide +kernel
theorem dX6_order_23 : decode cX6_order 23 = .ok (.aload_n 0, 1) := by decide +kernel
theorem dX6_order_24 : decode cX6_order 24 = .ok (.getfield 30, 3) := by decide +kernel
theorem dX6_order_27 : decode cX6_order 27 = .ok (.invokevirtual 194, 3) := by decide +kernel
theorem dX6_order_30 : decode cX6_order 30 = .ok (.iload_n 1, 1) := by decide +kernel
theorem dX6_order_31 : decode cX6_order 31 = .ok (.iconst (-1), 1) := by decide +kernel
theorem dX6_order_32 : decode cX6_order 32 = .ok (.if_icmp .ne 13, 3) := by decide +kernel
theorem dX6_order_35 : decode cX6_order 35 = .ok (.aload_n 0, 1) := by decide +kernel
theorem dX6_order_36 : decode cX6_order 36 = .ok (.getfield 62, 3) := by decide +kernel
theorem dX6_order_39 : decode cX6_order 39 = .ok (.getfield 197, 3) := by decide +kernel
theorem dX6_order_42 : decode cX6_order 42 = .ok (.goto 11, 3) := by decide +kernel
theorem dX6_order_45 : decode cX6_order 45 = .ok (.aload_n 0, 1) := by decide +kernel
theorem dX6_order_46 : decode cX6_order 46 = .ok (.getfield 62, 3) := by decide +kernel
theorem dX6_order_49 : decode cX6_order 49 = .ok (.iload_n 1, 1) := by decide +kernel
theorem dX6_order_50 : decode cX6_order 50 = .ok (.invokevirtual 200, 3) := by decide +kernel
theorem dX6_order_53 : decode cX6_order 53 = .ok (.ireturn, 1) := by decide +kernel
theorem dX6_kickFor_0 : decode cX6_kickFor 0 = .ok (.iload_n 1, 1) := by decide +kernel
theorem dX6_kickFor_1 : decode cX6_kickFor 1 = .ok (.invokestatic 119, 3) := by decide +kernel
theorem dX6_kickFor_4 : decode cX6_kickFor 4 = .ok (.ifCond .eq 13, 3) := by decide +kernel
theorem dX6_kickFor_7 : decode cX6_kickFor 7 = .ok (.iload_n 2, 1) := by decide +kernel
theorem dX6_kickFor_8 : decode cX6_kickFor 8 = .ok (.iconst 0, 1) := by decide +kernel
theorem dX6_kickFor_9 : decode cX6_kickFor 9 = .ok (.bipush 30, 2) := by decide +kernel
theorem dX6_kickFor_11 : decode cX6_kickFor 11 = .ok (.invokestatic 89, 3) := by decide +kernel
theorem dX6_kickFor_14 : decode cX6_kickFor 14 = .ok (.ifCond .ne 5, 3) := by decide +kernel
theorem dX6_kickFor_17 : decode cX6_kickFor 17 = .ok (.iconst (-1), 1) := by decide +kernel
theorem dX6_kickFor_18 : decode cX6_kickFor 18 = .ok (.ireturn, 1) := by decide +kernel
theorem dX6_kickFor_19 : decode cX6_kickFor 19 = .ok (.aload_n 0, 1) := by decide +kernel
theorem dX6_kickFor_20 : decode cX6_kickFor 20 = .ok (.getfield 26, 3) := by decide +kernel
theorem dX6_kickFor_23 : decode cX6_kickFor 23 = .ok (.iload_n 1, 1) := by decide +kernel
theorem dX6_kickFor_24 : decode cX6_kickFor 24 = .ok (.invokevirtual 153, 3) := by decide +kernel
theorem dX6_kickFor_27 : decode cX6_kickFor 27 = .ok (.ifCond .eq 19, 3) := by decide +kernel
theorem dX6_kickFor_30 : decode cX6_kickFor 30 = .ok (.aload_n 0, 1) := by decide +kernel
theorem dX6_kickFor_31 : decode cX6_kickFor 31 = .ok (.getfield 26, 3) := by decide +kernel
theorem dX6_kickFor_34 : decode cX6_kickFor 34 = .ok (.aload_n 0, 1) := by decide +kernel
theorem dX6_kickFor_35 : decode cX6_kickFor 35 = .ok (.getfield 16, 3) := by decide +kernel
theorem dX6_kickFor_38 : decode cX6_kickFor 38 = .ok (.iload_n 1, 1) := by decide +kernel
theorem dX6_kickFor_39 : decode cX6_kickFor 39 = .ok (.iload_n 2, 1) := by decide +kernel
theorem dX6_kickFor_40 : decode cX6_kickFor 40 = .ok (.invokevirtual 203, 3) := by decide +kernel
theorem dX6_kickFor_43 : decode cX6_kickFor 43 = .ok (.goto 5, 3) := by decide +kernel
theorem dX6_kickFor_46 : decode cX6_kickFor 46 = .ok (.bipush (-4), 2) := by decide +kernel
theorem dX6_kickFor_48 : decode cX6_kickFor 48 = .ok (.ireturn, 1) := by decide +kernel
theorem dX6_waves_0 : decode cX6_waves 0 = .ok (.bipush 61, 2) := by decide +kernel
theorem dX6_waves_2 : decode cX6_waves 2 = .ok (.istore_n 1, 1) := by decide +kernel
theorem dX6_waves_3 : decode cX6_waves 3 = .ok (.iconst 0, 1) := by decide +kernel
theorem dX6_waves_4 : decode cX6_waves 4 = .ok (.istore_n 2, 1) := by decide +kernel
theorem dX6_waves_5 : decode cX6_waves 5 = .ok (.iload_n 2, 1) := by decide +kernel
theorem dX6_waves_6 : decode cX6_waves 6 = .ok (.iconst 4, 1) := by decide +kernel
theorem dX6_waves_7 : decode cX6_waves 7 = .ok (.if_icmp .ge 37, 3) := by decide +kernel
theorem dX6_waves_10 : decode cX6_waves 10 = .ok (.aload_n 0, 1) := by decide +kernel
theorem dX6_waves_11 : decode cX6_waves 11 = .ok (.getfield 26, 3) := by decide +kernel
theorem dX6_waves_14 : decode cX6_waves 14 = .ok (.iload_n 2, 1) := by decide +kernel
theorem dX6_waves_15 : decode cX6_waves 15 = .ok (.invokevirtual 125, 3) := by decide +kernel
theorem dX6_waves_18 : decode cX6_waves 18 = .ok (.ifCond .eq 20, 3) := by decide +kernel
theorem dX6_waves_21 : decode cX6_waves 21 = .ok (.iload_n 1, 1) := by decide +kernel
theorem dX6_waves_22 : decode cX6_waves 22 = .ok (.aload_n 0, 1) := by decide +kernel
theorem dX6_waves_23 : decode cX6_waves 23 = .ok (.getfield 26, 3) := by decide +kernel
theorem dX6_waves_26 : decode cX6_waves 26 = .ok (.aload_n 0, 1) := by decide +kernel
theorem dX6_waves_27 : decode cX6_waves 27 = .ok (.getfield 16, 3) := by decide +kernel
theorem dX6_waves_30 : decode cX6_waves 30 = .ok (.iload_n 2, 1) := by decide +kernel
theorem dX6_waves_31 : decode cX6_waves 31 = .ok (.invokevirtual 206, 3) := by decide +kernel
theorem dX6_waves_34 : decode cX6_waves 34 = .ok (.invokestatic 209, 3) := by decide +kernel
theorem dX6_waves_37 : decode cX6_waves 37 = .ok (.istore_n 1, 1) := by decide +kernel
theorem dX6_waves_38 : decode cX6_waves 38 = .ok (.iinc 2 1, 3) := by decide +kernel
theorem dX6_waves_41 : decode cX6_waves 41 = .ok (.goto (-36), 3) := by decide +kernel
theorem dX6_waves_44 : decode cX6_waves 44 = .ok (.iload_n 1, 1) := by decide +kernel
theorem dX6_waves_45 : decode cX6_waves 45 = .ok (.bipush 60, 2) := by decide +kernel
theorem dX6_waves_47 : decode cX6_waves 47 = .ok (.if_icmp .le 8, 3) := by decide +kernel
theorem dX6_waves_50 : decode cX6_waves 50 = .ok (.bipush (-4), 2) := by decide +kernel
theorem dX6_waves_52 : decode cX6_waves 52 = .ok (.goto 4, 3) := by decide +kernel
theorem dX6_waves_55 : decode cX6_waves 55 = .ok (.iload_n 1, 1) := by decide +kernel
theorem dX6_waves_56 : decode cX6_waves 56 = .ok (.ireturn, 1) := by decide +kernel
theorem dX6_longest_0 : decode cX6_longest 0 = .ok (.bipush (-4), 2) := by decide +kernel
theorem dX6_longest_2 : decode cX6_longest 2 = .ok (.istore_n 1, 1) := by decide +kernel
theorem dX6_longest_3 : decode cX6_longest 3 = .ok (.iconst (-1), 1) := by decide +kernel
theorem dX6_longest_4 : decode cX6_longest 4 = .ok (.istore_n 2, 1) := by decide +kernel
theorem dX6_longest_5 : decode cX6_longest 5 = .ok (.iconst 0, 1) := by decide +kernel
theorem dX6_longest_6 : decode cX6_longest 6 = .ok (.istore_n 3, 1) := by decide +kernel
theorem dX6_longest_7 : decode cX6_longest 7 = .ok (.iload_n 3, 1) := by decide +kernel
theorem dX6_longest_8 : decode cX6_longest 8 = .ok (.iconst 4, 1) := by decide +kernel
theorem dX6_longest_9 : decode cX6_longest 9 = .ok (.if_icmp .ge 51, 3) := by decide +kernel
theorem dX6_longest_12 : decode cX6_longest 12 = .ok (.aload_n 0, 1) := by decide +kernel
theorem dX6_longest_13 : decode cX6_longest 13 = .ok (.getfield 26, 3) := by decide +kernel
theorem dX6_longest_16 : decode cX6_longest 16 = .ok (.iload_n 3, 1) := by decide +kernel
theorem dX6_longest_17 : decode cX6_longest 17 = .ok (.invokevirtual 125, 3) := by decide +kernel
theorem dX6_longest_20 : decode cX6_longest 20 = .ok (.ifCond .eq 34, 3) := by decide +kernel
theorem dX6_longest_23 : decode cX6_longest 23 = .ok (.aload_n 0, 1) := by decide +kernel
theorem dX6_longest_24 : decode cX6_longest 24 = .ok (.getfield 26, 3) := by decide +kernel
theorem dX6_longest_27 : decode cX6_longest 27 = .ok (.aload_n 0, 1) := by decide +kernel
theorem dX6_longest_28 : decode cX6_longest 28 = .ok (.getfield 16, 3) := by decide +kernel
theorem dX6_longest_31 : decode cX6_longest 31 = .ok (.iload_n 3, 1) := by decide +kernel
theorem dX6_longest_32 : decode cX6_longest 32 = .ok (.invokevirtual 206, 3) := by decide +kernel
theorem dX6_longest_35 : decode cX6_longest 35 = .ok (.iload_n 2, 1) := by decide +kernel
theorem dX6_longest_36 : decode cX6_longest 36 = .ok (.if_icmp .le 18, 3) := by decide +kernel
theorem dX6_longest_39 : decode cX6_longest 39 = .ok (.iload_n 3, 1) := by decide +kernel
theorem dX6_longest_40 : decode cX6_longest 40 = .ok (.istore_n 1, 1) := by decide +kernel
theorem dX6_longest_41 : decode cX6_longest 41 = .ok (.aload_n 0, 1) := by decide +kernel
theorem dX6_longest_42 : decode cX6_longest 42 = .ok (.getfield 26, 3) := by decide +kernel
theorem dX6_longest_45 : decode cX6_longest 45 = .ok (.aload_n 0, 1) := by decide +kernel
theorem dX6_longest_46 : decode cX6_longest 46 = .ok (.getfield 16, 3) := by decide +kernel
theorem dX6_longest_49 : decode cX6_longest 49 = .ok (.iload_n 3, 1) := by decide +kernel
theorem dX6_longest_50 : decode cX6_longest 50 = .ok (.invokevirtual 206, 3) := by decide +kernel
theorem dX6_longest_53 : decode cX6_longest 53 = .ok (.istore_n 2, 1) := by decide +kernel
theorem dX6_longest_54 : decode cX6_longest 54 = .ok (.iinc 3 1, 3) := by decide +kernel
theorem dX6_longest_57 : decode cX6_longest 57 = .ok (.goto (-50), 3) := by decide +kernel
theorem dX6_longest_60 : decode cX6_longest 60 = .ok (.iload_n 1, 1) := by decide +kernel
theorem dX6_longest_61 : decode cX6_longest 61 = .ok (.ireturn, 1) := by decide +kernel
theorem dX6_seen_0 : decode cX6_seen 0 = .ok (.iload_n 1, 1) := by decide +kernel
theorem dX6_seen_1 : decode cX6_seen 1 = .ok (.iconst 0, 1) := by decide +kernel
theorem dX6_seen_2 : decode cX6_seen 2 = .ok (.bipush 20, 2) := by decide +kernel
theorem dX6_seen_4 : decode cX6_seen 4 = .ok (.invokestatic 89, 3) := by decide +kernel
theorem dX6_seen_7 : decode cX6_seen 7 = .ok (.ifCond .eq 13, 3) := by decide +kernel
theorem dX6_seen_10 : decode cX6_seen 10 = .ok (.iload_n 2, 1) := by decide +kernel
theorem dX6_seen_11 : decode cX6_seen 11 = .ok (.iconst 0, 1) := by decide +kernel
theorem dX6_seen_12 : decode cX6_seen 12 = .ok (.bipush 40, 2) := by decide +kernel
theorem dX6_seen_14 : decode cX6_seen 14 = .ok (.invokestatic 89, 3) := by decide +kernel
theorem dX6_seen_17 : decode cX6_seen 17 = .ok (.ifCond .ne 5, 3) := by decide +kernel
theorem dX6_seen_20 : decode cX6_seen 20 = .ok (.iconst (-1), 1) := by decide +kernel
theorem dX6_seen_21 : decode cX6_seen 21 = .ok (.ireturn, 1) := by decide +kernel
theorem dX6_seen_22 : decode cX6_seen 22 = .ok (.aload_n 0, 1) := by decide +kernel
theorem dX6_seen_23 : decode cX6_seen 23 = .ok (.getfield 48, 3) := by decide +kernel
theorem dX6_seen_26 : decode cX6_seen 26 = .ok (.iload_n 1, 1) := by decide +kernel
theorem dX6_seen_27 : decode cX6_seen 27 = .ok (.iload_n 2, 1) := by decide +kernel
theorem dX6_seen_28 : decode cX6_seen 28 = .ok (.invokevirtual 215, 3) := by decide +kernel
theorem dX6_seen_31 : decode cX6_seen 31 = .ok (.ifCond .eq 13, 3) := by decide +kernel
theorem dX6_seen_34 : decode cX6_seen 34 = .ok (.aload_n 0, 1) := by decide +kernel
theorem dX6_seen_35 : decode cX6_seen 35 = .ok (.getfield 48, 3) := by decide +kernel
theorem dX6_seen_38 : decode cX6_seen 38 = .ok (.getfield 219, 3) := by decide +kernel
theorem dX6_seen_41 : decode cX6_seen 41 = .ok (.goto 5, 3) := by decide +kernel
theorem dX6_seen_44 : decode cX6_seen 44 = .ok (.bipush (-3), 2) := by decide +kernel
theorem dX6_seen_46 : decode cX6_seen 46 = .ok (.ireturn, 1) := by decide +kernel
theorem dX6_forget_0 : decode cX6_forget 0 = .ok (.aload_n 0, 1) := by decide +kernel
theorem dX6_forget_1 : decode cX6_forget 1 = .ok (.getfield 48, 3) := by decide +kernel
theorem dX6_forget_4 : decode cX6_forget 4 = .ok (.getfield 219, 3) := by decide +kernel
theorem dX6_forget_7 : decode cX6_forget 7 = .ok (.istore_n 1, 1) := by decide +kernel
theorem dX6_forget_8 : decode cX6_forget 8 = .ok (.aload_n 0, 1) := by decide +kernel
theorem dX6_forget_9 : decode cX6_forget 9 = .ok (.getfield 48, 3) := by decide +kernel
theorem dX6_forget_12 : decode cX6_forget 12 = .ok (.invokevirtual 101, 3) := by decide +kernel
theorem dX6_forget_15 : decode cX6_forget 15 = .ok (.iload_n 1, 1) := by decide +kernel
theorem dX6_forget_16 : decode cX6_forget 16 = .ok (.ireturn, 1) := by decide +kernel
theorem dX6_may_0 : decode cX6_may 0 = .ok (.iload_n 1, 1) := by decide +kernel
theorem dX6_may_1 : decode cX6_may 1 = .ok (.lookupswitch 57 #[(0, 27), (1, 42)], 27) := by decide +kernel
theorem dX6_may_28 : decode cX6_may 28 = .ok (.aload_n 0, 1) := by decide +kernel
theorem dX6_may_29 : decode cX6_may 29 = .ok (.getfield 48, 3) := by decide +kernel
theorem dX6_may_32 : decode cX6_may 32 = .ok (.aload_n 0, 1) := by decide +kernel
theorem dX6_may_33 : decode cX6_may 33 = .ok (.getfield 16, 3) := by decide +kernel
theorem dX6_may_36 : decode cX6_may 36 = .ok (.getfield 220, 3) := by decide +kernel
theorem dX6_may_39 : decode cX6_may 39 = .ok (.invokevirtual 223, 3) := by decide +kernel
theorem dX6_may_42 : decode cX6_may 42 = .ok (.ireturn, 1) := by decide +kernel
theorem dX6_may_43 : decode cX6_may 43 = .ok (.aload_n 0, 1) := by decide +kernel
theorem dX6_may_44 : decode cX6_may 44 = .ok (.getfield 48, 3) := by decide +kernel
theorem dX6_may_47 : decode cX6_may 47 = .ok (.aload_n 0, 1) := by decide +kernel
theorem dX6_may_48 : decode cX6_may 48 = .ok (.getfield 16, 3) := by decide +kernel
theorem dX6_may_51 : decode cX6_may 51 = .ok (.getfield 226, 3) := by decide +kernel
theorem dX6_may_54 : decode cX6_may 54 = .ok (.invokevirtual 229, 3) := by decide +kernel
theorem dX6_may_57 : decode cX6_may 57 = .ok (.ireturn, 1) := by decide +kernel
theorem dX6_may_58 : decode cX6_may 58 = .ok (.iconst (-1), 1) := by decide +kernel
theorem dX6_may_59 : decode cX6_may 59 = .ok (.ireturn, 1) := by decide +kernel
theorem dX6_hall_0 : decode cX6_hall 0 = .ok (.iload_n 1, 1) := by decide +kernel
theorem dX6_hall_1 : decode cX6_hall 1 = .ok (.iconst 1, 1) := by decide +kernel
theorem dX6_hall_2 : decode cX6_hall 2 = .ok (.bipush 6, 2) := by decide +kernel
theorem dX6_hall_4 : decode cX6_hall 4 = .ok (.invokestatic 89, 3) := by decide +kernel
theorem dX6_hall_7 : decode cX6_hall 7 = .ok (.ifCond .eq 13, 3) := by decide +kernel
theorem dX6_hall_10 : decode cX6_hall 10 = .ok (.iload_n 2, 1) := by decide +kernel
theorem dX6_hall_11 : decode cX6_hall 11 = .ok (.iconst 1, 1) := by decide +kernel
theorem dX6_hall_12 : decode cX6_hall 12 = .ok (.bipush 40, 2) := by decide +kernel
theorem dX6_hall_14 : decode cX6_hall 14 = .ok (.invokestatic 89, 3) := by decide +kernel
theorem dX6_hall_17 : decode cX6_hall 17 = .ok (.ifCond .ne 5, 3) := by decide +kernel
theorem dX6_hall_20 : decode cX6_hall 20 = .ok (.iconst (-1), 1) := by decide +kernel
theorem dX6_hall_21 : decode cX6_hall 21 = .ok (.ireturn, 1) := by decide +kernel
theorem dX6_hall_22 : decode cX6_hall 22 = .ok (.aload_n 0, 1) := by decide +kernel
theorem dX6_hall_23 : decode cX6_hall 23 = .ok (.getfield 26, 3) := by decide +kernel
theorem dX6_hall_26 : decode cX6_hall 26 = .ok (.aload_n 0, 1) := by decide +kernel
theorem dX6_hall_27 : decode cX6_hall 27 = .ok (.getfield 16, 3) := by decide +kernel
theorem dX6_hall_30 : decode cX6_hall 30 = .ok (.iload_n 1, 1) := by decide +kernel
theorem dX6_hall_31 : decode cX6_hall 31 = .ok (.iload_n 2, 1) := by decide +kernel
theorem dX6_hall_32 : decode cX6_hall 32 = .ok (.invokevirtual 232, 3) := by decide +kernel
theorem dX6_hall_35 : decode cX6_hall 35 = .ok (.ifCond .eq 5, 3) := by decide +kernel
theorem dX6_hall_38 : decode cX6_hall 38 = .ok (.iconst 1, 1) := by decide +kernel
theorem dX6_hall_39 : decode cX6_hall 39 = .ok (.ireturn, 1) := by decide +kernel
theorem dX6_hall_40 : decode cX6_hall 40 = .ok (.aload_n 0, 1) := by decide +kernel
theorem dX6_hall_41 : decode cX6_hall 41 = .ok (.getfield 16, 3) := by decide +kernel
theorem dX6_hall_44 : decode cX6_hall 44 = .ok (.getfield 236, 3) := by decide +kernel
theorem dX6_hall_47 : decode cX6_hall 47 = .ok (.iload_n 1, 1) := by decide +kernel
theorem dX6_hall_48 : decode cX6_hall 48 = .ok (.if_icmp .lt 18, 3) := by decide +kernel
theorem dX6_hall_51 : decode cX6_hall 51 = .ok (.aload_n 0, 1) := by decide +kernel
theorem dX6_hall_52 : decode cX6_hall 52 = .ok (.getfield 26, 3) := by decide +kernel
theorem dX6_hall_55 : decode cX6_hall 55 = .ok (.getfield 239, 3) := by decide +kernel
theorem dX6_hall_58 : decode cX6_hall 58 = .ok (.iload_n 2, 1) := by decide +kernel
theorem dX6_hall_59 : decode cX6_hall 59 = .ok (.if_icmp .lt 7, 3) := by decide +kernel
theorem dX6_hall_62 : decode cX6_hall 62 = .ok (.iconst 2, 1) := by decide +kernel
theorem dX6_hall_63 : decode cX6_hall 63 = .ok (.goto 4, 3) := by decide +kernel
theorem dX6_hall_66 : decode cX6_hall 66 = .ok (.iconst 0, 1) := by decide +kernel
theorem dX6_hall_67 : decode cX6_hall 67 = .ok (.ireturn, 1) := by decide +kernel
theorem dX6_left_0 : decode cX6_left 0 = .ok (.iload_n 1, 1) := by decide +kernel
theorem dX6_left_1 : decode cX6_left 1 = .ok (.lookupswitch 55 #[(0, 27), (1, 39)], 27) := by decide +kernel
theorem dX6_left_28 : decode cX6_left 28 = .ok (.aload_n 0, 1) := by decide +kernel
theorem dX6_left_29 : decode cX6_left 29 = .ok (.getfield 26, 3) := by decide +kernel
theorem dX6_left_32 : decode cX6_left 32 = .ok (.aload_n 0, 1) := by decide +kernel
theorem dX6_left_33 : decode cX6_left 33 = .ok (.getfield 16, 3) := by decide +kernel
theorem dX6_left_36 : decode cX6_left 36 = .ok (.invokevirtual 242, 3) := by decide +kernel
theorem dX6_left_39 : decode cX6_left 39 = .ok (.ireturn, 1) := by decide +kernel
theorem dX6_left_40 : decode cX6_left 40 = .ok (.aload_n 0, 1) := by decide +kernel
theorem dX6_left_41 : decode cX6_left 41 = .ok (.getfield 16, 3) := by decide +kernel
theorem dX6_left_44 : decode cX6_left 44 = .ok (.getfield 236, 3) := by decide +kernel
theorem dX6_left_47 : decode cX6_left 47 = .ok (.aload_n 0, 1) := by decide +kernel
theorem dX6_left_48 : decode cX6_left 48 = .ok (.getfield 26, 3) := by decide +kernel
theorem dX6_left_51 : decode cX6_left 51 = .ok (.getfield 239, 3) := by decide +kernel
theorem dX6_left_54 : decode cX6_left 54 = .ok (.imul, 1) := by decide +kernel
theorem dX6_left_55 : decode cX6_left 55 = .ok (.ireturn, 1) := by decide +kernel
theorem dX6_left_56 : decode cX6_left 56 = .ok (.iconst (-1), 1) := by decide +kernel
theorem dX6_left_57 : decode cX6_left 57 = .ok (.ireturn, 1) := by decide +kernel
theorem dX6_likely_0 : decode cX6_likely 0 = .ok (.iload_n 1, 1) := by decide +kernel
theorem dX6_likely_1 : decode cX6_likely 1 = .ok (.invokestatic 119, 3) := by decide +kernel
theorem dX6_likely_4 : decode cX6_likely 4 = .ok (.ifCond .eq 33, 3) := by decide +kernel
theorem dX6_likely_7 : decode cX6_likely 7 = .ok (.iload_n 2, 1) := by decide +kernel
theorem dX6_likely_8 : decode cX6_likely 8 = .ok (.iconst 0, 1) := by decide +kernel
theorem dX6_likely_9 : decode cX6_likely 9 = .ok (.bipush 6, 2) := by decide +kernel
theorem dX6_likely_11 : decode cX6_likely 11 = .ok (.invokestatic 89, 3) := by decide +kernel
theorem dX6_likely_14 : decode cX6_likely 14 = .ok (.ifCond .eq 23, 3) := by decide +kernel
theorem dX6_likely_17 : decode cX6_likely 17 = .ok (.iload_n 3, 1) := by decide +kernel
theorem dX6_likely_18 : decode cX6_likely 18 = .ok (.iconst 0, 1) := by decide +kernel
theorem dX6_likely_19 : decode cX6_likely 19 = .ok (.bipush 10, 2) := by decide +kernel
theorem dX6_likely_21 : decode cX6_likely 21 = .ok (.invokestatic 89, 3) := by decide +kernel
theorem dX6_likely_24 : decode cX6_likely 24 = .ok (.ifCond .eq 13, 3) := by decide +kernel
theorem dX6_likely_27 : decode cX6_likely 27 = .ok (.iload 4, 2) := by decide +kernel
theorem dX6_likely_29 : decode cX6_likely 29 = .ok (.iconst 0, 1) := by decide +kernel
theorem dX6_likely_30 : decode cX6_likely 30 = .ok (.iconst 1, 1) := by decide +kernel
theorem dX6_likely_31 : decode cX6_likely 31 = .ok (.invokestatic 89, 3) := by decide +kernel
theorem dX6_likely_34 : decode cX6_likely 34 = .ok (.ifCond .ne 5, 3) := by decide +kernel
theorem dX6_likely_37 : decode cX6_likely 37 = .ok (.iconst (-1), 1) := by decide +kernel
theorem dX6_likely_38 : decode cX6_likely 38 = .ok (.ireturn, 1) := by decide +kernel
theorem dX6_likely_39 : decode cX6_likely 39 = .ok (.aload_n 0, 1) := by decide +kernel
theorem dX6_likely_40 : decode cX6_likely 40 = .ok (.getfield 26, 3) := by decide +kernel
theorem dX6_likely_43 : decode cX6_likely 43 = .ok (.iload_n 1, 1) := by decide +kernel
theorem dX6_likely_44 : decode cX6_likely 44 = .ok (.invokevirtual 125, 3) := by decide +kernel
theorem dX6_likely_47 : decode cX6_likely 47 = .ok (.ifCond .ne 6, 3) := by decide +kernel
theorem dX6_likely_50 : decode cX6_likely 50 = .ok (.bipush (-2), 2) := by decide +kernel
theorem dX6_likely_52 : decode cX6_likely 52 = .ok (.ireturn, 1) := by decide +kernel
theorem dX6_likely_53 : decode cX6_likely 53 = .ok (.aload_n 0, 1) := by decide +kernel
theorem dX6_likely_54 : decode cX6_likely 54 = .ok (.getfield 26, 3) := by decide +kernel
theorem dX6_likely_57 : decode cX6_likely 57 = .ok (.iload_n 1, 1) := by decide +kernel
theorem dX6_likely_58 : decode cX6_likely 58 = .ok (.invokevirtual 122, 3) := by decide +kernel
theorem dX6_likely_61 : decode cX6_likely 61 = .ok (.iload_n 2, 1) := by decide +kernel
theorem dX6_likely_62 : decode cX6_likely 62 = .ok (.iload_n 3, 1) := by decide +kernel
theorem dX6_likely_63 : decode cX6_likely 63 = .ok (.invokestatic 246, 3) := by decide +kernel
theorem dX6_likely_66 : decode cX6_likely 66 = .ok (.istore 5, 2) := by decide +kernel
theorem dX6_likely_68 : decode cX6_likely 68 = .ok (.bipush 10, 2) := by decide +kernel
theorem dX6_likely_70 : decode cX6_likely 70 = .ok (.iload_n 2, 1) := by decide +kernel
theorem dX6_likely_71 : decode cX6_likely 71 = .ok (.invokestatic 250, 3) := by decide +kernel
theorem dX6_likely_74 : decode cX6_likely 74 = .ok (.istore 6, 2) := by decide +kernel
theorem dX6_likely_76 : decode cX6_likely 76 = .ok (.iload 5, 2) := by decide +kernel
theorem dX6_likely_78 : decode cX6_likely 78 = .ok (.iload 6, 2) := by decide +kernel
theorem dX6_likely_80 : decode cX6_likely 80 = .ok (.invokestatic 253, 3) := by decide +kernel
theorem dX6_likely_83 : decode cX6_likely 83 = .ok (.istore 7, 2) := by decide +kernel
theorem dX6_likely_85 : decode cX6_likely 85 = .ok (.iload 7, 2) := by decide +kernel
theorem dX6_likely_87 : decode cX6_likely 87 = .ok (.ifCond .gt 6, 3) := by decide +kernel
theorem dX6_likely_90 : decode cX6_likely 90 = .ok (.bipush (-4), 2) := by decide +kernel
theorem dX6_likely_92 : decode cX6_likely 92 = .ok (.ireturn, 1) := by decide +kernel
theorem dX6_likely_93 : decode cX6_likely 93 = .ok (.iload 4, 2) := by decide +kernel
theorem dX6_likely_95 : decode cX6_likely 95 = .ok (.ifCond .ne 11, 3) := by decide +kernel
theorem dX6_likely_98 : decode cX6_likely 98 = .ok (.iload 5, 2) := by decide +kernel
theorem dX6_likely_100 : decode cX6_likely 100 = .ok (.iload 7, 2) := by decide +kernel
theorem dX6_likely_102 : decode cX6_likely 102 = .ok (.idiv, 1) := by decide +kernel
theorem dX6_likely_103 : decode cX6_likely 103 = .ok (.goto 8, 3) := by decide +kernel
theorem dX6_likely_106 : decode cX6_likely 106 = .ok (.iload 6, 2) := by decide +kernel
theorem dX6_likely_108 : decode cX6_likely 108 = .ok (.iload 7, 2) := by decide +kernel
theorem dX6_likely_110 : decode cX6_likely 110 = .ok (.idiv, 1) := by decide +kernel
theorem dX6_likely_111 : decode cX6_likely 111 = .ok (.ireturn, 1) := by decide +kernel
theorem dX6_year_0 : decode cX6_year 0 = .ok (.iload_n 1, 1) := by decide +kernel
theorem dX6_year_1 : decode cX6_year 1 = .ok (.iconst 0, 1) := by decide +kernel
theorem dX6_year_2 : decode cX6_year 2 = .ok (.sipush 9999, 3) := by decide +kernel
theorem dX6_year_5 : decode cX6_year 5 = .ok (.invokestatic 89, 3) := by decide +kernel
theorem dX6_year_8 : decode cX6_year 8 = .ok (.ifCond .eq 22, 3) := by decide +kernel
theorem dX6_year_11 : decode cX6_year 11 = .ok (.iload_n 2, 1) := by decide +kernel
theorem dX6_year_12 : decode cX6_year 12 = .ok (.iconst 1, 1) := by decide +kernel
theorem dX6_year_13 : decode cX6_year 13 = .ok (.bipush 40, 2) := by decide +kernel
theorem dX6_year_15 : decode cX6_year 15 = .ok (.invokestatic 89, 3) := by decide +kernel
theorem dX6_year_18 : decode cX6_year 18 = .ok (.ifCond .eq 12, 3) := by decide +kernel
theorem dX6_year_21 : decode cX6_year 21 = .ok (.iload_n 3, 1) := by decide +kernel
theorem dX6_year_22 : decode cX6_year 22 = .ok (.iconst 0, 1) := by decide +kernel
theorem dX6_year_23 : decode cX6_year 23 = .ok (.iconst 1, 1) := by decide +kernel
theorem dX6_year_24 : decode cX6_year 24 = .ok (.invokestatic 89, 3) := by decide +kernel
theorem dX6_year_27 : decode cX6_year 27 = .ok (.ifCond .ne 5, 3) := by decide +kernel
theorem dX6_year_30 : decode cX6_year 30 = .ok (.iconst (-1), 1) := by decide +kernel
theorem dX6_year_31 : decode cX6_year 31 = .ok (.ireturn, 1) := by decide +kernel
theorem dX6_year_32 : decode cX6_year 32 = .ok (.aload_n 0, 1) := by decide +kernel
theorem dX6_year_33 : decode cX6_year 33 = .ok (.getfield 26, 3) := by decide +kernel
theorem dX6_year_36 : decode cX6_year 36 = .ok (.aload_n 0, 1) := by decide +kernel
theorem dX6_year_37 : decode cX6_year 37 = .ok (.getfield 16, 3) := by decide +kernel
theorem dX6_year_40 : decode cX6_year 40 = .ok (.invokevirtual 149, 3) := by decide +kernel
theorem dX6_year_43 : decode cX6_year 43 = .ok (.ifCond .ne 6, 3) := by decide +kernel
theorem dX6_year_46 : decode cX6_year 46 = .ok (.bipush (-2), 2) := by decide +kernel
theorem dX6_year_48 : decode cX6_year 48 = .ok (.ireturn, 1) := by decide +kernel
theorem dX6_year_49 : decode cX6_year 49 = .ok (.aload_n 0, 1) := by decide +kernel
theorem dX6_year_50 : decode cX6_year 50 = .ok (.getfield 30, 3) := by decide +kernel
theorem dX6_year_53 : decode cX6_year 53 = .ok (.aload_n 0, 1) := by decide +kernel
theorem dX6_year_54 : decode cX6_year 54 = .ok (.getfield 26, 3) := by decide +kernel
theorem dX6_year_57 : decode cX6_year 57 = .ok (.invokevirtual 256, 3) := by decide +kernel
theorem dX6_year_60 : decode cX6_year 60 = .ok (.iconst 0, 1) := by decide +kernel
theorem dX6_year_61 : decode cX6_year 61 = .ok (.istore 4, 2) := by decide +kernel
theorem dX6_year_63 : decode cX6_year 63 = .ok (.iload 4, 2) := by decide +kernel
theorem dX6_year_65 : decode cX6_year 65 = .ok (.iload_n 2, 1) := by decide +kernel
theorem dX6_year_66 : decode cX6_year 66 = .ok (.if_icmp .ge 26, 3) := by decide +kernel
theorem dX6_year_69 : decode cX6_year 69 = .ok (.aload_n 0, 1) := by decide +kernel
theorem dX6_year_70 : decode cX6_year 70 = .ok (.getfield 30, 3) := by decide +kernel
theorem dX6_year_73 : decode cX6_year 73 = .ok (.aload_n 0, 1) := by decide +kernel
theorem dX6_year_74 : decode cX6_year 74 = .ok (.getfield 16, 3) := by decide +kernel
theorem dX6_year_77 : decode cX6_year 77 = .ok (.iload_n 1, 1) := by decide +kernel
theorem dX6_year_78 : decode cX6_year 78 = .ok (.iload 4, 2) := by decide +kernel
theorem dX6_year_80 : decode cX6_year 80 = .ok (.invokestatic 259, 3) := by decide +kernel
theorem dX6_year_83 : decode cX6_year 83 = .ok (.invokevirtual 262, 3) := by decide +kernel
theorem dX6_year_86 : decode cX6_year 86 = .ok (.iinc 4 1, 3) := by decide +kernel
theorem dX6_year_89 : decode cX6_year 89 = .ok (.goto (-26), 3) := by decide +kernel
theorem dX6_year_92 : decode cX6_year 92 = .ok (.iload_n 3, 1) := by decide +kernel
theorem dX6_year_93 : decode cX6_year 93 = .ok (.ifCond .ne 16, 3) := by decide +kernel
theorem dX6_year_96 : decode cX6_year 96 = .ok (.aload_n 0, 1) := by decide +kernel
theorem dX6_year_97 : decode cX6_year 97 = .ok (.getfield 30, 3) := by decide +kernel
theorem dX6_year_100 : decode cX6_year 100 = .ok (.getfield 266, 3) := by decide +kernel
theorem dX6_year_103 : decode cX6_year 103 = .ok (.invokestatic 269, 3) := by decide +kernel
theorem dX6_year_106 : decode cX6_year 106 = .ok (.goto 10, 3) := by decide +kernel
theorem dX6_year_109 : decode cX6_year 109 = .ok (.aload_n 0, 1) := by decide +kernel
theorem dX6_year_110 : decode cX6_year 110 = .ok (.getfield 30, 3) := by decide +kernel
theorem dX6_year_113 : decode cX6_year 113 = .ok (.invokevirtual 274, 3) := by decide +kernel
theorem dX6_year_116 : decode cX6_year 116 = .ok (.ireturn, 1) := by decide +kernel
theorem dX6_keep_0 : decode cX6_keep 0 = .ok (.aload_n 0, 1) := by decide +kernel
theorem dX6_keep_1 : decode cX6_keep 1 = .ok (.getfield 42, 3) := by decide +kernel
theorem dX6_keep_4 : decode cX6_keep 4 = .ok (.invokevirtual 277, 3) := by decide +kernel
theorem dX6_keep_7 : decode cX6_keep 7 = .ok (.ifCond .eq 6, 3) := by decide +kernel
theorem dX6_keep_10 : decode cX6_keep 10 = .ok (.bipush (-3), 2) := by decide +kernel
theorem dX6_keep_12 : decode cX6_keep 12 = .ok (.ireturn, 1) := by decide +kernel
theorem dX6_keep_13 : decode cX6_keep 13 = .ok (.aload_n 0, 1) := by decide +kernel
theorem dX6_keep_14 : decode cX6_keep 14 = .ok (.getfield 42, 3) := by decide +kernel
theorem dX6_keep_17 : decode cX6_keep 17 = .ok (.aload_n 0, 1) := by decide +kernel
theorem dX6_keep_18 : decode cX6_keep 18 = .ok (.getfield 26, 3) := by decide +kernel
theorem dX6_keep_21 : decode cX6_keep 21 = .ok (.invokevirtual 141, 3) := by decide +kernel
theorem dX6_keep_24 : decode cX6_keep 24 = .ok (.aload_n 0, 1) := by decide +kernel
theorem dX6_keep_25 : decode cX6_keep 25 = .ok (.getfield 42, 3) := by decide +kernel
theorem dX6_keep_28 : decode cX6_keep 28 = .ok (.getfield 174, 3) := by decide +kernel
theorem dX6_keep_31 : decode cX6_keep 31 = .ok (.ireturn, 1) := by decide +kernel
theorem dX6_back_0 : decode cX6_back 0 = .ok (.aload_n 0, 1) := by decide +kernel
theorem dX6_back_1 : decode cX6_back 1 = .ok (.getfield 42, 3) := by decide +kernel
theorem dX6_back_4 : decode cX6_back 4 = .ok (.aload_n 0, 1) := by decide +kernel
theorem dX6_back_5 : decode cX6_back 5 = .ok (.getfield 26, 3) := by decide +kernel
theorem dX6_back_8 : decode cX6_back 8 = .ok (.invokevirtual 170, 3) := by decide +kernel
theorem dX6_back_11 : decode cX6_back 11 = .ok (.ifCond .ne 6, 3) := by decide +kernel
theorem dX6_back_14 : decode cX6_back 14 = .ok (.bipush (-2), 2) := by decide +kernel
theorem dX6_back_16 : decode cX6_back 16 = .ok (.ireturn, 1) := by decide +kernel
theorem dX6_back_17 : decode cX6_back 17 = .ok (.aload_n 0, 1) := by decide +kernel
theorem dX6_back_18 : decode cX6_back 18 = .ok (.getfield 38, 3) := by decide +kernel
theorem dX6_back_21 : decode cX6_back 21 = .ok (.invokevirtual 99, 3) := by decide +kernel
theorem dX6_back_24 : decode cX6_back 24 = .ok (.aload_n 0, 1) := by decide +kernel
theorem dX6_back_25 : decode cX6_back 25 = .ok (.getfield 42, 3) := by decide +kernel
theorem dX6_back_28 : decode cX6_back 28 = .ok (.getfield 174, 3) := by decide +kernel
theorem dX6_back_31 : decode cX6_back 31 = .ok (.ireturn, 1) := by decide +kernel
theorem dX6_count_0 : decode cX6_count 0 = .ok (.iload_n 1, 1) := by decide +kernel
theorem dX6_count_1 : decode cX6_count 1 = .ok (.tableswitch 156 0 10 #[59, 67, 75, 83, 97, 108, 119, 127, 135, 143, 151], 59) := by decide +kernel
theorem dX6_count_60 : decode cX6_count 60 = .ok (.aload_n 0, 1) := by decide +kernel
theorem dX6_count_61 : decode cX6_count 61 = .ok (.getfield 16, 3) := by decide +kernel
theorem dX6_count_64 : decode cX6_count 64 = .ok (.getfield 96, 3) := by decide +kernel
theorem dX6_count_67 : decode cX6_count 67 = .ok (.ireturn, 1) := by decide +kernel
theorem dX6_count_68 : decode cX6_count 68 = .ok (.aload_n 0, 1) := by decide +kernel
theorem dX6_count_69 : decode cX6_count 69 = .ok (.getfield 26, 3) := by decide +kernel
theorem dX6_count_72 : decode cX6_count 72 = .ok (.getfield 281, 3) := by decide +kernel
theorem dX6_count_75 : decode cX6_count 75 = .ok (.ireturn, 1) := by decide +kernel
theorem dX6_count_76 : decode cX6_count 76 = .ok (.aload_n 0, 1) := by decide +kernel
theorem dX6_count_77 : decode cX6_count 77 = .ok (.getfield 26, 3) := by decide +kernel
theorem dX6_count_80 : decode cX6_count 80 = .ok (.getfield 239, 3) := by decide +kernel
theorem dX6_count_83 : decode cX6_count 83 = .ok (.ireturn, 1) := by decide +kernel
theorem dX6_count_84 : decode cX6_count 84 = .ok (.iconst 0, 1) := by decide +kernel
theorem dX6_count_85 : decode cX6_count 85 = .ok (.aload_n 0, 1) := by decide +kernel
theorem dX6_count_86 : decode cX6_count 86 = .ok (.getfield 26, 3) := by decide +kernel
theorem dX6_count_89 : decode cX6_count 89 = .ok (.getfield 281, 3) := by decide +kernel
theorem dX6_count_92 : decode cX6_count 92 = .ok (.iconst 1, 1) := by decide +kernel
theorem dX6_count_93 : decode cX6_count 93 = .ok (.isub, 1) := by decide +kernel
theorem dX6_count_94 : decode cX6_count 94 = .ok (.invokestatic 284, 3) := by decide +kernel
theorem dX6_count_97 : decode cX6_count 97 = .ok (.ireturn, 1) := by decide +kernel
theorem dX6_count_98 : decode cX6_count 98 = .ok (.aload_n 0, 1) := by decide +kernel
theorem dX6_count_99 : decode cX6_count 99 = .ok (.getfield 26, 3) := by decide +kernel
theorem dX6_count_102 : decode cX6_count 102 = .ok (.getfield 287, 3) := by decide +kernel
theorem dX6_count_105 : decode cX6_count 105 = .ok (.invokestatic 269, 3) := by decide +kernel
theorem dX6_count_108 : decode cX6_count 108 = .ok (.ireturn, 1) := by decide +kernel
theorem dX6_count_109 : decode cX6_count 109 = .ok (.aload_n 0, 1) := by decide +kernel
theorem dX6_count_110 : decode cX6_count 110 = .ok (.getfield 26, 3) := by decide +kernel
theorem dX6_count_113 : decode cX6_count 113 = .ok (.getfield 266, 3) := by decide +kernel
theorem dX6_count_116 : decode cX6_count 116 = .ok (.invokestatic 269, 3) := by decide +kernel
theorem dX6_count_119 : decode cX6_count 119 = .ok (.ireturn, 1) := by decide +kernel
theorem dX6_count_120 : decode cX6_count 120 = .ok (.aload_n 0, 1) := by decide +kernel
theorem dX6_count_121 : decode cX6_count 121 = .ok (.getfield 26, 3) := by decide +kernel
theorem dX6_count_124 : decode cX6_count 124 = .ok (.getfield 163, 3) := by decide +kernel
theorem dX6_count_127 : decode cX6_count 127 = .ok (.ireturn, 1) := by decide +kernel
theorem dX6_count_128 : decode cX6_count 128 = .ok (.aload_n 0, 1) := by decide +kernel
theorem dX6_count_129 : decode cX6_count 129 = .ok (.getfield 48, 3) := by decide +kernel
theorem dX6_count_132 : decode cX6_count 132 = .ok (.getfield 219, 3) := by decide +kernel
theorem dX6_count_135 : decode cX6_count 135 = .ok (.ireturn, 1) := by decide +kernel
theorem dX6_count_136 : decode cX6_count 136 = .ok (.aload_n 0, 1) := by decide +kernel
theorem dX6_count_137 : decode cX6_count 137 = .ok (.getfield 38, 3) := by decide +kernel
theorem dX6_count_140 : decode cX6_count 140 = .ok (.getfield 174, 3) := by decide +kernel
theorem dX6_count_143 : decode cX6_count 143 = .ok (.ireturn, 1) := by decide +kernel
theorem dX6_count_144 : decode cX6_count 144 = .ok (.aload_n 0, 1) := by decide +kernel
theorem dX6_count_145 : decode cX6_count 145 = .ok (.getfield 42, 3) := by decide +kernel
theorem dX6_count_148 : decode cX6_count 148 = .ok (.getfield 174, 3) := by decide +kernel
theorem dX6_count_151 : decode cX6_count 151 = .ok (.ireturn, 1) := by decide +kernel
theorem dX6_count_152 : decode cX6_count 152 = .ok (.aload_n 0, 1) := by decide +kernel
theorem dX6_count_153 : decode cX6_count 153 = .ok (.getfield 93, 3) := by decide +kernel
theorem dX6_count_156 : decode cX6_count 156 = .ok (.ireturn, 1) := by decide +kernel
theorem dX6_count_157 : decode cX6_count 157 = .ok (.iconst (-1), 1) := by decide +kernel
theorem dX6_count_158 : decode cX6_count 158 = .ok (.ireturn, 1) := by decide +kernel
theorem dX6_within_0 : decode cX6_within 0 = .ok (.iload_n 0, 1) := by decide +kernel
theorem dX6_within_1 : decode cX6_within 1 = .ok (.iload_n 1, 1) := by decide +kernel
theorem dX6_within_2 : decode cX6_within 2 = .ok (.if_icmp .lt 12, 3) := by decide +kernel
theorem dX6_within_5 : decode cX6_within 5 = .ok (.iload_n 0, 1) := by decide +kernel
theorem dX6_within_6 : decode cX6_within 6 = .ok (.iload_n 2, 1) := by decide +kernel
theorem dX6_within_7 : decode cX6_within 7 = .ok (.if_icmp .gt 7, 3) := by decide +kernel
theorem dX6_within_10 : decode cX6_within 10 = .ok (.iconst 1, 1) := by decide +kernel
theorem dX6_within_11 : decode cX6_within 11 = .ok (.goto 4, 3) := by decide +kernel
theorem dX6_within_14 : decode cX6_within 14 = .ok (.iconst 0, 1) := by decide +kernel
theorem dX6_within_15 : decode cX6_within 15 = .ok (.ireturn, 1) := by decide +kernel
theorem dX6_isWall_0 : decode cX6_isWall 0 = .ok (.iload_n 0, 1) := by decide +kernel
theorem dX6_isWall_1 : decode cX6_isWall 1 = .ok (.iconst 0, 1) := by decide +kernel
theorem dX6_isWall_2 : decode cX6_isWall 2 = .ok (.iconst 3, 1) := by decide +kernel
theorem dX6_isWall_3 : decode cX6_isWall 3 = .ok (.invokestatic 89, 3) := by decide +kernel
theorem dX6_isWall_6 : decode cX6_isWall 6 = .ok (.ireturn, 1) := by decide +kernel
theorem dX6_at_0 : decode cX6_at 0 = .ok (.iload_n 1, 1) := by decide +kernel
theorem dX6_at_1 : decode cX6_at 1 = .ok (.ifCond .lt 15, 3) := by decide +kernel
theorem dX6_at_4 : decode cX6_at 4 = .ok (.iload_n 1, 1) := by decide +kernel
theorem dX6_at_5 : decode cX6_at 5 = .ok (.aload_n 0, 1) := by decide +kernel
theorem dX6_at_6 : decode cX6_at 6 = .ok (.arraylength, 1) := by decide +kernel
theorem dX6_at_7 : decode cX6_at 7 = .ok (.if_icmp .ge 9, 3) := by decide +kernel
theorem dX6_at_10 : decode cX6_at 10 = .ok (.aload_n 0, 1) := by decide +kernel
theorem dX6_at_11 : decode cX6_at 11 = .ok (.iload_n 1, 1) := by decide +kernel
theorem dX6_at_12 : decode cX6_at 12 = .ok (.iaload, 1) := by decide +kernel
theorem dX6_at_13 : decode cX6_at 13 = .ok (.goto 4, 3) := by decide +kernel
theorem dX6_at_16 : decode cX6_at 16 = .ok (.iconst 0, 1) := by decide +kernel
theorem dX6_at_17 : decode cX6_at 17 = .ok (.ireturn, 1) := by decide +kernel
theorem dX6_put_0 : decode cX6_put 0 = .ok (.iload_n 1, 1) := by decide +kernel
theorem dX6_put_1 : decode cX6_put 1 = .ok (.ifCond .lt 13, 3) := by decide +kernel
theorem dX6_put_4 : decode cX6_put 4 = .ok (.iload_n 1, 1) := by decide +kernel
theorem dX6_put_5 : decode cX6_put 5 = .ok (.aload_n 0, 1) := by decide +kernel
theorem dX6_put_6 : decode cX6_put 6 = .ok (.arraylength, 1) := by decide +kernel
theorem dX6_put_7 : decode cX6_put 7 = .ok (.if_icmp .ge 7, 3) := by decide +kernel
theorem dX6_put_10 : decode cX6_put 10 = .ok (.aload_n 0, 1) := by decide +kernel
theorem dX6_put_11 : decode cX6_put 11 = .ok (.iload_n 1, 1) := by decide +kernel
theorem dX6_put_12 : decode cX6_put 12 = .ok (.iload_n 2, 1) := by decide +kernel
theorem dX6_put_13 : decode cX6_put 13 = .ok (.iastore, 1) := by decide +kernel
theorem dX6_put_14 : decode cX6_put 14 = .ok (.return_, 1) := by decide +kernel
theorem dX6_copy_0 : decode cX6_copy 0 = .ok (.iconst 0, 1) := by decide +kernel
theorem dX6_copy_1 : decode cX6_copy 1 = .ok (.istore_n 2, 1) := by decide +kernel
theorem dX6_copy_2 : decode cX6_copy 2 = .ok (.iload_n 2, 1) := by decide +kernel
theorem dX6_copy_3 : decode cX6_copy 3 = .ok (.aload_n 0, 1) := by decide +kernel
theorem dX6_copy_4 : decode cX6_copy 4 = .ok (.arraylength, 1) := by decide +kernel
theorem dX6_copy_5 : decode cX6_copy 5 = .ok (.if_icmp .ge 21, 3) := by decide +kernel
theorem dX6_copy_8 : decode cX6_copy 8 = .ok (.iload_n 2, 1) := by decide +kernel
theorem dX6_copy_9 : decode cX6_copy 9 = .ok (.aload_n 1, 1) := by decide +kernel
theorem dX6_copy_10 : decode cX6_copy 10 = .ok (.arraylength, 1) := by decide +kernel
theorem dX6_copy_11 : decode cX6_copy 11 = .ok (.if_icmp .ge 15, 3) := by decide +kernel
theorem dX6_copy_14 : decode cX6_copy 14 = .ok (.aload_n 1, 1) := by decide +kernel
theorem dX6_copy_15 : decode cX6_copy 15 = .ok (.iload_n 2, 1) := by decide +kernel
theorem dX6_copy_16 : decode cX6_copy 16 = .ok (.aload_n 0, 1) := by decide +kernel
theorem dX6_copy_17 : decode cX6_copy 17 = .ok (.iload_n 2, 1) := by decide +kernel
theorem dX6_copy_18 : decode cX6_copy 18 = .ok (.iaload, 1) := by decide +kernel
theorem dX6_copy_19 : decode cX6_copy 19 = .ok (.iastore, 1) := by decide +kernel
theorem dX6_copy_20 : decode cX6_copy 20 = .ok (.iinc 2 1, 3) := by decide +kernel
theorem dX6_copy_23 : decode cX6_copy 23 = .ok (.goto (-21), 3) := by decide +kernel
theorem dX6_copy_26 : decode cX6_copy 26 = .ok (.return_, 1) := by decide +kernel
theorem dX6_power_0 : decode cX6_power 0 = .ok (.iconst 1, 1) := by decide +kernel
theorem dX6_power_1 : decode cX6_power 1 = .ok (.istore_n 2, 1) := by decide +kernel
theorem dX6_power_2 : decode cX6_power 2 = .ok (.iconst 0, 1) := by decide +kernel
theorem dX6_power_3 : decode cX6_power 3 = .ok (.istore_n 3, 1) := by decide +kernel
theorem dX6_power_4 : decode cX6_power 4 = .ok (.iload_n 3, 1) := by decide +kernel
theorem dX6_power_5 : decode cX6_power 5 = .ok (.iload_n 1, 1) := by decide +kernel
theorem dX6_power_6 : decode cX6_power 6 = .ok (.if_icmp .ge 13, 3) := by decide +kernel
theorem dX6_power_9 : decode cX6_power 9 = .ok (.iload_n 2, 1) := by decide +kernel
theorem dX6_power_10 : decode cX6_power 10 = .ok (.iload_n 0, 1) := by decide +kernel
theorem dX6_power_11 : decode cX6_power 11 = .ok (.imul, 1) := by decide +kernel
theorem dX6_power_12 : decode cX6_power 12 = .ok (.istore_n 2, 1) := by decide +kernel
theorem dX6_power_13 : decode cX6_power 13 = .ok (.iinc 3 1, 3) := by decide +kernel
theorem dX6_power_16 : decode cX6_power 16 = .ok (.goto (-12), 3) := by decide +kernel
theorem dX6_power_19 : decode cX6_power 19 = .ok (.iload_n 2, 1) := by decide +kernel
theorem dX6_power_20 : decode cX6_power 20 = .ok (.ireturn, 1) := by decide +kernel
theorem dX6_commonDivisor_0 : decode cX6_commonDivisor 0 = .ok (.iload_n 0, 1) := by decide +kernel
theorem dX6_commonDivisor_1 : decode cX6_commonDivisor 1 = .ok (.istore_n 2, 1) := by decide +kernel
theorem dX6_commonDivisor_2 : decode cX6_commonDivisor 2 = .ok (.iload_n 1, 1) := by decide +kernel
theorem dX6_commonDivisor_3 : decode cX6_commonDivisor 3 = .ok (.istore_n 3, 1) := by decide +kernel
theorem dX6_commonDivisor_4 : decode cX6_commonDivisor 4 = .ok (.iconst 0, 1) := by decide +kernel
theorem dX6_commonDivisor_5 : decode cX6_commonDivisor 5 = .ok (.istore 4, 2) := by decide +kernel
theorem dX6_commonDivisor_7 : decode cX6_commonDivisor 7 = .ok (.iload 4, 2) := by decide +kernel
theorem dX6_commonDivisor_9 : decode cX6_commonDivisor 9 = .ok (.bipush 100, 2) := by decide +kernel
theorem dX6_commonDivisor_11 : decode cX6_commonDivisor 11 = .ok (.if_icmp .ge 23, 3) := by decide +kernel
theorem dX6_commonDivisor_14 : decode cX6_commonDivisor 14 = .ok (.iload_n 3, 1) := by decide +kernel
theorem dX6_commonDivisor_15 : decode cX6_commonDivisor 15 = .ok (.ifCond .eq 19, 3) := by decide +kernel
theorem dX6_commonDivisor_18 : decode cX6_commonDivisor 18 = .ok (.iload_n 2, 1) := by decide +kernel
theorem dX6_commonDivisor_19 : decode cX6_commonDivisor 19 = .ok (.iload_n 3, 1) := by decide +kernel
theorem dX6_commonDivisor_20 : decode cX6_commonDivisor 20 = .ok (.irem, 1) := by decide +kernel
theorem dX6_commonDivisor_21 : decode cX6_commonDivisor 21 = .ok (.istore 5, 2) := by decide +kernel
theorem dX6_commonDivisor_23 : decode cX6_commonDivisor 23 = .ok (.iload_n 3, 1) := by decide +kernel
theorem dX6_commonDivisor_24 : decode cX6_commonDivisor 24 = .ok (.istore_n 2, 1) := by decide +kernel
theorem dX6_commonDivisor_25 : decode cX6_commonDivisor 25 = .ok (.iload 5, 2) := by decide +kernel
theorem dX6_commonDivisor_27 : decode cX6_commonDivisor 27 = .ok (.istore_n 3, 1) := by decide +kernel
theorem dX6_commonDivisor_28 : decode cX6_commonDivisor 28 = .ok (.iinc 4 1, 3) := by decide +kernel
theorem dX6_commonDivisor_31 : decode cX6_commonDivisor 31 = .ok (.goto (-24), 3) := by decide +kernel
theorem dX6_commonDivisor_34 : decode cX6_commonDivisor 34 = .ok (.iload_n 2, 1) := by decide +kernel
theorem dX6_commonDivisor_35 : decode cX6_commonDivisor 35 = .ok (.ireturn, 1) := by decide +kernel
theorem dX6_waysToWave_0 : decode cX6_waysToWave 0 = .ok (.iconst 0, 1) := by decide +kernel
theorem dX6_waysToWave_1 : decode cX6_waysToWave 1 = .ok (.istore_n 3, 1) := by decide +kernel
theorem dX6_waysToWave_2 : decode cX6_waysToWave 2 = .ok (.iconst 1, 1) := by decide +kernel
theorem dX6_waysToWave_3 : decode cX6_waysToWave 3 = .ok (.istore 4, 2) := by decide +kernel
theorem dX6_waysToWave_5 : decode cX6_waysToWave 5 = .ok (.iconst 0, 1) := by decide +kernel
theorem dX6_waysToWave_6 : decode cX6_waysToWave 6 = .ok (.istore 5, 2) := by decide +kernel
theorem dX6_waysToWave_8 : decode cX6_waysToWave 8 = .ok (.iload 5, 2) := by decide +kernel
theorem dX6_waysToWave_10 : decode cX6_waysToWave 10 = .ok (.iload_n 1, 1) := by decide +kernel
theorem dX6_waysToWave_11 : decode cX6_waysToWave 11 = .ok (.if_icmp .gt 61, 3) := by decide +kernel
theorem dX6_waysToWave_14 : decode cX6_waysToWave 14 = .ok (.iconst 0, 1) := by decide +kernel
theorem dX6_waysToWave_15 : decode cX6_waysToWave 15 = .ok (.iload_n 0, 1) := by decide +kernel
theorem dX6_waysToWave_16 : decode cX6_waysToWave 16 = .ok (.iconst 2, 1) := by decide +kernel
theorem dX6_waysToWave_17 : decode cX6_waysToWave 17 = .ok (.iload 5, 2) := by decide +kernel
theorem dX6_waysToWave_19 : decode cX6_waysToWave 19 = .ok (.imul, 1) := by decide +kernel
theorem dX6_waysToWave_20 : decode cX6_waysToWave 20 = .ok (.isub, 1) := by decide +kernel
theorem dX6_waysToWave_21 : decode cX6_waysToWave 21 = .ok (.invokestatic 284, 3) := by decide +kernel
theorem dX6_waysToWave_24 : decode cX6_waysToWave 24 = .ok (.iconst 2, 1) := by decide +kernel
theorem dX6_waysToWave_25 : decode cX6_waysToWave 25 = .ok (.if_icmp .ge 27, 3) := by decide +kernel
theorem dX6_waysToWave_28 : decode cX6_waysToWave 28 = .ok (.iload_n 3, 1) := by decide +kernel
theorem dX6_waysToWave_29 : decode cX6_waysToWave 29 = .ok (.iload 4, 2) := by decide +kernel
theorem dX6_waysToWave_31 : decode cX6_waysToWave 31 = .ok (.iload_n 2, 1) := by decide +kernel
theorem dX6_waysToWave_32 : decode cX6_waysToWave 32 = .ok (.iload 5, 2) := by decide +kernel
theorem dX6_waysToWave_34 : decode cX6_waysToWave 34 = .ok (.invokestatic 250, 3) := by decide +kernel
theorem dX6_waysToWave_37 : decode cX6_waysToWave 37 = .ok (.imul, 1) := by decide +kernel
theorem dX6_waysToWave_38 : decode cX6_waysToWave 38 = .ok (.bipush 10, 2) := by decide +kernel
theorem dX6_waysToWave_40 : decode cX6_waysToWave 40 = .ok (.iload_n 2, 1) := by decide +kernel
theorem dX6_waysToWave_41 : decode cX6_waysToWave 41 = .ok (.isub, 1) := by decide +kernel
theorem dX6_waysToWave_42 : decode cX6_waysToWave 42 = .ok (.iload_n 1, 1) := by decide +kernel
theorem dX6_waysToWave_43 : decode cX6_waysToWave 43 = .ok (.iload 5, 2) := by decide +kernel
theorem dX6_waysToWave_45 : decode cX6_waysToWave 45 = .ok (.isub, 1) := by decide +kernel
theorem dX6_waysToWave_46 : decode cX6_waysToWave 46 = .ok (.invokestatic 250, 3) := by decide +kernel
theorem dX6_waysToWave_49 : decode cX6_waysToWave 49 = .ok (.imul, 1) := by decide +kernel
theorem dX6_waysToWave_50 : decode cX6_waysToWave 50 = .ok (.iadd, 1) := by decide +kernel
theorem dX6_waysToWave_51 : decode cX6_waysToWave 51 = .ok (.istore_n 3, 1) := by decide +kernel
theorem dX6_waysToWave_52 : decode cX6_waysToWave 52 = .ok (.iload 4, 2) := by decide +kernel
theorem dX6_waysToWave_54 : decode cX6_waysToWave 54 = .ok (.iload_n 1, 1) := by decide +kernel
theorem dX6_waysToWave_55 : decode cX6_waysToWave 55 = .ok (.iload 5, 2) := by decide +kernel
theorem dX6_waysToWave_57 : decode cX6_waysToWave 57 = .ok (.isub, 1) := by decide +kernel
theorem dX6_waysToWave_58 : decode cX6_waysToWave 58 = .ok (.imul, 1) := by decide +kernel
theorem dX6_waysToWave_59 : decode cX6_waysToWave 59 = .ok (.iload 5, 2) := by decide +kernel
theorem dX6_waysToWave_61 : decode cX6_waysToWave 61 = .ok (.iconst 1, 1) := by decide +kernel
theorem dX6_waysToWave_62 : decode cX6_waysToWave 62 = .ok (.iadd, 1) := by decide +kernel
theorem dX6_waysToWave_63 : decode cX6_waysToWave 63 = .ok (.idiv, 1) := by decide +kernel
theorem dX6_waysToWave_64 : decode cX6_waysToWave 64 = .ok (.istore 4, 2) := by decide +kernel
theorem dX6_waysToWave_66 : decode cX6_waysToWave 66 = .ok (.iinc 5 1, 3) := by decide +kernel
theorem dX6_waysToWave_69 : decode cX6_waysToWave 69 = .ok (.goto (-61), 3) := by decide +kernel
theorem dX6_waysToWave_72 : decode cX6_waysToWave 72 = .ok (.iload_n 3, 1) := by decide +kernel
theorem dX6_waysToWave_73 : decode cX6_waysToWave 73 = .ok (.ireturn, 1) := by decide +kernel
theorem dX6_draw_0 : decode cX6_draw 0 = .ok (.ldc2_w 290, 3) := by decide +kernel
theorem dX6_draw_3 : decode cX6_draw 3 = .ok (.iload_n 0, 1) := by decide +kernel
theorem dX6_draw_4 : decode cX6_draw 4 = .ok (.i2l, 1) := by decide +kernel
theorem dX6_draw_5 : decode cX6_draw 5 = .ok (.lmul, 1) := by decide +kernel
theorem dX6_draw_6 : decode cX6_draw 6 = .ok (.ldc2_w 292, 3) := by decide +kernel
theorem dX6_draw_9 : decode cX6_draw 9 = .ok (.iload_n 1, 1) := by decide +kernel
theorem dX6_draw_10 : decode cX6_draw 10 = .ok (.i2l, 1) := by decide +kernel
theorem dX6_draw_11 : decode cX6_draw 11 = .ok (.lmul, 1) := by decide +kernel
theorem dX6_draw_12 : decode cX6_draw 12 = .ok (.ladd, 1) := by decide +kernel
theorem dX6_draw_13 : decode cX6_draw 13 = .ok (.lconst 1, 1) := by decide +kernel
theorem dX6_draw_14 : decode cX6_draw 14 = .ok (.ladd, 1) := by decide +kernel
theorem dX6_draw_15 : decode cX6_draw 15 = .ok (.lstore_n 2, 1) := by decide +kernel
theorem dX6_draw_16 : decode cX6_draw 16 = .ok (.lload_n 2, 1) := by decide +kernel
theorem dX6_draw_17 : decode cX6_draw 17 = .ok (.lload_n 2, 1) := by decide +kernel
theorem dX6_draw_18 : decode cX6_draw 18 = .ok (.lmul, 1) := by decide +kernel
theorem dX6_draw_19 : decode cX6_draw 19 = .ok (.ldc2_w 294, 3) := by decide +kernel
theorem dX6_draw_22 : decode cX6_draw 22 = .ok (.lrem, 1) := by decide +kernel
theorem dX6_draw_23 : decode cX6_draw 23 = .ok (.ldc2_w 296, 3) := by decide +kernel
theorem dX6_draw_26 : decode cX6_draw 26 = .ok (.ldiv, 1) := by decide +kernel
theorem dX6_draw_27 : decode cX6_draw 27 = .ok (.l2i, 1) := by decide +kernel
theorem dX6_draw_28 : decode cX6_draw 28 = .ok (.ireturn, 1) := by decide +kernel
theorem dX6_slackOf_0 : decode cX6_slackOf 0 = .ok (.iload_n 0, 1) := by decide +kernel
theorem dX6_slackOf_1 : decode cX6_slackOf 1 = .ok (.tableswitch 37 0 2 #[27, 31, 33], 27) := by decide +kernel
theorem dX6_slackOf_28 : decode cX6_slackOf 28 = .ok (.iload_n 1, 1) := by decide +kernel
theorem dX6_slackOf_29 : decode cX6_slackOf 29 = .ok (.iconst 2, 1) := by decide +kernel
theorem dX6_slackOf_30 : decode cX6_slackOf 30 = .ok (.idiv, 1) := by decide +kernel
theorem dX6_slackOf_31 : decode cX6_slackOf 31 = .ok (.ireturn, 1) := by decide +kernel
theorem dX6_slackOf_32 : decode cX6_slackOf 32 = .ok (.iload_n 1, 1) := by decide +kernel
theorem dX6_slackOf_33 : decode cX6_slackOf 33 = .ok (.ireturn, 1) := by decide +kernel
theorem dX6_slackOf_34 : decode cX6_slackOf 34 = .ok (.iload_n 1, 1) := by decide +kernel
theorem dX6_slackOf_35 : decode cX6_slackOf 35 = .ok (.iconst 2, 1) := by decide +kernel
theorem dX6_slackOf_36 : decode cX6_slackOf 36 = .ok (.imul, 1) := by decide +kernel
theorem dX6_slackOf_37 : decode cX6_slackOf 37 = .ok (.ireturn, 1) := by decide +kernel
theorem dX6_slackOf_38 : decode cX6_slackOf 38 = .ok (.iload_n 1, 1) := by decide +kernel
theorem dX6_slackOf_39 : decode cX6_slackOf 39 = .ok (.iload_n 2, 1) := by decide +kernel
theorem dX6_slackOf_40 : decode cX6_slackOf 40 = .ok (.iadd, 1) := by decide +kernel
theorem dX6_slackOf_41 : decode cX6_slackOf 41 = .ok (.ireturn, 1) := by decide +kernel
theorem dL_law_0 : decode cL_law 0 = .ok (.new 7, 3) := by decide +kernel
theorem dL_law_3 : decode cL_law 3 = .ok (.dup, 1) := by decide +kernel
theorem dL_law_4 : decode cL_law 4 = .ok (.invokespecial 9, 3) := by decide +kernel
theorem dL_law_7 : decode cL_law 7 = .ok (.astore_n 1, 1) := by decide +kernel
theorem dL_law_8 : decode cL_law 8 = .ok (.new 10, 3) := by decide +kernel
theorem dL_law_11 : decode cL_law 11 = .ok (.dup, 1) := by decide +kernel
theorem dL_law_12 : decode cL_law 12 = .ok (.invokespecial 12, 3) := by decide +kernel
theorem dL_law_15 : decode cL_law 15 = .ok (.astore_n 2, 1) := by decide +kernel
theorem dL_law_16 : decode cL_law 16 = .ok (.iconst 0, 1) := by decide +kernel
theorem dL_law_17 : decode cL_law 17 = .ok (.istore_n 3, 1) := by decide +kernel
theorem dL_law_18 : decode cL_law 18 = .ok (.iload_n 3, 1) := by decide +kernel
theorem dL_law_19 : decode cL_law 19 = .ok (.aload_n 0, 1) := by decide +kernel
theorem dL_law_20 : decode cL_law 20 = .ok (.arraylength, 1) := by decide +kernel
theorem dL_law_21 : decode cL_law 21 = .ok (.iconst 5, 1) := by decide +kernel
theorem dL_law_22 : decode cL_law 22 = .ok (.isub, 1) := by decide +kernel
theorem dL_law_23 : decode cL_law 23 = .ok (.if_icmp .gt 780, 3) := by decide +kernel
theorem dL_law_26 : decode cL_law 26 = .ok (.aload_n 0, 1) := by decide +kernel
theorem dL_law_27 : decode cL_law 27 = .ok (.iload_n 3, 1) := by decide +kernel
theorem dL_law_28 : decode cL_law 28 = .ok (.iaload, 1) := by decide +kernel
theorem dL_law_29 : decode cL_law 29 = .ok (.bipush 31, 2) := by decide +kernel
theorem dL_law_31 : decode cL_law 31 = .ok (.iand, 1) := by decide +kernel
theorem dL_law_32 : decode cL_law 32 = .ok (.tableswitch 765 0 26 #[124, 147, 160, 173, 186, 219, 252, 275, 298, 331, 354, 377, 390, 413, 436, 469, 482, 495, 528, 541, 564, 597, 620, 673, 716, 729, 742], 124) := by decide +kernel
theorem dL_law_156 : decode cL_law 156 = .ok (.aload_n 1, 1) := by decide +kernel
theorem dL_law_157 : decode cL_law 157 = .ok (.aload_n 0, 1) := by decide +kernel
theorem dL_law_158 : decode cL_law 158 = .ok (.iload_n 3, 1) := by decide +kernel
theorem dL_law_159 : decode cL_law 159 = .ok (.iconst 1, 1) := by decide +kernel
theorem dL_law_160 : decode cL_law 160 = .ok (.iadd, 1) := by decide +kernel
theorem dL_law_161 : decode cL_law 161 = .ok (.iaload, 1) := by decide +kernel
theorem dL_law_162 : decode cL_law 162 = .ok (.invokevirtual 13, 3) := by decide +kernel
theorem dL_law_165 : decode cL_law 165 = .ok (.aload_n 2, 1) := by decide +kernel
theorem dL_law_166 : decode cL_law 166 = .ok (.aload_n 0, 1) := by decide +kernel
theorem dL_law_167 : decode cL_law 167 = .ok (.iload_n 3, 1) := by decide +kernel
theorem dL_law_168 : decode cL_law 168 = .ok (.iconst 1, 1) := by decide +kernel
theorem dL_law_169 : decode cL_law 169 = .ok (.iadd, 1) := by decide +kernel
theorem dL_law_170 : decode cL_law 170 = .ok (.iaload, 1) := by decide +kernel
theorem dL_law_171 : decode cL_law 171 = .ok (.invokevirtual 17, 3) := by decide +kernel
theorem dL_law_174 : decode cL_law 174 = .ok (.if_icmp .eq 623, 3) := by decide +kernel
theorem dL_law_177 : decode cL_law 177 = .ok (.iconst 0, 1) := by decide +kernel
theorem dL_law_178 : decode cL_law 178 = .ok (.ireturn, 1) := by decide +kernel
theorem dL_law_179 : decode cL_law 179 = .ok (.aload_n 1, 1) := by decide +kernel
theorem dL_law_180 : decode cL_law 180 = .ok (.invokevirtual 18, 3) := by decide +kernel
theorem dL_law_183 : decode cL_law 183 = .ok (.aload_n 2, 1) := by decide +kernel
theorem dL_law_184 : decode cL_law 184 = .ok (.invokevirtual 22, 3) := by decide +kernel
theorem dL_law_187 : decode cL_law 187 = .ok (.if_icmp .eq 610, 3) := by decide +kernel
theorem dL_law_190 : decode cL_law 190 = .ok (.iconst 0, 1) := by decide +kernel
theorem dL_law_191 : decode cL_law 191 = .ok (.ireturn, 1) := by decide +kernel
theorem dL_law_192 : decode cL_law 192 = .ok (.aload_n 1, 1) := by decide +kernel
theorem dL_law_193 : decode cL_law 193 = .ok (.invokevirtual 23, 3) := by decide +kernel
theorem dL_law_196 : decode cL_law 196 = .ok (.aload_n 2, 1) := by decide +kernel
theorem dL_law_197 : decode cL_law 197 = .ok (.invokevirtual 26, 3) := by decide +kernel
theorem dL_law_200 : decode cL_law 200 = .ok (.if_icmp .eq 597, 3) := by decide +kernel
theorem dL_law_203 : decode cL_law 203 = .ok (.iconst 0, 1) := by decide +kernel
theorem dL_law_204 : decode cL_law 204 = .ok (.ireturn, 1) := by decide +kernel
theorem dL_law_205 : decode cL_law 205 = .ok (.aload_n 1, 1) := by decide +kernel
theorem dL_law_206 : decode cL_law 206 = .ok (.invokevirtual 27, 3) := by decide +kernel
theorem dL_law_209 : decode cL_law 209 = .ok (.aload_n 2, 1) := by decide +kernel
theorem dL_law_210 : decode cL_law 210 = .ok (.invokevirtual 30, 3) := by decide +kernel
theorem dL_law_213 : decode cL_law 213 = .ok (.if_icmp .eq 584, 3) := by decide +kernel
theorem dL_law_216 : decode cL_law 216 = .ok (.iconst 0, 1) := by decide +kernel
theorem dL_law_217 : decode cL_law 217 = .ok (.ireturn, 1) := by decide +kernel
theorem dL_law_218 : decode cL_law 218 = .ok (.aload_n 1, 1) := by decide +kernel
theorem dL_law_219 : decode cL_law 219 = .ok (.aload_n 0, 1) := by decide +kernel
theorem dL_law_220 : decode cL_law 220 = .ok (.iload_n 3, 1) := by decide +kernel
theorem dL_law_221 : decode cL_law 221 = .ok (.iconst 1, 1) := by decide +kernel
theorem dL_law_222 : decode cL_law 222 = .ok (.iadd, 1) := by decide +kernel
theorem dL_law_223 : decode cL_law 223 = .ok (.iaload, 1) := by decide +kernel
theorem dL_law_224 : decode cL_law 224 = .ok (.aload_n 0, 1) := by decide +kernel
theorem dL_law_225 : decode cL_law 225 = .ok (.iload_n 3, 1) := by decide +kernel
theorem dL_law_226 : decode cL_law 226 = .ok (.iconst 2, 1) := by decide +kernel
theorem dL_law_227 : decode cL_law 227 = .ok (.iadd, 1) := by decide +kernel
theorem dL_law_228 : decode cL_law 228 = .ok (.iaload, 1) := by decide +kernel
theorem dL_law_229 : decode cL_law 229 = .ok (.invokevirtual 31, 3) := by decide +kernel
theorem dL_law_232 : decode cL_law 232 = .ok (.aload_n 2, 1) := by decide +kernel
theorem dL_law_233 : decode cL_law 233 = .ok (.aload_n 0, 1) := by decide +kernel
theorem dL_law_234 : decode cL_law 234 = .ok (.iload_n 3, 1) := by decide +kernel
theorem dL_law_235 : decode cL_law 235 = .ok (.iconst 1, 1) := by decide +kernel
theorem dL_law_236 : decode cL_law 236 = .ok (.iadd, 1) := by decide +kernel
theorem dL_law_237 : decode cL_law 237 = .ok (.iaload, 1) := by decide +kernel
theorem dL_law_238 : decode cL_law 238 = .ok (.aload_n 0, 1) := by decide +kernel
theorem dL_law_239 : decode cL_law 239 = .ok (.iload_n 3, 1) := by decide +kernel
theorem dL_law_240 : decode cL_law 240 = .ok (.iconst 2, 1) := by decide +kernel
theorem dL_law_241 : decode cL_law 241 = .ok (.iadd, 1) := by decide +kernel
theorem dL_law_242 : decode cL_law 242 = .ok (.iaload, 1) := by decide +kernel
theorem dL_law_243 : decode cL_law 243 = .ok (.invokevirtual 35, 3) := by decide +kernel
theorem dL_law_246 : decode cL_law 246 = .ok (.if_icmp .eq 551, 3) := by decide +kernel
theorem dL_law_249 : decode cL_law 249 = .ok (.iconst 0, 1) := by decide +kernel
theorem dL_law_250 : decode cL_law 250 = .ok (.ireturn, 1) := by decide +kernel
theorem dL_law_251 : decode cL_law 251 = .ok (.aload_n 1, 1) := by decide +kernel
theorem dL_law_252 : decode cL_law 252 = .ok (.aload_n 0, 1) := by decide +kernel
theorem dL_law_253 : decode cL_law 253 = .ok (.iload_n 3, 1) := by decide +kernel
theorem dL_law_254 : decode cL_law 254 = .ok (.iconst 1, 1) := by decide +kernel
theorem dL_law_255 : decode cL_law 255 = .ok (.iadd, 1) := by decide +kernel
theorem dL_law_256 : decode cL_law 256 = .ok (.iaload, 1) := by decide +kernel
theorem dL_law_257 : decode cL_law 257 = .ok (.aload_n 0, 1) := by decide +kernel
theorem dL_law_258 : decode cL_law 258 = .ok (.iload_n 3, 1) := by decide +kernel
theorem dL_law_259 : decode cL_law 259 = .ok (.iconst 2, 1) := by decide +kernel
theorem dL_law_260 : decode cL_law 260 = .ok (.iadd, 1) := by decide +kernel
theorem dL_law_261 : decode cL_law 261 = .ok (.iaload, 1) := by decide +kernel
theorem dL_law_262 : decode cL_law 262 = .ok (.invokevirtual 36, 3) := by decide +kernel
theorem dL_law_265 : decode cL_law 265 = .ok (.aload_n 2, 1) := by decide +kernel
theorem dL_law_266 : decode cL_law 266 = .ok (.aload_n 0, 1) := by decide +kernel
theorem dL_law_267 : decode cL_law 267 = .ok (.iload_n 3, 1) := by decide +kernel
theorem dL_law_268 : decode cL_law 268 = .ok (.iconst 1, 1) := by decide +kernel
theorem dL_law_269 : decode cL_law 269 = .ok (.iadd, 1) := by decide +kernel
theorem dL_law_270 : decode cL_law 270 = .ok (.iaload, 1) := by decide +kernel
theorem dL_law_271 : decode cL_law 271 = .ok (.aload_n 0, 1) := by decide +kernel
theorem dL_law_272 : decode cL_law 272 = .ok (.iload_n 3, 1) := by decide +kernel
theorem dL_law_273 : decode cL_law 273 = .ok (.iconst 2, 1) := by decide +kernel
theorem dL_law_274 : decode cL_law 274 = .ok (.iadd, 1) := by decide +kernel
theorem dL_law_275 : decode cL_law 275 = .ok (.iaload, 1) := by decide +kernel
theorem dL_law_276 : decode cL_law 276 = .ok (.invokevirtual 39, 3) := by decide +kernel
theorem dL_law_279 : decode cL_law 279 = .ok (.if_icmp .eq 518, 3) := by decide +kernel
theorem dL_law_282 : decode cL_law 282 = .ok (.iconst 0, 1) := by decide +kernel
theorem dL_law_283 : decode cL_law 283 = .ok (.ireturn, 1) := by decide +kernel
theorem dL_law_284 : decode cL_law 284 = .ok (.aload_n 1, 1) := by decide +kernel
theorem dL_law_285 : decode cL_law 285 = .ok (.aload_n 0, 1) := by decide +kernel
theorem dL_law_286 : decode cL_law 286 = .ok (.iload_n 3, 1) := by decide +kernel
theorem dL_law_287 : decode cL_law 287 = .ok (.iconst 1, 1) := by decide +kernel
theorem dL_law_288 : decode cL_law 288 = .ok (.iadd, 1) := by decide +kernel
theorem dL_law_289 : decode cL_law 289 = .ok (.iaload, 1) := by decide +kernel
theorem dL_law_290 : decode cL_law 290 = .ok (.invokevirtual 40, 3) := by decide +kernel
theorem dL_law_293 : decode cL_law 293 = .ok (.aload_n 2, 1) := by decide +kernel
theorem dL_law_294 : decode cL_law 294 = .ok (.aload_n 0, 1) := by decide +kernel
theorem dL_law_295 : decode cL_law 295 = .ok (.iload_n 3, 1) := by decide +kernel
theorem dL_law_296 : decode cL_law 296 = .ok (.iconst 1, 1) := by decide +kernel
theorem dL_law_297 : decode cL_law 297 = .ok (.iadd, 1) := by decide +kernel
theorem dL_law_298 : decode cL_law 298 = .ok (.iaload, 1) := by decide +kernel
theorem dL_law_299 : decode cL_law 299 = .ok (.invokevirtual 43, 3) := by decide +kernel
theorem dL_law_302 : decode cL_law 302 = .ok (.if_icmp .eq 495, 3) := by decide +kernel
theorem dL_law_305 : decode cL_law 305 = .ok (.iconst 0, 1) := by decide +kernel
theorem dL_law_306 : decode cL_law 306 = .ok (.ireturn, 1) := by decide +kernel
theorem dL_law_307 : decode cL_law 307 = .ok (.aload_n 1, 1) := by decide +kernel
theorem dL_law_308 : decode cL_law 308 = .ok (.aload_n 0, 1) := by decide +kernel
theorem dL_law_309 : decode cL_law 309 = .ok (.iload_n 3, 1) := by decide +kernel
theorem dL_law_310 : decode cL_law 310 = .ok (.iconst 1, 1) := by decide +kernel
theorem dL_law_311 : decode cL_law 311 = .ok (.iadd, 1) := by decide +kernel
theorem dL_law_312 : decode cL_law 312 = .ok (.iaload, 1) := by decide +kernel
theorem dL_law_313 : decode cL_law 313 = .ok (.invokevirtual 44, 3) := by decide +kernel
theorem dL_law_316 : decode cL_law 316 = .ok (.aload_n 2, 1) := by decide +kernel
theorem dL_law_317 : decode cL_law 317 = .ok (.aload_n 0, 1) := by decide +kernel
theorem dL_law_318 : decode cL_law 318 = .ok (.iload_n 3, 1) := by decide +kernel
theorem dL_law_319 : decode cL_law 319 = .ok (.iconst 1, 1) := by decide +kernel
theorem dL_law_320 : decode cL_law 320 = .ok (.iadd, 1) := by decide +kernel
theorem dL_law_321 : decode cL_law 321 = .ok (.iaload, 1) := by decide +kernel
theorem dL_law_322 : decode cL_law 322 = .ok (.invokevirtual 47, 3) := by decide +kernel
theorem dL_law_325 : decode cL_law 325 = .ok (.if_icmp .eq 472, 3) := by decide +kernel
theorem dL_law_328 : decode cL_law 328 = .ok (.iconst 0, 1) := by decide +kernel
theorem dL_law_329 : decode cL_law 329 = .ok (.ireturn, 1) := by decide +kernel
theorem dL_law_330 : decode cL_law 330 = .ok (.aload_n 1, 1) := by decide +kernel
theorem dL_law_331 : decode cL_law 331 = .ok (.aload_n 0, 1) := by decide +kernel
theorem dL_law_332 : decode cL_law 332 = .ok (.iload_n 3, 1) := by decide +kernel
theorem dL_law_333 : decode cL_law 333 = .ok (.iconst 1, 1) := by decide +kernel
theorem dL_law_334 : decode cL_law 334 = .ok (.iadd, 1) := by decide +kernel
theorem dL_law_335 : decode cL_law 335 = .ok (.iaload, 1) := by decide +kernel
theorem dL_law_336 : decode cL_law 336 = .ok (.aload_n 0, 1) := by decide +kernel
theorem dL_law_337 : decode cL_law 337 = .ok (.iload_n 3, 1) := by decide +kernel
theorem dL_law_338 : decode cL_law 338 = .ok (.iconst 2, 1) := by decide +kernel
theorem dL_law_339 : decode cL_law 339 = .ok (.iadd, 1) := by decide +kernel
theorem dL_law_340 : decode cL_law 340 = .ok (.iaload, 1) := by decide +kernel
theorem dL_law_341 : decode cL_law 341 = .ok (.invokevirtual 48, 3) := by decide +kernel
theorem dL_law_344 : decode cL_law 344 = .ok (.aload_n 2, 1) := by decide +kernel
theorem dL_law_345 : decode cL_law 345 = .ok (.aload_n 0, 1) := by decide +kernel
theorem dL_law_346 : decode cL_law 346 = .ok (.iload_n 3, 1) := by decide +kernel
theorem dL_law_347 : decode cL_law 347 = .ok (.iconst 1, 1) := by decide +kernel
theorem dL_law_348 : decode cL_law 348 = .ok (.iadd, 1) := by decide +kernel
theorem dL_law_349 : decode cL_law 349 = .ok (.iaload, 1) := by decide +kernel
theorem dL_law_350 : decode cL_law 350 = .ok (.aload_n 0, 1) := by decide +kernel
theorem dL_law_351 : decode cL_law 351 = .ok (.iload_n 3, 1) := by decide +kernel
theorem dL_law_352 : decode cL_law 352 = .ok (.iconst 2, 1) := by decide +kernel
theorem dL_law_353 : decode cL_law 353 = .ok (.iadd, 1) := by decide +kernel
theorem dL_law_354 : decode cL_law 354 = .ok (.iaload, 1) := by decide +kernel
theorem dL_law_355 : decode cL_law 355 = .ok (.invokevirtual 51, 3) := by decide +kernel
theorem dL_law_358 : decode cL_law 358 = .ok (.if_icmp .eq 439, 3) := by decide +kernel
theorem dL_law_361 : decode cL_law 361 = .ok (.iconst 0, 1) := by decide +kernel
theorem dL_law_362 : decode cL_law 362 = .ok (.ireturn, 1) := by decide +kernel
theorem dL_law_363 : decode cL_law 363 = .ok (.aload_n 1, 1) := by decide +kernel
theorem dL_law_364 : decode cL_law 364 = .ok (.aload_n 0, 1) := by decide +kernel
theorem dL_law_365 : decode cL_law 365 = .ok (.iload_n 3, 1) := by decide +kernel
theorem dL_law_366 : decode cL_law 366 = .ok (.iconst 1, 1) := by decide +kernel
theorem dL_law_367 : decode cL_law 367 = .ok (.iadd, 1) := by decide +kernel
theorem dL_law_368 : decode cL_law 368 = .ok (.iaload, 1) := by decide +kernel
theorem dL_law_369 : decode cL_law 369 = .ok (.invokevirtual 52, 3) := by decide +kernel
theorem dL_law_372 : decode cL_law 372 = .ok (.aload_n 2, 1) := by decide +kernel
theorem dL_law_373 : decode cL_law 373 = .ok (.aload_n 0, 1) := by decide +kernel
theorem dL_law_374 : decode cL_law 374 = .ok (.iload_n 3, 1) := by decide +kernel
theorem dL_law_375 : decode cL_law 375 = .ok (.iconst 1, 1) := by decide +kernel
theorem dL_law_376 : decode cL_law 376 = .ok (.iadd, 1) := by decide +kernel
theorem dL_law_377 : decode cL_law 377 = .ok (.iaload, 1) := by decide +kernel
theorem dL_law_378 : decode cL_law 378 = .ok (.invokevirtual 55, 3) := by decide +kernel
theorem dL_law_381 : decode cL_law 381 = .ok (.if_icmp .eq 416, 3) := by decide +kernel
theorem dL_law_384 : decode cL_law 384 = .ok (.iconst 0, 1) := by decide +kernel
theorem dL_law_385 : decode cL_law 385 = .ok (.ireturn, 1) := by decide +kernel
theorem dL_law_386 : decode cL_law 386 = .ok (.aload_n 1, 1) := by decide +kernel
theorem dL_law_387 : decode cL_law 387 = .ok (.aload_n 0, 1) := by decide +kernel
theorem dL_law_388 : decode cL_law 388 = .ok (.iload_n 3, 1) := by decide +kernel
theorem dL_law_389 : decode cL_law 389 = .ok (.iconst 1, 1) := by decide +kernel
theorem dL_law_390 : decode cL_law 390 = .ok (.iadd, 1) := by decide +kernel
theorem dL_law_391 : decode cL_law 391 = .ok (.iaload, 1) := by decide +kernel
theorem dL_law_392 : decode cL_law 392 = .ok (.invokevirtual 56, 3) := by decide +kernel
theorem dL_law_395 : decode cL_law 395 = .ok (.aload_n 2, 1) := by decide +kernel
theorem dL_law_396 : decode cL_law 396 = .ok (.aload_n 0, 1) := by decide +kernel
theorem dL_law_397 : decode cL_law 397 = .ok (.iload_n 3, 1) := by decide +kernel
theorem dL_law_398 : decode cL_law 398 = .ok (.iconst 1, 1) := by decide +kernel
theorem dL_law_399 : decode cL_law 399 = .ok (.iadd, 1) := by decide +kernel
theorem dL_law_400 : decode cL_law 400 = .ok (.iaload, 1) := by decide +kernel
theorem dL_law_401 : decode cL_law 401 = .ok (.invokevirtual 59, 3) := by decide +kernel
theorem dL_law_404 : decode cL_law 404 = .ok (.if_icmp .eq 393, 3) := by decide +kernel
theorem dL_law_407 : decode cL_law 407 = .ok (.iconst 0, 1) := by decide +kernel
theorem dL_law_408 : decode cL_law 408 = .ok (.ireturn, 1) := by decide +kernel
theorem dL_law_409 : decode cL_law 409 = .ok (.aload_n 1, 1) := by decide +kernel
theorem dL_law_410 : decode cL_law 410 = .ok (.invokevirtual 60, 3) := by decide +kernel
theorem dL_law_413 : decode cL_law 413 = .ok (.aload_n 2, 1) := by decide +kernel
theorem dL_law_414 : decode cL_law 414 = .ok (.invokevirtual 63, 3) := by decide +kernel
theorem dL_law_417 : decode cL_law 417 = .ok (.if_icmp .eq 380, 3) := by decide +kernel
theorem dL_law_420 : decode cL_law 420 = .ok (.iconst 0, 1) := by decide +kernel
theorem dL_law_421 : decode cL_law 421 = .ok (.ireturn, 1) := by decide +kernel
theorem dL_law_422 : decode cL_law 422 = .ok (.aload_n 1, 1) := by decide +kernel
theorem dL_law_423 : decode cL_law 423 = .ok (.aload_n 0, 1) := by decide +kernel
theorem dL_law_424 : decode cL_law 424 = .ok (.iload_n 3, 1) := by decide +kernel
theorem dL_law_425 : decode cL_law 425 = .ok (.iconst 1, 1) := by decide +kernel
theorem dL_law_426 : decode cL_law 426 = .ok (.iadd, 1) := by decide +kernel
theorem dL_law_427 : decode cL_law 427 = .ok (.iaload, 1) := by decide +kernel
theorem dL_law_428 : decode cL_law 428 = .ok (.invokevirtual 64, 3) := by decide +kernel
theorem dL_law_431 : decode cL_law 431 = .ok (.aload_n 2, 1) := by decide +kernel
theorem dL_law_432 : decode cL_law 432 = .ok (.aload_n 0, 1) := by decide +kernel
theorem dL_law_433 : decode cL_law 433 = .ok (.iload_n 3, 1) := by decide +kernel
theorem dL_law_434 : decode cL_law 434 = .ok (.iconst 1, 1) := by decide +kernel
theorem dL_law_435 : decode cL_law 435 = .ok (.iadd, 1) := by decide +kernel
theorem dL_law_436 : decode cL_law 436 = .ok (.iaload, 1) := by decide +kernel
theorem dL_law_437 : decode cL_law 437 = .ok (.invokevirtual 67, 3) := by decide +kernel
theorem dL_law_440 : decode cL_law 440 = .ok (.if_icmp .eq 357, 3) := by decide +kernel
theorem dL_law_443 : decode cL_law 443 = .ok (.iconst 0, 1) := by decide +kernel
theorem dL_law_444 : decode cL_law 444 = .ok (.ireturn, 1) := by decide +kernel
theorem dL_law_445 : decode cL_law 445 = .ok (.aload_n 1, 1) := by decide +kernel
theorem dL_law_446 : decode cL_law 446 = .ok (.aload_n 0, 1) := by decide +kernel
theorem dL_law_447 : decode cL_law 447 = .ok (.iload_n 3, 1) := by decide +kernel
theorem dL_law_448 : decode cL_law 448 = .ok (.iconst 1, 1) := by decide +kernel
theorem dL_law_449 : decode cL_law 449 = .ok (.iadd, 1) := by decide +kernel
theorem dL_law_450 : decode cL_law 450 = .ok (.iaload, 1) := by decide +kernel
theorem dL_law_451 : decode cL_law 451 = .ok (.invokevirtual 68, 3) := by decide +kernel
theorem dL_law_454 : decode cL_law 454 = .ok (.aload_n 2, 1) := by decide +kernel
theorem dL_law_455 : decode cL_law 455 = .ok (.aload_n 0, 1) := by decide +kernel
theorem dL_law_456 : decode cL_law 456 = .ok (.iload_n 3, 1) := by decide +kernel
theorem dL_law_457 : decode cL_law 457 = .ok (.iconst 1, 1) := by decide +kernel
theorem dL_law_458 : decode cL_law 458 = .ok (.iadd, 1) := by decide +kernel
theorem dL_law_459 : decode cL_law 459 = .ok (.iaload, 1) := by decide +kernel
theorem dL_law_460 : decode cL_law 460 = .ok (.invokevirtual 71, 3) := by decide +kernel
theorem dL_law_463 : decode cL_law 463 = .ok (.if_icmp .eq 334, 3) := by decide +kernel
theorem dL_law_466 : decode cL_law 466 = .ok (.iconst 0, 1) := by decide +kernel
theorem dL_law_467 : decode cL_law 467 = .ok (.ireturn, 1) := by decide +kernel
theorem dL_law_468 : decode cL_law 468 = .ok (.aload_n 1, 1) := by decide +kernel
theorem dL_law_469 : decode cL_law 469 = .ok (.aload_n 0, 1) := by decide +kernel
theorem dL_law_470 : decode cL_law 470 = .ok (.iload_n 3, 1) := by decide +kernel
theorem dL_law_471 : decode cL_law 471 = .ok (.iconst 1, 1) := by decide +kernel
theorem dL_law_472 : decode cL_law 472 = .ok (.iadd, 1) := by decide +kernel
theorem dL_law_473 : decode cL_law 473 = .ok (.iaload, 1) := by decide +kernel
theorem dL_law_474 : decode cL_law 474 = .ok (.aload_n 0, 1) := by decide +kernel
theorem dL_law_475 : decode cL_law 475 = .ok (.iload_n 3, 1) := by decide +kernel
theorem dL_law_476 : decode cL_law 476 = .ok (.iconst 2, 1) := by decide +kernel
theorem dL_law_477 : decode cL_law 477 = .ok (.iadd, 1) := by decide +kernel
theorem dL_law_478 : decode cL_law 478 = .ok (.iaload, 1) := by decide +kernel
theorem dL_law_479 : decode cL_law 479 = .ok (.invokevirtual 72, 3) := by decide +kernel
theorem dL_law_482 : decode cL_law 482 = .ok (.aload_n 2, 1) := by decide +kernel
theorem dL_law_483 : decode cL_law 483 = .ok (.aload_n 0, 1) := by decide +kernel
theorem dL_law_484 : decode cL_law 484 = .ok (.iload_n 3, 1) := by decide +kernel
theorem dL_law_485 : decode cL_law 485 = .ok (.iconst 1, 1) := by decide +kernel
theorem dL_law_486 : decode cL_law 486 = .ok (.iadd, 1) := by decide +kernel
theorem dL_law_487 : decode cL_law 487 = .ok (.iaload, 1) := by decide +kernel
theorem dL_law_488 : decode cL_law 488 = .ok (.aload_n 0, 1) := by decide +kernel
theorem dL_law_489 : decode cL_law 489 = .ok (.iload_n 3, 1) := by decide +kernel
theorem dL_law_490 : decode cL_law 490 = .ok (.iconst 2, 1) := by decide +kernel
theorem dL_law_491 : decode cL_law 491 = .ok (.iadd, 1) := by decide +kernel
theorem dL_law_492 : decode cL_law 492 = .ok (.iaload, 1) := by decide +kernel
theorem dL_law_493 : decode cL_law 493 = .ok (.invokevirtual 75, 3) := by decide +kernel
theorem dL_law_496 : decode cL_law 496 = .ok (.if_icmp .eq 301, 3) := by decide +kernel
theorem dL_law_499 : decode cL_law 499 = .ok (.iconst 0, 1) := by decide +kernel
theorem dL_law_500 : decode cL_law 500 = .ok (.ireturn, 1) := by decide +kernel
theorem dL_law_501 : decode cL_law 501 = .ok (.aload_n 1, 1) := by decide +kernel
theorem dL_law_502 : decode cL_law 502 = .ok (.invokevirtual 76, 3) := by decide +kernel
theorem dL_law_505 : decode cL_law 505 = .ok (.aload_n 2, 1) := by decide +kernel
theorem dL_law_506 : decode cL_law 506 = .ok (.invokevirtual 79, 3) := by decide +kernel
theorem dL_law_509 : decode cL_law 509 = .ok (.if_icmp .eq 288, 3) := by decide +kernel
theorem dL_law_512 : decode cL_law 512 = .ok (.iconst 0, 1) := by decide +kernel
theorem dL_law_513 : decode cL_law 513 = .ok (.ireturn, 1) := by decide +kernel
theorem dL_law_514 : decode cL_law 514 = .ok (.aload_n 1, 1) := by decide +kernel
theorem dL_law_515 : decode cL_law 515 = .ok (.invokevirtual 80, 3) := by decide +kernel
theorem dL_law_518 : decode cL_law 518 = .ok (.aload_n 2, 1) := by decide +kernel
theorem dL_law_519 : decode cL_law 519 = .ok (.invokevirtual 83, 3) := by decide +kernel
theorem dL_law_522 : decode cL_law 522 = .ok (.if_icmp .eq 275, 3) := by decide +kernel
theorem dL_law_525 : decode cL_law 525 = .ok (.iconst 0, 1) := by decide +kernel
theorem dL_law_526 : decode cL_law 526 = .ok (.ireturn, 1) := by decide +kernel
theorem dL_law_527 : decode cL_law 527 = .ok (.aload_n 1, 1) := by decide +kernel
theorem dL_law_528 : decode cL_law 528 = .ok (.aload_n 0, 1) := by decide +kernel
theorem dL_law_529 : decode cL_law 529 = .ok (.iload_n 3, 1) := by decide +kernel
theorem dL_law_530 : decode cL_law 530 = .ok (.iconst 1, 1) := by decide +kernel
theorem dL_law_531 : decode cL_law 531 = .ok (.iadd, 1) := by decide +kernel
theorem dL_law_532 : decode cL_law 532 = .ok (.iaload, 1) := by decide +kernel
theorem dL_law_533 : decode cL_law 533 = .ok (.aload_n 0, 1) := by decide +kernel
theorem dL_law_534 : decode cL_law 534 = .ok (.iload_n 3, 1) := by decide +kernel
theorem dL_law_535 : decode cL_law 535 = .ok (.iconst 2, 1) := by decide +kernel
theorem dL_law_536 : decode cL_law 536 = .ok (.iadd, 1) := by decide +kernel
theorem dL_law_537 : decode cL_law 537 = .ok (.iaload, 1) := by decide +kernel
theorem dL_law_538 : decode cL_law 538 = .ok (.invokevirtual 84, 3) := by decide +kernel
theorem dL_law_541 : decode cL_law 541 = .ok (.aload_n 2, 1) := by decide +kernel
theorem dL_law_542 : decode cL_law 542 = .ok (.aload_n 0, 1) := by decide +kernel
theorem dL_law_543 : decode cL_law 543 = .ok (.iload_n 3, 1) := by decide +kernel
theorem dL_law_544 : decode cL_law 544 = .ok (.iconst 1, 1) := by decide +kernel
theorem dL_law_545 : decode cL_law 545 = .ok (.iadd, 1) := by decide +kernel
theorem dL_law_546 : decode cL_law 546 = .ok (.iaload, 1) := by decide +kernel
theorem dL_law_547 : decode cL_law 547 = .ok (.aload_n 0, 1) := by decide +kernel
theorem dL_law_548 : decode cL_law 548 = .ok (.iload_n 3, 1) := by decide +kernel
theorem dL_law_549 : decode cL_law 549 = .ok (.iconst 2, 1) := by decide +kernel
theorem dL_law_550 : decode cL_law 550 = .ok (.iadd, 1) := by decide +kernel
theorem dL_law_551 : decode cL_law 551 = .ok (.iaload, 1) := by decide +kernel
theorem dL_law_552 : decode cL_law 552 = .ok (.invokevirtual 87, 3) := by decide +kernel
theorem dL_law_555 : decode cL_law 555 = .ok (.if_icmp .eq 242, 3) := by decide +kernel
theorem dL_law_558 : decode cL_law 558 = .ok (.iconst 0, 1) := by decide +kernel
theorem dL_law_559 : decode cL_law 559 = .ok (.ireturn, 1) := by decide +kernel
theorem dL_law_560 : decode cL_law 560 = .ok (.aload_n 1, 1) := by decide +kernel
theorem dL_law_561 : decode cL_law 561 = .ok (.invokevirtual 88, 3) := by decide +kernel
theorem dL_law_564 : decode cL_law 564 = .ok (.aload_n 2, 1) := by decide +kernel
theorem dL_law_565 : decode cL_law 565 = .ok (.invokevirtual 91, 3) := by decide +kernel
theorem dL_law_568 : decode cL_law 568 = .ok (.if_icmp .eq 229, 3) := by decide +kernel
theorem dL_law_571 : decode cL_law 571 = .ok (.iconst 0, 1) := by decide +kernel
theorem dL_law_572 : decode cL_law 572 = .ok (.ireturn, 1) := by decide +kernel
theorem dL_law_573 : decode cL_law 573 = .ok (.aload_n 1, 1) := by decide +kernel
theorem dL_law_574 : decode cL_law 574 = .ok (.aload_n 0, 1) := by decide +kernel
theorem dL_law_575 : decode cL_law 575 = .ok (.iload_n 3, 1) := by decide +kernel
theorem dL_law_576 : decode cL_law 576 = .ok (.iconst 1, 1) := by decide +kernel
theorem dL_law_577 : decode cL_law 577 = .ok (.iadd, 1) := by decide +kernel
theorem dL_law_578 : decode cL_law 578 = .ok (.iaload, 1) := by decide +kernel
theorem dL_law_579 : decode cL_law 579 = .ok (.invokevirtual 92, 3) := by decide +kernel
theorem dL_law_582 : decode cL_law 582 = .ok (.aload_n 2, 1) := by decide +kernel
theorem dL_law_583 : decode cL_law 583 = .ok (.aload_n 0, 1) := by decide +kernel
theorem dL_law_584 : decode cL_law 584 = .ok (.iload_n 3, 1) := by decide +kernel
theorem dL_law_585 : decode cL_law 585 = .ok (.iconst 1, 1) := by decide +kernel
theorem dL_law_586 : decode cL_law 586 = .ok (.iadd, 1) := by decide +kernel
theorem dL_law_587 : decode cL_law 587 = .ok (.iaload, 1) := by decide +kernel
theorem dL_law_588 : decode cL_law 588 = .ok (.invokevirtual 95, 3) := by decide +kernel
theorem dL_law_591 : decode cL_law 591 = .ok (.if_icmp .eq 206, 3) := by decide +kernel
theorem dL_law_594 : decode cL_law 594 = .ok (.iconst 0, 1) := by decide +kernel
theorem dL_law_595 : decode cL_law 595 = .ok (.ireturn, 1) := by decide +kernel
theorem dL_law_596 : decode cL_law 596 = .ok (.aload_n 1, 1) := by decide +kernel
theorem dL_law_597 : decode cL_law 597 = .ok (.aload_n 0, 1) := by decide +kernel
theorem dL_law_598 : decode cL_law 598 = .ok (.iload_n 3, 1) := by decide +kernel
theorem dL_law_599 : decode cL_law 599 = .ok (.iconst 1, 1) := by decide +kernel
theorem dL_law_600 : decode cL_law 600 = .ok (.iadd, 1) := by decide +kernel
theorem dL_law_601 : decode cL_law 601 = .ok (.iaload, 1) := by decide +kernel
theorem dL_law_602 : decode cL_law 602 = .ok (.aload_n 0, 1) := by decide +kernel
theorem dL_law_603 : decode cL_law 603 = .ok (.iload_n 3, 1) := by decide +kernel
theorem dL_law_604 : decode cL_law 604 = .ok (.iconst 2, 1) := by decide +kernel
theorem dL_law_605 : decode cL_law 605 = .ok (.iadd, 1) := by decide +kernel
theorem dL_law_606 : decode cL_law 606 = .ok (.iaload, 1) := by decide +kernel
theorem dL_law_607 : decode cL_law 607 = .ok (.invokevirtual 96, 3) := by decide +kernel
theorem dL_law_610 : decode cL_law 610 = .ok (.aload_n 2, 1) := by decide +kernel
theorem dL_law_611 : decode cL_law 611 = .ok (.aload_n 0, 1) := by decide +kernel
theorem dL_law_612 : decode cL_law 612 = .ok (.iload_n 3, 1) := by decide +kernel
theorem dL_law_613 : decode cL_law 613 = .ok (.iconst 1, 1) := by decide +kernel
theorem dL_law_614 : decode cL_law 614 = .ok (.iadd, 1) := by decide +kernel
theorem dL_law_615 : decode cL_law 615 = .ok (.iaload, 1) := by decide +kernel
theorem dL_law_616 : decode cL_law 616 = .ok (.aload_n 0, 1) := by decide +kernel
theorem dL_law_617 : decode cL_law 617 = .ok (.iload_n 3, 1) := by decide +kernel
theorem dL_law_618 : decode cL_law 618 = .ok (.iconst 2, 1) := by decide +kernel
theorem dL_law_619 : decode cL_law 619 = .ok (.iadd, 1) := by decide +kernel
theorem dL_law_620 : decode cL_law 620 = .ok (.iaload, 1) := by decide +kernel
theorem dL_law_621 : decode cL_law 621 = .ok (.invokevirtual 99, 3) := by decide +kernel
theorem dL_law_624 : decode cL_law 624 = .ok (.if_icmp .eq 173, 3) := by decide +kernel
theorem dL_law_627 : decode cL_law 627 = .ok (.iconst 0, 1) := by decide +kernel
theorem dL_law_628 : decode cL_law 628 = .ok (.ireturn, 1) := by decide +kernel
theorem dL_law_629 : decode cL_law 629 = .ok (.aload_n 1, 1) := by decide +kernel
theorem dL_law_630 : decode cL_law 630 = .ok (.aload_n 0, 1) := by decide +kernel
theorem dL_law_631 : decode cL_law 631 = .ok (.iload_n 3, 1) := by decide +kernel
theorem dL_law_632 : decode cL_law 632 = .ok (.iconst 1, 1) := by decide +kernel
theorem dL_law_633 : decode cL_law 633 = .ok (.iadd, 1) := by decide +kernel
theorem dL_law_634 : decode cL_law 634 = .ok (.iaload, 1) := by decide +kernel
theorem dL_law_635 : decode cL_law 635 = .ok (.invokevirtual 100, 3) := by decide +kernel
theorem dL_law_638 : decode cL_law 638 = .ok (.aload_n 2, 1) := by decide +kernel
theorem dL_law_639 : decode cL_law 639 = .ok (.aload_n 0, 1) := by decide +kernel
theorem dL_law_640 : decode cL_law 640 = .ok (.iload_n 3, 1) := by decide +kernel
theorem dL_law_641 : decode cL_law 641 = .ok (.iconst 1, 1) := by decide +kernel
theorem dL_law_642 : decode cL_law 642 = .ok (.iadd, 1) := by decide +kernel
theorem dL_law_643 : decode cL_law 643 = .ok (.iaload, 1) := by decide +kernel
theorem dL_law_644 : decode cL_law 644 = .ok (.invokevirtual 103, 3) := by decide +kernel
theorem dL_law_647 : decode cL_law 647 = .ok (.if_icmp .eq 150, 3) := by decide +kernel
theorem dL_law_650 : decode cL_law 650 = .ok (.iconst 0, 1) := by decide +kernel
theorem dL_law_651 : decode cL_law 651 = .ok (.ireturn, 1) := by decide +kernel
theorem dL_law_652 : decode cL_law 652 = .ok (.aload_n 1, 1) := by decide +kernel
theorem dL_law_653 : decode cL_law 653 = .ok (.aload_n 0, 1) := by decide +kernel
theorem dL_law_654 : decode cL_law 654 = .ok (.iload_n 3, 1) := by decide +kernel
theorem dL_law_655 : decode cL_law 655 = .ok (.iconst 1, 1) := by decide +kernel
theorem dL_law_656 : decode cL_law 656 = .ok (.iadd, 1) := by decide +kernel
theorem dL_law_657 : decode cL_law 657 = .ok (.iaload, 1) := by decide +kernel
theorem dL_law_658 : decode cL_law 658 = .ok (.aload_n 0, 1) := by decide +kernel
theorem dL_law_659 : decode cL_law 659 = .ok (.iload_n 3, 1) := by decide +kernel
theorem dL_law_660 : decode cL_law 660 = .ok (.iconst 2, 1) := by decide +kernel
theorem dL_law_661 : decode cL_law 661 = .ok (.iadd, 1) := by decide +kernel
theorem dL_law_662 : decode cL_law 662 = .ok (.iaload, 1) := by decide +kernel
theorem dL_law_663 : decode cL_law 663 = .ok (.aload_n 0, 1) := by decide +kernel
theorem dL_law_664 : decode cL_law 664 = .ok (.iload_n 3, 1) := by decide +kernel
theorem dL_law_665 : decode cL_law 665 = .ok (.iconst 3, 1) := by decide +kernel
theorem dL_law_666 : decode cL_law 666 = .ok (.iadd, 1) := by decide +kernel
theorem dL_law_667 : decode cL_law 667 = .ok (.iaload, 1) := by decide +kernel
theorem dL_law_668 : decode cL_law 668 = .ok (.aload_n 0, 1) := by decide +kernel
theorem dL_law_669 : decode cL_law 669 = .ok (.iload_n 3, 1) := by decide +kernel
theorem dL_law_670 : decode cL_law 670 = .ok (.iconst 4, 1) := by decide +kernel
theorem dL_law_671 : decode cL_law 671 = .ok (.iadd, 1) := by decide +kernel
theorem dL_law_672 : decode cL_law 672 = .ok (.iaload, 1) := by decide +kernel
theorem dL_law_673 : decode cL_law 673 = .ok (.invokevirtual 104, 3) := by decide +kernel
theorem dL_law_676 : decode cL_law 676 = .ok (.aload_n 2, 1) := by decide +kernel
theorem dL_law_677 : decode cL_law 677 = .ok (.aload_n 0, 1) := by decide +kernel
theorem dL_law_678 : decode cL_law 678 = .ok (.iload_n 3, 1) := by decide +kernel
theorem dL_law_679 : decode cL_law 679 = .ok (.iconst 1, 1) := by decide +kernel
theorem dL_law_680 : decode cL_law 680 = .ok (.iadd, 1) := by decide +kernel
theorem dL_law_681 : decode cL_law 681 = .ok (.iaload, 1) := by decide +kernel
theorem dL_law_682 : decode cL_law 682 = .ok (.aload_n 0, 1) := by decide +kernel
theorem dL_law_683 : decode cL_law 683 = .ok (.iload_n 3, 1) := by decide +kernel
theorem dL_law_684 : decode cL_law 684 = .ok (.iconst 2, 1) := by decide +kernel
theorem dL_law_685 : decode cL_law 685 = .ok (.iadd, 1) := by decide +kernel
theorem dL_law_686 : decode cL_law 686 = .ok (.iaload, 1) := by decide +kernel
theorem dL_law_687 : decode cL_law 687 = .ok (.aload_n 0, 1) := by decide +kernel
theorem dL_law_688 : decode cL_law 688 = .ok (.iload_n 3, 1) := by decide +kernel
theorem dL_law_689 : decode cL_law 689 = .ok (.iconst 3, 1) := by decide +kernel
theorem dL_law_690 : decode cL_law 690 = .ok (.iadd, 1) := by decide +kernel
theorem dL_law_691 : decode cL_law 691 = .ok (.iaload, 1) := by decide +kernel
theorem dL_law_692 : decode cL_law 692 = .ok (.aload_n 0, 1) := by decide +kernel
theorem dL_law_693 : decode cL_law 693 = .ok (.iload_n 3, 1) := by decide +kernel
theorem dL_law_694 : decode cL_law 694 = .ok (.iconst 4, 1) := by decide +kernel
theorem dL_law_695 : decode cL_law 695 = .ok (.iadd, 1) := by decide +kernel
theorem dL_law_696 : decode cL_law 696 = .ok (.iaload, 1) := by decide +kernel
theorem dL_law_697 : decode cL_law 697 = .ok (.invokevirtual 108, 3) := by decide +kernel
theorem dL_law_700 : decode cL_law 700 = .ok (.if_icmp .eq 97, 3) := by decide +kernel
theorem dL_law_703 : decode cL_law 703 = .ok (.iconst 0, 1) := by decide +kernel
theorem dL_law_704 : decode cL_law 704 = .ok (.ireturn, 1) := by decide +kernel
theorem dL_law_705 : decode cL_law 705 = .ok (.aload_n 1, 1) := by decide +kernel
theorem dL_law_706 : decode cL_law 706 = .ok (.aload_n 0, 1) := by decide +kernel
theorem dL_law_707 : decode cL_law 707 = .ok (.iload_n 3, 1) := by decide +kernel
theorem dL_law_708 : decode cL_law 708 = .ok (.iconst 1, 1) := by decide +kernel
theorem dL_law_709 : decode cL_law 709 = .ok (.iadd, 1) := by decide +kernel
theorem dL_law_710 : decode cL_law 710 = .ok (.iaload, 1) := by decide +kernel
theorem dL_law_711 : decode cL_law 711 = .ok (.aload_n 0, 1) := by decide +kernel
theorem dL_law_712 : decode cL_law 712 = .ok (.iload_n 3, 1) := by decide +kernel
theorem dL_law_713 : decode cL_law 713 = .ok (.iconst 2, 1) := by decide +kernel
theorem dL_law_714 : decode cL_law 714 = .ok (.iadd, 1) := by decide +kernel
theorem dL_law_715 : decode cL_law 715 = .ok (.iaload, 1) := by decide +kernel
theorem dL_law_716 : decode cL_law 716 = .ok (.aload_n 0, 1) := by decide +kernel
theorem dL_law_717 : decode cL_law 717 = .ok (.iload_n 3, 1) := by decide +kernel
theorem dL_law_718 : decode cL_law 718 = .ok (.iconst 3, 1) := by decide +kernel
theorem dL_law_719 : decode cL_law 719 = .ok (.iadd, 1) := by decide +kernel
theorem dL_law_720 : decode cL_law 720 = .ok (.iaload, 1) := by decide +kernel
theorem dL_law_721 : decode cL_law 721 = .ok (.invokevirtual 109, 3) := by decide +kernel
theorem dL_law_724 : decode cL_law 724 = .ok (.aload_n 2, 1) := by decide +kernel
theorem dL_law_725 : decode cL_law 725 = .ok (.aload_n 0, 1) := by decide +kernel
theorem dL_law_726 : decode cL_law 726 = .ok (.iload_n 3, 1) := by decide +kernel
theorem dL_law_727 : decode cL_law 727 = .ok (.iconst 1, 1) := by decide +kernel
theorem dL_law_728 : decode cL_law 728 = .ok (.iadd, 1) := by decide +kernel
theorem dL_law_729 : decode cL_law 729 = .ok (.iaload, 1) := by decide +kernel
theorem dL_law_730 : decode cL_law 730 = .ok (.aload_n 0, 1) := by decide +kernel
theorem dL_law_731 : decode cL_law 731 = .ok (.iload_n 3, 1) := by decide +kernel
theorem dL_law_732 : decode cL_law 732 = .ok (.iconst 2, 1) := by decide +kernel
theorem dL_law_733 : decode cL_law 733 = .ok (.iadd, 1) := by decide +kernel
theorem dL_law_734 : decode cL_law 734 = .ok (.iaload, 1) := by decide +kernel
theorem dL_law_735 : decode cL_law 735 = .ok (.aload_n 0, 1) := by decide +kernel
theorem dL_law_736 : decode cL_law 736 = .ok (.iload_n 3, 1) := by decide +kernel
theorem dL_law_737 : decode cL_law 737 = .ok (.iconst 3, 1) := by decide +kernel
theorem dL_law_738 : decode cL_law 738 = .ok (.iadd, 1) := by decide +kernel
theorem dL_law_739 : decode cL_law 739 = .ok (.iaload, 1) := by decide +kernel
theorem dL_law_740 : decode cL_law 740 = .ok (.invokevirtual 113, 3) := by decide +kernel
theorem dL_law_743 : decode cL_law 743 = .ok (.if_icmp .eq 54, 3) := by decide +kernel
theorem dL_law_746 : decode cL_law 746 = .ok (.iconst 0, 1) := by decide +kernel
theorem dL_law_747 : decode cL_law 747 = .ok (.ireturn, 1) := by decide +kernel
theorem dL_law_748 : decode cL_law 748 = .ok (.aload_n 1, 1) := by decide +kernel
theorem dL_law_749 : decode cL_law 749 = .ok (.invokevirtual 114, 3) := by decide +kernel
theorem dL_law_752 : decode cL_law 752 = .ok (.aload_n 2, 1) := by decide +kernel
theorem dL_law_753 : decode cL_law 753 = .ok (.invokevirtual 117, 3) := by decide +kernel
theorem dL_law_756 : decode cL_law 756 = .ok (.if_icmp .eq 41, 3) := by decide +kernel
theorem dL_law_759 : decode cL_law 759 = .ok (.iconst 0, 1) := by decide +kernel
theorem dL_law_760 : decode cL_law 760 = .ok (.ireturn, 1) := by decide +kernel
theorem dL_law_761 : decode cL_law 761 = .ok (.aload_n 1, 1) := by decide +kernel
theorem dL_law_762 : decode cL_law 762 = .ok (.invokevirtual 118, 3) := by decide +kernel
theorem dL_law_765 : decode cL_law 765 = .ok (.aload_n 2, 1) := by decide +kernel
theorem dL_law_766 : decode cL_law 766 = .ok (.invokevirtual 121, 3) := by decide +kernel
theorem dL_law_769 : decode cL_law 769 = .ok (.if_icmp .eq 28, 3) := by decide +kernel
theorem dL_law_772 : decode cL_law 772 = .ok (.iconst 0, 1) := by decide +kernel
theorem dL_law_773 : decode cL_law 773 = .ok (.ireturn, 1) := by decide +kernel
theorem dL_law_774 : decode cL_law 774 = .ok (.aload_n 1, 1) := by decide +kernel
theorem dL_law_775 : decode cL_law 775 = .ok (.aload_n 0, 1) := by decide +kernel
theorem dL_law_776 : decode cL_law 776 = .ok (.iload_n 3, 1) := by decide +kernel
theorem dL_law_777 : decode cL_law 777 = .ok (.iconst 1, 1) := by decide +kernel
theorem dL_law_778 : decode cL_law 778 = .ok (.iadd, 1) := by decide +kernel
theorem dL_law_779 : decode cL_law 779 = .ok (.iaload, 1) := by decide +kernel
theorem dL_law_780 : decode cL_law 780 = .ok (.invokevirtual 122, 3) := by decide +kernel
theorem dL_law_783 : decode cL_law 783 = .ok (.aload_n 2, 1) := by decide +kernel
theorem dL_law_784 : decode cL_law 784 = .ok (.aload_n 0, 1) := by decide +kernel
theorem dL_law_785 : decode cL_law 785 = .ok (.iload_n 3, 1) := by decide +kernel
theorem dL_law_786 : decode cL_law 786 = .ok (.iconst 1, 1) := by decide +kernel
theorem dL_law_787 : decode cL_law 787 = .ok (.iadd, 1) := by decide +kernel
theorem dL_law_788 : decode cL_law 788 = .ok (.iaload, 1) := by decide +kernel
theorem dL_law_789 : decode cL_law 789 = .ok (.invokevirtual 125, 3) := by decide +kernel
theorem dL_law_792 : decode cL_law 792 = .ok (.if_icmp .eq 5, 3) := by decide +kernel
theorem dL_law_795 : decode cL_law 795 = .ok (.iconst 0, 1) := by decide +kernel
theorem dL_law_796 : decode cL_law 796 = .ok (.ireturn, 1) := by decide +kernel
theorem dL_law_797 : decode cL_law 797 = .ok (.iinc 3 5, 3) := by decide +kernel
theorem dL_law_800 : decode cL_law 800 = .ok (.goto (-782), 3) := by decide +kernel
theorem dL_law_803 : decode cL_law 803 = .ok (.iconst 1, 1) := by decide +kernel
theorem dL_law_804 : decode cL_law 804 = .ok (.ireturn, 1) := by decide +kernel
