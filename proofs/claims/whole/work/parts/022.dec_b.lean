theorem dX5_init_0 : decode cX5_init 0 = .ok (.aload_n 0, 1) := by decide +kernel
theorem dX5_init_1 : decode cX5_init 1 = .ok (.invokespecial 3, 3) := by decide +kernel
theorem dX5_init_4 : decode cX5_init 4 = .ok (.aload_n 0, 1) := by decide +kernel
theorem dX5_init_5 : decode cX5_init 5 = .ok (.bipush 7, 2) := by decide +kernel
theorem dX5_init_7 : decode cX5_init 7 = .ok (.newarray .int, 2) := by decide +kernel
theorem dX5_init_9 : decode cX5_init 9 = .ok (.putfield 9, 3) := by decide +kernel
theorem dX5_init_12 : decode cX5_init 12 = .ok (.aload_n 0, 1) := by decide +kernel
theorem dX5_init_13 : decode cX5_init 13 = .ok (.bipush 7, 2) := by decide +kernel
theorem dX5_init_15 : decode cX5_init 15 = .ok (.newarray .int, 2) := by decide +kernel
theorem dX5_init_17 : decode cX5_init 17 = .ok (.putfield 15, 3) := by decide +kernel
theorem dX5_init_20 : decode cX5_init 20 = .ok (.aload_n 0, 1) := by decide +kernel
theorem dX5_init_21 : decode cX5_init 21 = .ok (.bipush 7, 2) := by decide +kernel
theorem dX5_init_23 : decode cX5_init 23 = .ok (.newarray .int, 2) := by decide +kernel
theorem dX5_init_25 : decode cX5_init 25 = .ok (.putfield 18, 3) := by decide +kernel
theorem dX5_init_28 : decode cX5_init 28 = .ok (.return_, 1) := by decide +kernel
theorem dX5_isThere_0 : decode cX5_isThere 0 = .ok (.aload_n 0, 1) := by decide +kernel
theorem dX5_isThere_1 : decode cX5_isThere 1 = .ok (.getfield 21, 3) := by decide +kernel
theorem dX5_isThere_4 : decode cX5_isThere 4 = .ok (.ifCond .le 7, 3) := by decide +kernel
theorem dX5_isThere_7 : decode cX5_isThere 7 = .ok (.iconst 1, 1) := by decide +kernel
theorem dX5_isThere_8 : decode cX5_isThere 8 = .ok (.goto 4, 3) := by decide +kernel
theorem dX5_isThere_11 : decode cX5_isThere 11 = .ok (.iconst 0, 1) := by decide +kernel
theorem dX5_isThere_12 : decode cX5_isThere 12 = .ok (.ireturn, 1) := by decide +kernel
theorem dX5_has_0 : decode cX5_has 0 = .ok (.iload_n 1, 1) := by decide +kernel
theorem dX5_has_1 : decode cX5_has 1 = .ok (.ifCond .lt 15, 3) := by decide +kernel
theorem dX5_has_4 : decode cX5_has 4 = .ok (.iload_n 1, 1) := by decide +kernel
theorem dX5_has_5 : decode cX5_has 5 = .ok (.aload_n 0, 1) := by decide +kernel
theorem dX5_has_6 : decode cX5_has 6 = .ok (.getfield 21, 3) := by decide +kernel
theorem dX5_has_9 : decode cX5_has 9 = .ok (.if_icmp .ge 7, 3) := by decide +kernel
theorem dX5_has_12 : decode cX5_has 12 = .ok (.iconst 1, 1) := by decide +kernel
theorem dX5_has_13 : decode cX5_has 13 = .ok (.goto 4, 3) := by decide +kernel
theorem dX5_has_16 : decode cX5_has 16 = .ok (.iconst 0, 1) := by decide +kernel
theorem dX5_has_17 : decode cX5_has 17 = .ok (.ireturn, 1) := by decide +kernel
theorem dX5_clear_0 : decode cX5_clear 0 = .ok (.aload_n 0, 1) := by decide +kernel
theorem dX5_clear_1 : decode cX5_clear 1 = .ok (.iconst 0, 1) := by decide +kernel
theorem dX5_clear_2 : decode cX5_clear 2 = .ok (.putfield 21, 3) := by decide +kernel
theorem dX5_clear_5 : decode cX5_clear 5 = .ok (.aload_n 0, 1) := by decide +kernel
theorem dX5_clear_6 : decode cX5_clear 6 = .ok (.iconst 2, 1) := by decide +kernel
theorem dX5_clear_7 : decode cX5_clear 7 = .ok (.putfield 25, 3) := by decide +kernel
theorem dX5_clear_10 : decode cX5_clear 10 = .ok (.aload_n 0, 1) := by decide +kernel
theorem dX5_clear_11 : decode cX5_clear 11 = .ok (.iconst 1, 1) := by decide +kernel
theorem dX5_clear_12 : decode cX5_clear 12 = .ok (.putfield 28, 3) := by decide +kernel
theorem dX5_clear_15 : decode cX5_clear 15 = .ok (.aload_n 0, 1) := by decide +kernel
theorem dX5_clear_16 : decode cX5_clear 16 = .ok (.iconst 4, 1) := by decide +kernel
theorem dX5_clear_17 : decode cX5_clear 17 = .ok (.putfield 31, 3) := by decide +kernel
theorem dX5_clear_20 : decode cX5_clear 20 = .ok (.aload_n 0, 1) := by decide +kernel
theorem dX5_clear_21 : decode cX5_clear 21 = .ok (.bipush 20, 2) := by decide +kernel
theorem dX5_clear_23 : decode cX5_clear 23 = .ok (.putfield 34, 3) := by decide +kernel
theorem dX5_clear_26 : decode cX5_clear 26 = .ok (.return_, 1) := by decide +kernel
theorem dX5_addEnd_0 : decode cX5_addEnd 0 = .ok (.aload_n 0, 1) := by decide +kernel
theorem dX5_addEnd_1 : decode cX5_addEnd 1 = .ok (.getfield 21, 3) := by decide +kernel
theorem dX5_addEnd_4 : decode cX5_addEnd 4 = .ok (.bipush 7, 2) := by decide +kernel
theorem dX5_addEnd_6 : decode cX5_addEnd 6 = .ok (.if_icmp .ge 44, 3) := by decide +kernel
theorem dX5_addEnd_9 : decode cX5_addEnd 9 = .ok (.aload_n 0, 1) := by decide +kernel
theorem dX5_addEnd_10 : decode cX5_addEnd 10 = .ok (.getfield 9, 3) := by decide +kernel
theorem dX5_addEnd_13 : decode cX5_addEnd 13 = .ok (.aload_n 0, 1) := by decide +kernel
theorem dX5_addEnd_14 : decode cX5_addEnd 14 = .ok (.getfield 21, 3) := by decide +kernel
theorem dX5_addEnd_17 : decode cX5_addEnd 17 = .ok (.bipush 10, 2) := by decide +kernel
theorem dX5_addEnd_19 : decode cX5_addEnd 19 = .ok (.iastore, 1) := by decide +kernel
theorem dX5_addEnd_20 : decode cX5_addEnd 20 = .ok (.aload_n 0, 1) := by decide +kernel
theorem dX5_addEnd_21 : decode cX5_addEnd 21 = .ok (.getfield 15, 3) := by decide +kernel
theorem dX5_addEnd_24 : decode cX5_addEnd 24 = .ok (.aload_n 0, 1) := by decide +kernel
theorem dX5_addEnd_25 : decode cX5_addEnd 25 = .ok (.getfield 21, 3) := by decide +kernel
theorem dX5_addEnd_28 : decode cX5_addEnd 28 = .ok (.iconst 2, 1) := by decide +kernel
theorem dX5_addEnd_29 : decode cX5_addEnd 29 = .ok (.iastore, 1) := by decide +kernel
theorem dX5_addEnd_30 : decode cX5_addEnd 30 = .ok (.aload_n 0, 1) := by decide +kernel
theorem dX5_addEnd_31 : decode cX5_addEnd 31 = .ok (.getfield 18, 3) := by decide +kernel
theorem dX5_addEnd_34 : decode cX5_addEnd 34 = .ok (.aload_n 0, 1) := by decide +kernel
theorem dX5_addEnd_35 : decode cX5_addEnd 35 = .ok (.getfield 21, 3) := by decide +kernel
theorem dX5_addEnd_38 : decode cX5_addEnd 38 = .ok (.iconst 5, 1) := by decide +kernel
theorem dX5_addEnd_39 : decode cX5_addEnd 39 = .ok (.iastore, 1) := by decide +kernel
theorem dX5_addEnd_40 : decode cX5_addEnd 40 = .ok (.aload_n 0, 1) := by decide +kernel
theorem dX5_addEnd_41 : decode cX5_addEnd 41 = .ok (.dup, 1) := by decide +kernel
theorem dX5_addEnd_42 : decode cX5_addEnd 42 = .ok (.getfield 21, 3) := by decide +kernel
theorem dX5_addEnd_45 : decode cX5_addEnd 45 = .ok (.iconst 1, 1) := by decide +kernel
theorem dX5_addEnd_46 : decode cX5_addEnd 46 = .ok (.iadd, 1) := by decide +kernel
theorem dX5_addEnd_47 : decode cX5_addEnd 47 = .ok (.putfield 21, 3) := by decide +kernel
theorem dX5_addEnd_50 : decode cX5_addEnd 50 = .ok (.return_, 1) := by decide +kernel
theorem dX5_copyFrom_0 : decode cX5_copyFrom 0 = .ok (.aload_n 0, 1) := by decide +kernel
theorem dX5_copyFrom_1 : decode cX5_copyFrom 1 = .ok (.aload_n 1, 1) := by decide +kernel
theorem dX5_copyFrom_2 : decode cX5_copyFrom 2 = .ok (.getfield 21, 3) := by decide +kernel
theorem dX5_copyFrom_5 : decode cX5_copyFrom 5 = .ok (.putfield 21, 3) := by decide +kernel
theorem dX5_copyFrom_8 : decode cX5_copyFrom 8 = .ok (.aload_n 0, 1) := by decide +kernel
theorem dX5_copyFrom_9 : decode cX5_copyFrom 9 = .ok (.aload_n 1, 1) := by decide +kernel
theorem dX5_copyFrom_10 : decode cX5_copyFrom 10 = .ok (.getfield 25, 3) := by decide +kernel
theorem dX5_copyFrom_13 : decode cX5_copyFrom 13 = .ok (.putfield 25, 3) := by decide +kernel
theorem dX5_copyFrom_16 : decode cX5_copyFrom 16 = .ok (.aload_n 0, 1) := by decide +kernel
theorem dX5_copyFrom_17 : decode cX5_copyFrom 17 = .ok (.aload_n 1, 1) := by decide +kernel
theorem dX5_copyFrom_18 : decode cX5_copyFrom 18 = .ok (.getfield 28, 3) := by decide +kernel
theorem dX5_copyFrom_21 : decode cX5_copyFrom 21 = .ok (.putfield 28, 3) := by decide +kernel
theorem dX5_copyFrom_24 : decode cX5_copyFrom 24 = .ok (.aload_n 0, 1) := by decide +kernel
theorem dX5_copyFrom_25 : decode cX5_copyFrom 25 = .ok (.aload_n 1, 1) := by decide +kernel
theorem dX5_copyFrom_26 : decode cX5_copyFrom 26 = .ok (.getfield 31, 3) := by decide +kernel
theorem dX5_copyFrom_29 : decode cX5_copyFrom 29 = .ok (.putfield 31, 3) := by decide +kernel
theorem dX5_copyFrom_32 : decode cX5_copyFrom 32 = .ok (.aload_n 0, 1) := by decide +kernel
theorem dX5_copyFrom_33 : decode cX5_copyFrom 33 = .ok (.aload_n 1, 1) := by decide +kernel
theorem dX5_copyFrom_34 : decode cX5_copyFrom 34 = .ok (.getfield 34, 3) := by decide +kernel
theorem dX5_copyFrom_37 : decode cX5_copyFrom 37 = .ok (.putfield 34, 3) := by decide +kernel
theorem dX5_copyFrom_40 : decode cX5_copyFrom 40 = .ok (.aload_n 1, 1) := by decide +kernel
theorem dX5_copyFrom_41 : decode cX5_copyFrom 41 = .ok (.getfield 9, 3) := by decide +kernel
theorem dX5_copyFrom_44 : decode cX5_copyFrom 44 = .ok (.iconst 0, 1) := by decide +kernel
theorem dX5_copyFrom_45 : decode cX5_copyFrom 45 = .ok (.aload_n 0, 1) := by decide +kernel
theorem dX5_copyFrom_46 : decode cX5_copyFrom 46 = .ok (.getfield 9, 3) := by decide +kernel
theorem dX5_copyFrom_49 : decode cX5_copyFrom 49 = .ok (.iconst 0, 1) := by decide +kernel
theorem dX5_copyFrom_50 : decode cX5_copyFrom 50 = .ok (.bipush 7, 2) := by decide +kernel
theorem dX5_copyFrom_52 : decode cX5_copyFrom 52 = .ok (.invokestatic 37, 3) := by decide +kernel
theorem dX5_copyFrom_55 : decode cX5_copyFrom 55 = .ok (.aload_n 1, 1) := by decide +kernel
theorem dX5_copyFrom_56 : decode cX5_copyFrom 56 = .ok (.getfield 15, 3) := by decide +kernel
theorem dX5_copyFrom_59 : decode cX5_copyFrom 59 = .ok (.iconst 0, 1) := by decide +kernel
theorem dX5_copyFrom_60 : decode cX5_copyFrom 60 = .ok (.aload_n 0, 1) := by decide +kernel
theorem dX5_copyFrom_61 : decode cX5_copyFrom 61 = .ok (.getfield 15, 3) := by decide +kernel
theorem dX5_copyFrom_64 : decode cX5_copyFrom 64 = .ok (.iconst 0, 1) := by decide +kernel
theorem dX5_copyFrom_65 : decode cX5_copyFrom 65 = .ok (.bipush 7, 2) := by decide +kernel
theorem dX5_copyFrom_67 : decode cX5_copyFrom 67 = .ok (.invokestatic 37, 3) := by decide +kernel
theorem dX5_copyFrom_70 : decode cX5_copyFrom 70 = .ok (.aload_n 1, 1) := by decide +kernel
theorem dX5_copyFrom_71 : decode cX5_copyFrom 71 = .ok (.getfield 18, 3) := by decide +kernel
theorem dX5_copyFrom_74 : decode cX5_copyFrom 74 = .ok (.iconst 0, 1) := by decide +kernel
theorem dX5_copyFrom_75 : decode cX5_copyFrom 75 = .ok (.aload_n 0, 1) := by decide +kernel
theorem dX5_copyFrom_76 : decode cX5_copyFrom 76 = .ok (.getfield 18, 3) := by decide +kernel
theorem dX5_copyFrom_79 : decode cX5_copyFrom 79 = .ok (.iconst 0, 1) := by decide +kernel
theorem dX5_copyFrom_80 : decode cX5_copyFrom 80 = .ok (.bipush 7, 2) := by decide +kernel
theorem dX5_copyFrom_82 : decode cX5_copyFrom 82 = .ok (.invokestatic 37, 3) := by decide +kernel
theorem dX5_copyFrom_85 : decode cX5_copyFrom 85 = .ok (.return_, 1) := by decide +kernel
theorem dX6_init_0 : decode cX6_init 0 = .ok (.aload_n 0, 1) := by decide +kernel
theorem dX6_init_1 : decode cX6_init 1 = .ok (.invokespecial 3, 3) := by decide +kernel
theorem dX6_init_4 : decode cX6_init 4 = .ok (.aload_n 0, 1) := by decide +kernel
theorem dX6_init_5 : decode cX6_init 5 = .ok (.new 9, 3) := by decide +kernel
theorem dX6_init_8 : decode cX6_init 8 = .ok (.dup, 1) := by decide +kernel
theorem dX6_init_9 : decode cX6_init 9 = .ok (.invokespecial 11, 3) := by decide +kernel
theorem dX6_init_12 : decode cX6_init 12 = .ok (.putfield 12, 3) := by decide +kernel
theorem dX6_init_15 : decode cX6_init 15 = .ok (.aload_n 0, 1) := by decide +kernel
theorem dX6_init_16 : decode cX6_init 16 = .ok (.aload_n 1, 1) := by decide +kernel
theorem dX6_init_17 : decode cX6_init 17 = .ok (.putfield 18, 3) := by decide +kernel
theorem dX6_init_20 : decode cX6_init 20 = .ok (.return_, 1) := by decide +kernel
theorem dX6_read_0 : decode cX6_read 0 = .ok (.iconst 0, 1) := by decide +kernel
theorem dX6_read_1 : decode cX6_read 1 = .ok (.istore_n 1, 1) := by decide +kernel
theorem dX6_read_2 : decode cX6_read 2 = .ok (.aload_n 0, 1) := by decide +kernel
theorem dX6_read_3 : decode cX6_read 3 = .ok (.getfield 12, 3) := by decide +kernel
theorem dX6_read_6 : decode cX6_read 6 = .ok (.invokevirtual 22, 3) := by decide +kernel
theorem dX6_read_9 : decode cX6_read 9 = .ok (.aload_n 0, 1) := by decide +kernel
theorem dX6_read_10 : decode cX6_read 10 = .ok (.getfield 18, 3) := by decide +kernel
theorem dX6_read_13 : decode cX6_read 13 = .ok (.iconst 0, 1) := by decide +kernel
theorem dX6_read_14 : decode cX6_read 14 = .ok (.putfield 25, 3) := by decide +kernel
theorem dX6_read_17 : decode cX6_read 17 = .ok (.iconst 0, 1) := by decide +kernel
theorem dX6_read_18 : decode cX6_read 18 = .ok (.istore_n 2, 1) := by decide +kernel
theorem dX6_read_19 : decode cX6_read 19 = .ok (.iload_n 2, 1) := by decide +kernel
theorem dX6_read_20 : decode cX6_read 20 = .ok (.sipush 240, 3) := by decide +kernel
theorem dX6_read_23 : decode cX6_read 23 = .ok (.if_icmp .gt 151, 3) := by decide +kernel
theorem dX6_read_26 : decode cX6_read 26 = .ok (.aload_n 0, 1) := by decide +kernel
theorem dX6_read_27 : decode cX6_read 27 = .ok (.getfield 18, 3) := by decide +kernel
theorem dX6_read_30 : decode cX6_read 30 = .ok (.invokevirtual 31, 3) := by decide +kernel
theorem dX6_read_33 : decode cX6_read 33 = .ok (.istore_n 3, 1) := by decide +kernel
theorem dX6_read_34 : decode cX6_read 34 = .ok (.iload_n 3, 1) := by decide +kernel
theorem dX6_read_35 : decode cX6_read 35 = .ok (.bipush 115, 2) := by decide +kernel
theorem dX6_read_37 : decode cX6_read 37 = .ok (.if_icmp .ne 12, 3) := by decide +kernel
theorem dX6_read_40 : decode cX6_read 40 = .ok (.iload_n 1, 1) := by decide +kernel
theorem dX6_read_41 : decode cX6_read 41 = .ok (.ifCond .ne 8, 3) := by decide +kernel
theorem dX6_read_44 : decode cX6_read 44 = .ok (.iconst 1, 1) := by decide +kernel
theorem dX6_read_45 : decode cX6_read 45 = .ok (.istore_n 1, 1) := by decide +kernel
theorem dX6_read_46 : decode cX6_read 46 = .ok (.goto 39, 3) := by decide +kernel
theorem dX6_read_49 : decode cX6_read 49 = .ok (.iload_n 3, 1) := by decide +kernel
theorem dX6_read_50 : decode cX6_read 50 = .ok (.bipush 116, 2) := by decide +kernel
theorem dX6_read_52 : decode cX6_read 52 = .ok (.if_icmp .ne 25, 3) := by decide +kernel
theorem dX6_read_55 : decode cX6_read 55 = .ok (.aload_n 0, 1) := by decide +kernel
theorem dX6_read_56 : decode cX6_read 56 = .ok (.getfield 12, 3) := by decide +kernel
theorem dX6_read_59 : decode cX6_read 59 = .ok (.getfield 35, 3) := by decide +kernel
theorem dX6_read_62 : decode cX6_read 62 = .ok (.bipush 7, 2) := by decide +kernel
theorem dX6_read_64 : decode cX6_read 64 = .ok (.if_icmp .ge 13, 3) := by decide +kernel
theorem dX6_read_67 : decode cX6_read 67 = .ok (.aload_n 0, 1) := by decide +kernel
theorem dX6_read_68 : decode cX6_read 68 = .ok (.getfield 12, 3) := by decide +kernel
theorem dX6_read_71 : decode cX6_read 71 = .ok (.invokevirtual 38, 3) := by decide +kernel
theorem dX6_read_74 : decode cX6_read 74 = .ok (.goto 11, 3) := by decide +kernel
theorem dX6_read_77 : decode cX6_read 77 = .ok (.aload_n 0, 1) := by decide +kernel
theorem dX6_read_78 : decode cX6_read 78 = .ok (.getfield 18, 3) := by decide +kernel
theorem dX6_read_81 : decode cX6_read 81 = .ok (.getfield 25, 3) := by decide +kernel
theorem dX6_read_84 : decode cX6_read 84 = .ok (.ireturn, 1) := by decide +kernel
theorem dX6_read_85 : decode cX6_read 85 = .ok (.aload_n 0, 1) := by decide +kernel
theorem dX6_read_86 : decode cX6_read 86 = .ok (.getfield 18, 3) := by decide +kernel
theorem dX6_read_89 : decode cX6_read 89 = .ok (.dup, 1) := by decide +kernel
theorem dX6_read_90 : decode cX6_read 90 = .ok (.getfield 25, 3) := by decide +kernel
theorem dX6_read_93 : decode cX6_read 93 = .ok (.iconst 1, 1) := by decide +kernel
theorem dX6_read_94 : decode cX6_read 94 = .ok (.iadd, 1) := by decide +kernel
theorem dX6_read_95 : decode cX6_read 95 = .ok (.putfield 25, 3) := by decide +kernel
theorem dX6_read_98 : decode cX6_read 98 = .ok (.aload_n 0, 1) := by decide +kernel
theorem dX6_read_99 : decode cX6_read 99 = .ok (.iload_n 3, 1) := by decide +kernel
theorem dX6_read_100 : decode cX6_read 100 = .ok (.invokevirtual 41, 3) := by decide +kernel
theorem dX6_read_103 : decode cX6_read 103 = .ok (.ifCond .ne 11, 3) := by decide +kernel
theorem dX6_read_106 : decode cX6_read 106 = .ok (.aload_n 0, 1) := by decide +kernel
theorem dX6_read_107 : decode cX6_read 107 = .ok (.getfield 18, 3) := by decide +kernel
theorem dX6_read_110 : decode cX6_read 110 = .ok (.getfield 25, 3) := by decide +kernel
theorem dX6_read_113 : decode cX6_read 113 = .ok (.ireturn, 1) := by decide +kernel
theorem dX6_read_114 : decode cX6_read 114 = .ok (.aload_n 0, 1) := by decide +kernel
theorem dX6_read_115 : decode cX6_read 115 = .ok (.getfield 18, 3) := by decide +kernel
theorem dX6_read_118 : decode cX6_read 118 = .ok (.invokevirtual 31, 3) := by decide +kernel
theorem dX6_read_121 : decode cX6_read 121 = .ok (.iconst (-1), 1) := by decide +kernel
theorem dX6_read_122 : decode cX6_read 122 = .ok (.if_icmp .ne 26, 3) := by decide +kernel
theorem dX6_read_125 : decode cX6_read 125 = .ok (.aload_n 0, 1) := by decide +kernel
theorem dX6_read_126 : decode cX6_read 126 = .ok (.getfield 12, 3) := by decide +kernel
theorem dX6_read_129 : decode cX6_read 129 = .ok (.getfield 35, 3) := by decide +kernel
theorem dX6_read_132 : decode cX6_read 132 = .ok (.iconst 2, 1) := by decide +kernel
theorem dX6_read_133 : decode cX6_read 133 = .ok (.if_icmp .ge 13, 3) := by decide +kernel
theorem dX6_read_136 : decode cX6_read 136 = .ok (.aload_n 0, 1) := by decide +kernel
theorem dX6_read_137 : decode cX6_read 137 = .ok (.getfield 18, 3) := by decide +kernel
theorem dX6_read_140 : decode cX6_read 140 = .ok (.getfield 25, 3) := by decide +kernel
theorem dX6_read_143 : decode cX6_read 143 = .ok (.goto 4, 3) := by decide +kernel
theorem dX6_read_146 : decode cX6_read 146 = .ok (.iconst (-1), 1) := by decide +kernel
theorem dX6_read_147 : decode cX6_read 147 = .ok (.ireturn, 1) := by decide +kernel
theorem dX6_read_148 : decode cX6_read 148 = .ok (.aload_n 0, 1) := by decide +kernel
theorem dX6_read_149 : decode cX6_read 149 = .ok (.getfield 18, 3) := by decide +kernel
theorem dX6_read_152 : decode cX6_read 152 = .ok (.bipush 59, 2) := by decide +kernel
theorem dX6_read_154 : decode cX6_read 154 = .ok (.invokevirtual 45, 3) := by decide +kernel
theorem dX6_read_157 : decode cX6_read 157 = .ok (.ifCond .ne 11, 3) := by decide +kernel
theorem dX6_read_160 : decode cX6_read 160 = .ok (.aload_n 0, 1) := by decide +kernel
theorem dX6_read_161 : decode cX6_read 161 = .ok (.getfield 18, 3) := by decide +kernel
theorem dX6_read_164 : decode cX6_read 164 = .ok (.getfield 25, 3) := by decide +kernel
theorem dX6_read_167 : decode cX6_read 167 = .ok (.ireturn, 1) := by decide +kernel
theorem dX6_read_168 : decode cX6_read 168 = .ok (.iinc 2 1, 3) := by decide +kernel
theorem dX6_read_171 : decode cX6_read 171 = .ok (.goto (-152), 3) := by decide +kernel
theorem dX6_read_174 : decode cX6_read 174 = .ok (.aload_n 0, 1) := by decide +kernel
theorem dX6_read_175 : decode cX6_read 175 = .ok (.getfield 18, 3) := by decide +kernel
theorem dX6_read_178 : decode cX6_read 178 = .ok (.getfield 25, 3) := by decide +kernel
theorem dX6_read_181 : decode cX6_read 181 = .ok (.ireturn, 1) := by decide +kernel
theorem dX6_readItems_0 : decode cX6_readItems 0 = .ok (.iconst 0, 1) := by decide +kernel
theorem dX6_readItems_1 : decode cX6_readItems 1 = .ok (.istore_n 2, 1) := by decide +kernel
theorem dX6_readItems_2 : decode cX6_readItems 2 = .ok (.iconst 0, 1) := by decide +kernel
theorem dX6_readItems_3 : decode cX6_readItems 3 = .ok (.istore_n 3, 1) := by decide +kernel
theorem dX6_readItems_4 : decode cX6_readItems 4 = .ok (.iload_n 3, 1) := by decide +kernel
theorem dX6_readItems_5 : decode cX6_readItems 5 = .ok (.getstatic 48, 3) := by decide +kernel
theorem dX6_readItems_8 : decode cX6_readItems 8 = .ok (.arraylength, 1) := by decide +kernel
theorem dX6_readItems_9 : decode cX6_readItems 9 = .ok (.if_icmp .gt 73, 3) := by decide +kernel
theorem dX6_readItems_12 : decode cX6_readItems 12 = .ok (.iload_n 1, 1) := by decide +kernel
theorem dX6_readItems_13 : decode cX6_readItems 13 = .ok (.aload_n 0, 1) := by decide +kernel
theorem dX6_readItems_14 : decode cX6_readItems 14 = .ok (.getfield 18, 3) := by decide +kernel
theorem dX6_readItems_17 : decode cX6_readItems 17 = .ok (.invokevirtual 31, 3) := by decide +kernel
theorem dX6_readItems_20 : decode cX6_readItems 20 = .ok (.invokestatic 52, 3) := by decide +kernel
theorem dX6_readItems_23 : decode cX6_readItems 23 = .ok (.istore 4, 2) := by decide +kernel
theorem dX6_readItems_25 : decode cX6_readItems 25 = .ok (.iload 4, 2) := by decide +kernel
theorem dX6_readItems_27 : decode cX6_readItems 27 = .ok (.iconst (-1), 1) := by decide +kernel
theorem dX6_readItems_28 : decode cX6_readItems 28 = .ok (.if_icmp .ne 5, 3) := by decide +kernel
theorem dX6_readItems_31 : decode cX6_readItems 31 = .ok (.iconst 1, 1) := by decide +kernel
theorem dX6_readItems_32 : decode cX6_readItems 32 = .ok (.ireturn, 1) := by decide +kernel
theorem dX6_readItems_33 : decode cX6_readItems 33 = .ok (.iload_n 2, 1) := by decide +kernel
theorem dX6_readItems_34 : decode cX6_readItems 34 = .ok (.iload 4, 2) := by decide +kernel
theorem dX6_readItems_36 : decode cX6_readItems 36 = .ok (.ishr, 1) := by decide +kernel
theorem dX6_readItems_37 : decode cX6_readItems 37 = .ok (.iconst 1, 1) := by decide +kernel
theorem dX6_readItems_38 : decode cX6_readItems 38 = .ok (.iand, 1) := by decide +kernel
theorem dX6_readItems_39 : decode cX6_readItems 39 = .ok (.iconst 1, 1) := by decide +kernel
theorem dX6_readItems_40 : decode cX6_readItems 40 = .ok (.if_icmp .ne 5, 3) := by decide +kernel
theorem dX6_readItems_43 : decode cX6_readItems 43 = .ok (.iconst 0, 1) := by decide +kernel
theorem dX6_readItems_44 : decode cX6_readItems 44 = .ok (.ireturn, 1) := by decide +kernel
theorem dX6_readItems_45 : decode cX6_readItems 45 = .ok (.iload_n 2, 1) := by decide +kernel
theorem dX6_readItems_46 : decode cX6_readItems 46 = .ok (.iconst 1, 1) := by decide +kernel
theorem dX6_readItems_47 : decode cX6_readItems 47 = .ok (.iload 4, 2) := by decide +kernel
theorem dX6_readItems_49 : decode cX6_readItems 49 = .ok (.ishl, 1) := by decide +kernel
theorem dX6_readItems_50 : decode cX6_readItems 50 = .ok (.ior, 1) := by decide +kernel
theorem dX6_readItems_51 : decode cX6_readItems 51 = .ok (.istore_n 2, 1) := by decide +kernel
theorem dX6_readItems_52 : decode cX6_readItems 52 = .ok (.aload_n 0, 1) := by decide +kernel
theorem dX6_readItems_53 : decode cX6_readItems 53 = .ok (.getfield 18, 3) := by decide +kernel
theorem dX6_readItems_56 : decode cX6_readItems 56 = .ok (.dup, 1) := by decide +kernel
theorem dX6_readItems_57 : decode cX6_readItems 57 = .ok (.getfield 25, 3) := by decide +kernel
theorem dX6_readItems_60 : decode cX6_readItems 60 = .ok (.iconst 1, 1) := by decide +kernel
theorem dX6_readItems_61 : decode cX6_readItems 61 = .ok (.iadd, 1) := by decide +kernel
theorem dX6_readItems_62 : decode cX6_readItems 62 = .ok (.putfield 25, 3) := by decide +kernel
theorem dX6_readItems_65 : decode cX6_readItems 65 = .ok (.aload_n 0, 1) := by decide +kernel
theorem dX6_readItems_66 : decode cX6_readItems 66 = .ok (.iload 4, 2) := by decide +kernel
theorem dX6_readItems_68 : decode cX6_readItems 68 = .ok (.invokevirtual 56, 3) := by decide +kernel
theorem dX6_readItems_71 : decode cX6_readItems 71 = .ok (.ifCond .ne 5, 3) := by decide +kernel
theorem dX6_readItems_74 : decode cX6_readItems 74 = .ok (.iconst 0, 1) := by decide +kernel
theorem dX6_readItems_75 : decode cX6_readItems 75 = .ok (.ireturn, 1) := by decide +kernel
theorem dX6_readItems_76 : decode cX6_readItems 76 = .ok (.iinc 3 1, 3) := by decide +kernel
theorem dX6_readItems_79 : decode cX6_readItems 79 = .ok (.goto (-75), 3) := by decide +kernel
theorem dX6_readItems_82 : decode cX6_readItems 82 = .ok (.iconst 1, 1) := by decide +kernel
theorem dX6_readItems_83 : decode cX6_readItems 83 = .ok (.ireturn, 1) := by decide +kernel
theorem dX6_itemOf_0 : decode cX6_itemOf 0 = .ok (.iload_n 0, 1) := by decide +kernel
theorem dX6_itemOf_1 : decode cX6_itemOf 1 = .ok (.bipush 115, 2) := by decide +kernel
theorem dX6_itemOf_3 : decode cX6_itemOf 3 = .ok (.if_icmp .ne 55, 3) := by decide +kernel
theorem dX6_itemOf_6 : decode cX6_itemOf 6 = .ok (.iload_n 1, 1) := by decide +kernel
theorem dX6_itemOf_7 : decode cX6_itemOf 7 = .ok (.tableswitch 49 101 107 #[41, 43, 45, 49, 49, 49, 47], 41) := by decide +kernel
theorem dX6_itemOf_48 : decode cX6_itemOf 48 = .ok (.iconst 0, 1) := by decide +kernel
theorem dX6_itemOf_49 : decode cX6_itemOf 49 = .ok (.ireturn, 1) := by decide +kernel
theorem dX6_itemOf_50 : decode cX6_itemOf 50 = .ok (.iconst 1, 1) := by decide +kernel
theorem dX6_itemOf_51 : decode cX6_itemOf 51 = .ok (.ireturn, 1) := by decide +kernel
theorem dX6_itemOf_52 : decode cX6_itemOf 52 = .ok (.iconst 2, 1) := by decide +kernel
theorem dX6_itemOf_53 : decode cX6_itemOf 53 = .ok (.ireturn, 1) := by decide +kernel
theorem dX6_itemOf_54 : decode cX6_itemOf 54 = .ok (.iconst 3, 1) := by decide +kernel
theorem dX6_itemOf_55 : decode cX6_itemOf 55 = .ok (.ireturn, 1) := by decide +kernel
theorem dX6_itemOf_56 : decode cX6_itemOf 56 = .ok (.iconst (-1), 1) := by decide +kernel
theorem dX6_itemOf_57 : decode cX6_itemOf 57 = .ok (.ireturn, 1) := by decide +kernel
theorem dX6_itemOf_58 : decode cX6_itemOf 58 = .ok (.iload_n 1, 1) := by decide +kernel
theorem dX6_itemOf_59 : decode cX6_itemOf 59 = .ok (.lookupswitch 40 #[(99, 33), (108, 37), (112, 35)], 33) := by decide +kernel
theorem dX6_itemOf_92 : decode cX6_itemOf 92 = .ok (.iconst 4, 1) := by decide +kernel
theorem dX6_itemOf_93 : decode cX6_itemOf 93 = .ok (.ireturn, 1) := by decide +kernel
theorem dX6_itemOf_94 : decode cX6_itemOf 94 = .ok (.iconst 5, 1) := by decide +kernel
theorem dX6_itemOf_95 : decode cX6_itemOf 95 = .ok (.ireturn, 1) := by decide +kernel
theorem dX6_itemOf_96 : decode cX6_itemOf 96 = .ok (.bipush 6, 2) := by decide +kernel
theorem dX6_itemOf_98 : decode cX6_itemOf 98 = .ok (.ireturn, 1) := by decide +kernel
theorem dX6_itemOf_99 : decode cX6_itemOf 99 = .ok (.iconst (-1), 1) := by decide +kernel
theorem dX6_itemOf_100 : decode cX6_itemOf 100 = .ok (.ireturn, 1) := by decide +kernel
theorem dX6_readNumber_0 : decode cX6_readNumber 0 = .ok (.aload_n 0, 1) := by decide +kernel
theorem dX6_readNumber_1 : decode cX6_readNumber 1 = .ok (.getfield 18, 3) := by decide +kernel
theorem dX6_readNumber_4 : decode cX6_readNumber 4 = .ok (.iconst 2, 1) := by decide +kernel
theorem dX6_readNumber_5 : decode cX6_readNumber 5 = .ok (.invokevirtual 59, 3) := by decide +kernel
theorem dX6_readNumber_8 : decode cX6_readNumber 8 = .ok (.istore_n 2, 1) := by decide +kernel
theorem dX6_readNumber_9 : decode cX6_readNumber 9 = .ok (.iload_n 2, 1) := by decide +kernel
theorem dX6_readNumber_10 : decode cX6_readNumber 10 = .ok (.iconst (-1), 1) := by decide +kernel
theorem dX6_readNumber_11 : decode cX6_readNumber 11 = .ok (.if_icmp .eq 15, 3) := by decide +kernel
theorem dX6_readNumber_14 : decode cX6_readNumber 14 = .ok (.iload_n 1, 1) := by decide +kernel
theorem dX6_readNumber_15 : decode cX6_readNumber 15 = .ok (.ifCond .lt 11, 3) := by decide +kernel
theorem dX6_readNumber_18 : decode cX6_readNumber 18 = .ok (.iload_n 1, 1) := by decide +kernel
theorem dX6_readNumber_19 : decode cX6_readNumber 19 = .ok (.getstatic 48, 3) := by decide +kernel
theorem dX6_readNumber_22 : decode cX6_readNumber 22 = .ok (.arraylength, 1) := by decide +kernel
theorem dX6_readNumber_23 : decode cX6_readNumber 23 = .ok (.if_icmp .lt 5, 3) := by decide +kernel
theorem dX6_readNumber_26 : decode cX6_readNumber 26 = .ok (.iconst 0, 1) := by decide +kernel
theorem dX6_readNumber_27 : decode cX6_readNumber 27 = .ok (.ireturn, 1) := by decide +kernel
theorem dX6_readNumber_28 : decode cX6_readNumber 28 = .ok (.iload_n 2, 1) := by decide +kernel
theorem dX6_readNumber_29 : decode cX6_readNumber 29 = .ok (.getstatic 48, 3) := by decide +kernel
theorem dX6_readNumber_32 : decode cX6_readNumber 32 = .ok (.iload_n 1, 1) := by decide +kernel
theorem dX6_readNumber_33 : decode cX6_readNumber 33 = .ok (.iaload, 1) := by decide +kernel
theorem dX6_readNumber_34 : decode cX6_readNumber 34 = .ok (.if_icmp .lt 12, 3) := by decide +kernel
theorem dX6_readNumber_37 : decode cX6_readNumber 37 = .ok (.iload_n 2, 1) := by decide +kernel
theorem dX6_readNumber_38 : decode cX6_readNumber 38 = .ok (.getstatic 63, 3) := by decide +kernel
theorem dX6_readNumber_41 : decode cX6_readNumber 41 = .ok (.iload_n 1, 1) := by decide +kernel
theorem dX6_readNumber_42 : decode cX6_readNumber 42 = .ok (.iaload, 1) := by decide +kernel
theorem dX6_readNumber_43 : decode cX6_readNumber 43 = .ok (.if_icmp .le 18, 3) := by decide +kernel
theorem dX6_readNumber_46 : decode cX6_readNumber 46 = .ok (.aload_n 0, 1) := by decide +kernel
theorem dX6_readNumber_47 : decode cX6_readNumber 47 = .ok (.getfield 18, 3) := by decide +kernel
theorem dX6_readNumber_50 : decode cX6_readNumber 50 = .ok (.dup, 1) := by decide +kernel
theorem dX6_readNumber_51 : decode cX6_readNumber 51 = .ok (.getfield 25, 3) := by decide +kernel
theorem dX6_readNumber_54 : decode cX6_readNumber 54 = .ok (.iconst 1, 1) := by decide +kernel
theorem dX6_readNumber_55 : decode cX6_readNumber 55 = .ok (.isub, 1) := by decide +kernel
theorem dX6_readNumber_56 : decode cX6_readNumber 56 = .ok (.putfield 25, 3) := by decide +kernel
theorem dX6_readNumber_59 : decode cX6_readNumber 59 = .ok (.iconst 0, 1) := by decide +kernel
theorem dX6_readNumber_60 : decode cX6_readNumber 60 = .ok (.ireturn, 1) := by decide +kernel
theorem dX6_readNumber_61 : decode cX6_readNumber 61 = .ok (.aload_n 0, 1) := by decide +kernel
theorem dX6_readNumber_62 : decode cX6_readNumber 62 = .ok (.iload_n 1, 1) := by decide +kernel
theorem dX6_readNumber_63 : decode cX6_readNumber 63 = .ok (.iload_n 2, 1) := by decide +kernel
theorem dX6_readNumber_64 : decode cX6_readNumber 64 = .ok (.invokevirtual 66, 3) := by decide +kernel
theorem dX6_readNumber_67 : decode cX6_readNumber 67 = .ok (.iconst 1, 1) := by decide +kernel
theorem dX6_readNumber_68 : decode cX6_readNumber 68 = .ok (.ireturn, 1) := by decide +kernel
theorem dX6_write_0 : decode cX6_write 0 = .ok (.aload_n 0, 1) := by decide +kernel
theorem dX6_write_1 : decode cX6_write 1 = .ok (.getfield 12, 3) := by decide +kernel
theorem dX6_write_4 : decode cX6_write 4 = .ok (.getfield 35, 3) := by decide +kernel
theorem dX6_write_7 : decode cX6_write 7 = .ok (.iconst 1, 1) := by decide +kernel
theorem dX6_write_8 : decode cX6_write 8 = .ok (.isub, 1) := by decide +kernel
theorem dX6_write_9 : decode cX6_write 9 = .ok (.istore_n 3, 1) := by decide +kernel
theorem dX6_write_10 : decode cX6_write 10 = .ok (.iload_n 1, 1) := by decide +kernel
theorem dX6_write_11 : decode cX6_write 11 = .ok (.ifCond .ne 14, 3) := by decide +kernel
theorem dX6_write_14 : decode cX6_write 14 = .ok (.aload_n 0, 1) := by decide +kernel
theorem dX6_write_15 : decode cX6_write 15 = .ok (.getfield 12, 3) := by decide +kernel
theorem dX6_write_18 : decode cX6_write 18 = .ok (.iload_n 2, 1) := by decide +kernel
theorem dX6_write_19 : decode cX6_write 19 = .ok (.putfield 70, 3) := by decide +kernel
theorem dX6_write_22 : decode cX6_write 22 = .ok (.goto 62, 3) := by decide +kernel
theorem dX6_write_25 : decode cX6_write 25 = .ok (.iload_n 1, 1) := by decide +kernel
theorem dX6_write_26 : decode cX6_write 26 = .ok (.iconst 1, 1) := by decide +kernel
theorem dX6_write_27 : decode cX6_write 27 = .ok (.if_icmp .ne 14, 3) := by decide +kernel
theorem dX6_write_30 : decode cX6_write 30 = .ok (.aload_n 0, 1) := by decide +kernel
theorem dX6_write_31 : decode cX6_write 31 = .ok (.getfield 12, 3) := by decide +kernel
theorem dX6_write_34 : decode cX6_write 34 = .ok (.iload_n 2, 1) := by decide +kernel
theorem dX6_write_35 : decode cX6_write 35 = .ok (.putfield 73, 3) := by decide +kernel
theorem dX6_write_38 : decode cX6_write 38 = .ok (.goto 46, 3) := by decide +kernel
theorem dX6_write_41 : decode cX6_write 41 = .ok (.iload_n 1, 1) := by decide +kernel
theorem dX6_write_42 : decode cX6_write 42 = .ok (.iconst 2, 1) := by decide +kernel
theorem dX6_write_43 : decode cX6_write 43 = .ok (.if_icmp .ne 14, 3) := by decide +kernel
theorem dX6_write_46 : decode cX6_write 46 = .ok (.aload_n 0, 1) := by decide +kernel
theorem dX6_write_47 : decode cX6_write 47 = .ok (.getfield 12, 3) := by decide +kernel
theorem dX6_write_50 : decode cX6_write 50 = .ok (.iload_n 2, 1) := by decide +kernel
theorem dX6_write_51 : decode cX6_write 51 = .ok (.putfield 76, 3) := by decide +kernel
theorem dX6_write_54 : decode cX6_write 54 = .ok (.goto 30, 3) := by decide +kernel
theorem dX6_write_57 : decode cX6_write 57 = .ok (.iload_n 1, 1) := by decide +kernel
theorem dX6_write_58 : decode cX6_write 58 = .ok (.iconst 3, 1) := by decide +kernel
theorem dX6_write_59 : decode cX6_write 59 = .ok (.if_icmp .ne 14, 3) := by decide +kernel
theorem dX6_write_62 : decode cX6_write 62 = .ok (.aload_n 0, 1) := by decide +kernel
theorem dX6_write_63 : decode cX6_write 63 = .ok (.getfield 12, 3) := by decide +kernel
theorem dX6_write_66 : decode cX6_write 66 = .ok (.iload_n 2, 1) := by decide +kernel
theorem dX6_write_67 : decode cX6_write 67 = .ok (.putfield 79, 3) := by decide +kernel
theorem dX6_write_70 : decode cX6_write 70 = .ok (.goto 14, 3) := by decide +kernel
theorem dX6_write_73 : decode cX6_write 73 = .ok (.iload_n 3, 1) := by decide +kernel
theorem dX6_write_74 : decode cX6_write 74 = .ok (.ifCond .lt 10, 3) := by decide +kernel
theorem dX6_write_77 : decode cX6_write 77 = .ok (.aload_n 0, 1) := by decide +kernel
theorem dX6_write_78 : decode cX6_write 78 = .ok (.iload_n 1, 1) := by decide +kernel
theorem dX6_write_79 : decode cX6_write 79 = .ok (.iload_n 3, 1) := by decide +kernel
theorem dX6_write_80 : decode cX6_write 80 = .ok (.iload_n 2, 1) := by decide +kernel
theorem dX6_write_81 : decode cX6_write 81 = .ok (.invokevirtual 82, 3) := by decide +kernel
theorem dX6_write_84 : decode cX6_write 84 = .ok (.return_, 1) := by decide +kernel
theorem dX6_writeOfEnd_0 : decode cX6_writeOfEnd 0 = .ok (.iload_n 1, 1) := by decide +kernel
theorem dX6_writeOfEnd_1 : decode cX6_writeOfEnd 1 = .ok (.iconst 4, 1) := by decide +kernel
theorem dX6_writeOfEnd_2 : decode cX6_writeOfEnd 2 = .ok (.if_icmp .ne 16, 3) := by decide +kernel
theorem dX6_writeOfEnd_5 : decode cX6_writeOfEnd 5 = .ok (.aload_n 0, 1) := by decide +kernel
theorem dX6_writeOfEnd_6 : decode cX6_writeOfEnd 6 = .ok (.getfield 12, 3) := by decide +kernel
theorem dX6_writeOfEnd_9 : decode cX6_writeOfEnd 9 = .ok (.getfield 86, 3) := by decide +kernel
theorem dX6_writeOfEnd_12 : decode cX6_writeOfEnd 12 = .ok (.iload_n 2, 1) := by decide +kernel
theorem dX6_writeOfEnd_13 : decode cX6_writeOfEnd 13 = .ok (.iload_n 3, 1) := by decide +kernel
theorem dX6_writeOfEnd_14 : decode cX6_writeOfEnd 14 = .ok (.iastore, 1) := by decide +kernel
theorem dX6_writeOfEnd_15 : decode cX6_writeOfEnd 15 = .ok (.goto 31, 3) := by decide +kernel
theorem dX6_writeOfEnd_18 : decode cX6_writeOfEnd 18 = .ok (.iload_n 1, 1) := by decide +kernel
theorem dX6_writeOfEnd_19 : decode cX6_writeOfEnd 19 = .ok (.iconst 5, 1) := by decide +kernel
theorem dX6_writeOfEnd_20 : decode cX6_writeOfEnd 20 = .ok (.if_icmp .ne 16, 3) := by decide +kernel
theorem dX6_writeOfEnd_23 : decode cX6_writeOfEnd 23 = .ok (.aload_n 0, 1) := by decide +kernel
theorem dX6_writeOfEnd_24 : decode cX6_writeOfEnd 24 = .ok (.getfield 12, 3) := by decide +kernel
theorem dX6_writeOfEnd_27 : decode cX6_writeOfEnd 27 = .ok (.getfield 89, 3) := by decide +kernel
theorem dX6_writeOfEnd_30 : decode cX6_writeOfEnd 30 = .ok (.iload_n 2, 1) := by decide +kernel
theorem dX6_writeOfEnd_31 : decode cX6_writeOfEnd 31 = .ok (.iload_n 3, 1) := by decide +kernel
theorem dX6_writeOfEnd_32 : decode cX6_writeOfEnd 32 = .ok (.iastore, 1) := by decide +kernel
theorem dX6_writeOfEnd_33 : decode cX6_writeOfEnd 33 = .ok (.goto 13, 3) := by decide +kernel
theorem dX6_writeOfEnd_36 : decode cX6_writeOfEnd 36 = .ok (.aload_n 0, 1) := by decide +kernel
theorem dX6_writeOfEnd_37 : decode cX6_writeOfEnd 37 = .ok (.getfield 12, 3) := by decide +kernel
theorem dX6_writeOfEnd_40 : decode cX6_writeOfEnd 40 = .ok (.getfield 92, 3) := by decide +kernel
theorem dX6_writeOfEnd_43 : decode cX6_writeOfEnd 43 = .ok (.iload_n 2, 1) := by decide +kernel
theorem dX6_writeOfEnd_44 : decode cX6_writeOfEnd 44 = .ok (.iload_n 3, 1) := by decide +kernel
theorem dX6_writeOfEnd_45 : decode cX6_writeOfEnd 45 = .ok (.iastore, 1) := by decide +kernel
theorem dX6_writeOfEnd_46 : decode cX6_writeOfEnd 46 = .ok (.return_, 1) := by decide +kernel
theorem dX7_init_0 : decode cX7_init 0 = .ok (.aload_n 0, 1) := by decide +kernel
theorem dX7_init_1 : decode cX7_init 1 = .ok (.invokespecial 3, 3) := by decide +kernel
theorem dX7_init_4 : decode cX7_init 4 = .ok (.aload_n 0, 1) := by decide +kernel
theorem dX7_init_5 : decode cX7_init 5 = .ok (.bipush 10, 2) := by decide +kernel
theorem dX7_init_7 : decode cX7_init 7 = .ok (.newarray .int, 2) := by decide +kernel
theorem dX7_init_9 : decode cX7_init 9 = .ok (.putfield 11, 3) := by decide +kernel
theorem dX7_init_12 : decode cX7_init 12 = .ok (.aload_n 0, 1) := by decide +kernel
theorem dX7_init_13 : decode cX7_init 13 = .ok (.bipush 10, 2) := by decide +kernel
theorem dX7_init_15 : decode cX7_init 15 = .ok (.newarray .int, 2) := by decide +kernel
theorem dX7_init_17 : decode cX7_init 17 = .ok (.putfield 15, 3) := by decide +kernel
theorem dX7_init_20 : decode cX7_init 20 = .ok (.aload_n 0, 1) := by decide +kernel
theorem dX7_init_21 : decode cX7_init 21 = .ok (.bipush 10, 2) := by decide +kernel
theorem dX7_init_23 : decode cX7_init 23 = .ok (.newarray .boolean, 2) := by decide +kernel
theorem dX7_init_25 : decode cX7_init 25 = .ok (.putfield 18, 3) := by decide +kernel
theorem dX7_init_28 : decode cX7_init 28 = .ok (.aload_n 0, 1) := by decide +kernel
theorem dX7_init_29 : decode cX7_init 29 = .ok (.aload_n 1, 1) := by decide +kernel
theorem dX7_init_30 : decode cX7_init 30 = .ok (.putfield 22, 3) := by decide +kernel
theorem dX7_init_33 : decode cX7_init 33 = .ok (.aload_n 0, 1) := by decide +kernel
theorem dX7_init_34 : decode cX7_init 34 = .ok (.aload_n 2, 1) := by decide +kernel
theorem dX7_init_35 : decode cX7_init 35 = .ok (.putfield 26, 3) := by decide +kernel
theorem dX7_init_38 : decode cX7_init 38 = .ok (.return_, 1) := by decide +kernel
theorem dX7_add_0 : decode cX7_add 0 = .ok (.aload_n 0, 1) := by decide +kernel
theorem dX7_add_1 : decode cX7_add 1 = .ok (.getfield 30, 3) := by decide +kernel
theorem dX7_add_4 : decode cX7_add 4 = .ok (.bipush 10, 2) := by decide +kernel
theorem dX7_add_6 : decode cX7_add 6 = .ok (.if_icmp .lt 5, 3) := by decide +kernel
theorem dX7_add_9 : decode cX7_add 9 = .ok (.iconst (-1), 1) := by decide +kernel
theorem dX7_add_10 : decode cX7_add 10 = .ok (.ireturn, 1) := by decide +kernel
theorem dX7_add_11 : decode cX7_add 11 = .ok (.aload_n 0, 1) := by decide +kernel
theorem dX7_add_12 : decode cX7_add 12 = .ok (.getfield 11, 3) := by decide +kernel
theorem dX7_add_15 : decode cX7_add 15 = .ok (.aload_n 0, 1) := by decide +kernel
theorem dX7_add_16 : decode cX7_add 16 = .ok (.getfield 30, 3) := by decide +kernel
theorem dX7_add_19 : decode cX7_add 19 = .ok (.iload_n 1, 1) := by decide +kernel
theorem dX7_add_20 : decode cX7_add 20 = .ok (.iastore, 1) := by decide +kernel
theorem dX7_add_21 : decode cX7_add 21 = .ok (.aload_n 0, 1) := by decide +kernel
theorem dX7_add_22 : decode cX7_add 22 = .ok (.getfield 15, 3) := by decide +kernel
theorem dX7_add_25 : decode cX7_add 25 = .ok (.aload_n 0, 1) := by decide +kernel
theorem dX7_add_26 : decode cX7_add 26 = .ok (.getfield 30, 3) := by decide +kernel
theorem dX7_add_29 : decode cX7_add 29 = .ok (.iload_n 2, 1) := by decide +kernel
theorem dX7_add_30 : decode cX7_add 30 = .ok (.iastore, 1) := by decide +kernel
theorem dX7_add_31 : decode cX7_add 31 = .ok (.aload_n 0, 1) := by decide +kernel
theorem dX7_add_32 : decode cX7_add 32 = .ok (.getfield 18, 3) := by decide +kernel
theorem dX7_add_35 : decode cX7_add 35 = .ok (.aload_n 0, 1) := by decide +kernel
theorem dX7_add_36 : decode cX7_add 36 = .ok (.getfield 30, 3) := by decide +kernel
theorem dX7_add_39 : decode cX7_add 39 = .ok (.iload_n 3, 1) := by decide +kernel
theorem dX7_add_40 : decode cX7_add 40 = .ok (.bastore, 1) := by decide +kernel
theorem dX7_add_41 : decode cX7_add 41 = .ok (.aload_n 0, 1) := by decide +kernel
theorem dX7_add_42 : decode cX7_add 42 = .ok (.dup, 1) := by decide +kernel
theorem dX7_add_43 : decode cX7_add 43 = .ok (.getfield 30, 3) := by decide +kernel
theorem dX7_add_46 : decode cX7_add 46 = .ok (.iconst 1, 1) := by decide +kernel
theorem dX7_add_47 : decode cX7_add 47 = .ok (.iadd, 1) := by decide +kernel
theorem dX7_add_48 : decode cX7_add 48 = .ok (.putfield 30, 3) := by decide +kernel
theorem dX7_add_51 : decode cX7_add 51 = .ok (.aload_n 0, 1) := by decide +kernel
theorem dX7_add_52 : decode cX7_add 52 = .ok (.getfield 30, 3) := by decide +kernel
theorem dX7_add_55 : decode cX7_add 55 = .ok (.ireturn, 1) := by decide +kernel
theorem dX7_goesAs_0 : decode cX7_goesAs 0 = .ok (.aload_n 0, 1) := by decide +kernel
theorem dX7_goesAs_1 : decode cX7_goesAs 1 = .ok (.getfield 22, 3) := by decide +kernel
theorem dX7_goesAs_4 : decode cX7_goesAs 4 = .ok (.getfield 34, 3) := by decide +kernel
theorem dX7_goesAs_7 : decode cX7_goesAs 7 = .ok (.iload_n 1, 1) := by decide +kernel
theorem dX7_goesAs_8 : decode cX7_goesAs 8 = .ok (.iaload, 1) := by decide +kernel
theorem dX7_goesAs_9 : decode cX7_goesAs 9 = .ok (.aload_n 0, 1) := by decide +kernel
theorem dX7_goesAs_10 : decode cX7_goesAs 10 = .ok (.getfield 22, 3) := by decide +kernel
theorem dX7_goesAs_13 : decode cX7_goesAs 13 = .ok (.getfield 34, 3) := by decide +kernel
theorem dX7_goesAs_16 : decode cX7_goesAs 16 = .ok (.iload_n 3, 1) := by decide +kernel
theorem dX7_goesAs_17 : decode cX7_goesAs 17 = .ok (.iaload, 1) := by decide +kernel
theorem dX7_goesAs_18 : decode cX7_goesAs 18 = .ok (.isub, 1) := by decide +kernel
theorem dX7_goesAs_19 : decode cX7_goesAs 19 = .ok (.invokestatic 39, 3) := by decide +kernel
theorem dX7_goesAs_22 : decode cX7_goesAs 22 = .ok (.istore 4, 2) := by decide +kernel
theorem dX7_goesAs_24 : decode cX7_goesAs 24 = .ok (.iload_n 2, 1) := by decide +kernel
theorem dX7_goesAs_25 : decode cX7_goesAs 25 = .ok (.aload_n 0, 1) := by decide +kernel
theorem dX7_goesAs_26 : decode cX7_goesAs 26 = .ok (.getfield 22, 3) := by decide +kernel
theorem dX7_goesAs_29 : decode cX7_goesAs 29 = .ok (.getfield 45, 3) := by decide +kernel
theorem dX7_goesAs_32 : decode cX7_goesAs 32 = .ok (.iload_n 3, 1) := by decide +kernel
theorem dX7_goesAs_33 : decode cX7_goesAs 33 = .ok (.iaload, 1) := by decide +kernel
theorem dX7_goesAs_34 : decode cX7_goesAs 34 = .ok (.isub, 1) := by decide +kernel
theorem dX7_goesAs_35 : decode cX7_goesAs 35 = .ok (.invokestatic 39, 3) := by decide +kernel
theorem dX7_goesAs_38 : decode cX7_goesAs 38 = .ok (.istore 5, 2) := by decide +kernel
theorem dX7_goesAs_40 : decode cX7_goesAs 40 = .ok (.aload_n 0, 1) := by decide +kernel
theorem dX7_goesAs_41 : decode cX7_goesAs 41 = .ok (.getfield 26, 3) := by decide +kernel
theorem dX7_goesAs_44 : decode cX7_goesAs 44 = .ok (.iload 4, 2) := by decide +kernel
theorem dX7_goesAs_46 : decode cX7_goesAs 46 = .ok (.iload 5, 2) := by decide +kernel
theorem dX7_goesAs_48 : decode cX7_goesAs 48 = .ok (.aload_n 0, 1) := by decide +kernel
theorem dX7_goesAs_49 : decode cX7_goesAs 49 = .ok (.getfield 22, 3) := by decide +kernel
theorem dX7_goesAs_52 : decode cX7_goesAs 52 = .ok (.getfield 48, 3) := by decide +kernel
theorem dX7_goesAs_55 : decode cX7_goesAs 55 = .ok (.iload_n 1, 1) := by decide +kernel
theorem dX7_goesAs_56 : decode cX7_goesAs 56 = .ok (.iaload, 1) := by decide +kernel
theorem dX7_goesAs_57 : decode cX7_goesAs 57 = .ok (.aload_n 0, 1) := by decide +kernel
theorem dX7_goesAs_58 : decode cX7_goesAs 58 = .ok (.getfield 22, 3) := by decide +kernel
theorem dX7_goesAs_61 : decode cX7_goesAs 61 = .ok (.getfield 48, 3) := by decide +kernel
theorem dX7_goesAs_64 : decode cX7_goesAs 64 = .ok (.iload_n 3, 1) := by decide +kernel
theorem dX7_goesAs_65 : decode cX7_goesAs 65 = .ok (.iaload, 1) := by decide +kernel
theorem dX7_goesAs_66 : decode cX7_goesAs 66 = .ok (.iadd, 1) := by decide +kernel
theorem dX7_goesAs_67 : decode cX7_goesAs 67 = .ok (.iconst 1, 1) := by decide +kernel
theorem dX7_goesAs_68 : decode cX7_goesAs 68 = .ok (.iconst 0, 1) := by decide +kernel
theorem dX7_goesAs_69 : decode cX7_goesAs 69 = .ok (.invokevirtual 51, 3) := by decide +kernel
theorem dX7_goesAs_72 : decode cX7_goesAs 72 = .ok (.ireturn, 1) := by decide +kernel
theorem dX7_fittingPlies_0 : decode cX7_fittingPlies 0 = .ok (.iconst 0, 1) := by decide +kernel
theorem dX7_fittingPlies_1 : decode cX7_fittingPlies 1 = .ok (.istore_n 2, 1) := by decide +kernel
theorem dX7_fittingPlies_2 : decode cX7_fittingPlies 2 = .ok (.iconst 1, 1) := by decide +kernel
theorem dX7_fittingPlies_3 : decode cX7_fittingPlies 3 = .ok (.istore_n 3, 1) := by decide +kernel
theorem dX7_fittingPlies_4 : decode cX7_fittingPlies 4 = .ok (.iload_n 3, 1) := by decide +kernel
theorem dX7_fittingPlies_5 : decode cX7_fittingPlies 5 = .ok (.bipush 6, 2) := by decide +kernel
theorem dX7_fittingPlies_7 : decode cX7_fittingPlies 7 = .ok (.if_icmp .gt 24, 3) := by decide +kernel
theorem dX7_fittingPlies_10 : decode cX7_fittingPlies 10 = .ok (.aload_n 0, 1) := by decide +kernel
theorem dX7_fittingPlies_11 : decode cX7_fittingPlies 11 = .ok (.iload_n 1, 1) := by decide +kernel
theorem dX7_fittingPlies_12 : decode cX7_fittingPlies 12 = .ok (.iload_n 3, 1) := by decide +kernel
theorem dX7_fittingPlies_13 : decode cX7_fittingPlies 13 = .ok (.invokevirtual 57, 3) := by decide +kernel
theorem dX7_fittingPlies_16 : decode cX7_fittingPlies 16 = .ok (.ifCond .eq 9, 3) := by decide +kernel
theorem dX7_fittingPlies_19 : decode cX7_fittingPlies 19 = .ok (.iload_n 2, 1) := by decide +kernel
theorem dX7_fittingPlies_20 : decode cX7_fittingPlies 20 = .ok (.iconst 1, 1) := by decide +kernel
theorem dX7_fittingPlies_21 : decode cX7_fittingPlies 21 = .ok (.iload_n 3, 1) := by decide +kernel
theorem dX7_fittingPlies_22 : decode cX7_fittingPlies 22 = .ok (.ishl, 1) := by decide +kernel
theorem dX7_fittingPlies_23 : decode cX7_fittingPlies 23 = .ok (.ior, 1) := by decide +kernel
theorem dX7_fittingPlies_24 : decode cX7_fittingPlies 24 = .ok (.istore_n 2, 1) := by decide +kernel
theorem dX7_fittingPlies_25 : decode cX7_fittingPlies 25 = .ok (.iinc 3 1, 3) := by decide +kernel
theorem dX7_fittingPlies_28 : decode cX7_fittingPlies 28 = .ok (.goto (-24), 3) := by decide +kernel
theorem dX7_fittingPlies_31 : decode cX7_fittingPlies 31 = .ok (.iload_n 2, 1) := by decide +kernel
theorem dX7_fittingPlies_32 : decode cX7_fittingPlies 32 = .ok (.ireturn, 1) := by decide +kernel
theorem dX7_isAllSo_0 : decode cX7_isAllSo 0 = .ok (.iconst 0, 1) := by decide +kernel
theorem dX7_isAllSo_1 : decode cX7_isAllSo 1 = .ok (.istore_n 3, 1) := by decide +kernel
theorem dX7_isAllSo_2 : decode cX7_isAllSo 2 = .ok (.iload_n 3, 1) := by decide +kernel
theorem dX7_isAllSo_3 : decode cX7_isAllSo 3 = .ok (.aload_n 0, 1) := by decide +kernel
theorem dX7_isAllSo_4 : decode cX7_isAllSo 4 = .ok (.getfield 30, 3) := by decide +kernel
theorem dX7_isAllSo_7 : decode cX7_isAllSo 7 = .ok (.if_icmp .ge 75, 3) := by decide +kernel
theorem dX7_isAllSo_10 : decode cX7_isAllSo 10 = .ok (.aload_n 0, 1) := by decide +kernel
theorem dX7_isAllSo_11 : decode cX7_isAllSo 11 = .ok (.getfield 11, 3) := by decide +kernel
theorem dX7_isAllSo_14 : decode cX7_isAllSo 14 = .ok (.iload_n 3, 1) := by decide +kernel
theorem dX7_isAllSo_15 : decode cX7_isAllSo 15 = .ok (.iaload, 1) := by decide +kernel
theorem dX7_isAllSo_16 : decode cX7_isAllSo 16 = .ok (.iload_n 1, 1) := by decide +kernel
theorem dX7_isAllSo_17 : decode cX7_isAllSo 17 = .ok (.if_icmp .eq 13, 3) := by decide +kernel
theorem dX7_isAllSo_20 : decode cX7_isAllSo 20 = .ok (.aload_n 0, 1) := by decide +kernel
theorem dX7_isAllSo_21 : decode cX7_isAllSo 21 = .ok (.getfield 15, 3) := by decide +kernel
theorem dX7_isAllSo_24 : decode cX7_isAllSo 24 = .ok (.iload_n 3, 1) := by decide +kernel
theorem dX7_isAllSo_25 : decode cX7_isAllSo 25 = .ok (.iaload, 1) := by decide +kernel
theorem dX7_isAllSo_26 : decode cX7_isAllSo 26 = .ok (.iload_n 1, 1) := by decide +kernel
theorem dX7_isAllSo_27 : decode cX7_isAllSo 27 = .ok (.if_icmp .ne 49, 3) := by decide +kernel
theorem dX7_isAllSo_30 : decode cX7_isAllSo 30 = .ok (.aload_n 0, 1) := by decide +kernel
theorem dX7_isAllSo_31 : decode cX7_isAllSo 31 = .ok (.getfield 11, 3) := by decide +kernel
theorem dX7_isAllSo_34 : decode cX7_isAllSo 34 = .ok (.iload_n 3, 1) := by decide +kernel
theorem dX7_isAllSo_35 : decode cX7_isAllSo 35 = .ok (.iaload, 1) := by decide +kernel
theorem dX7_isAllSo_36 : decode cX7_isAllSo 36 = .ok (.iload_n 1, 1) := by decide +kernel
theorem dX7_isAllSo_37 : decode cX7_isAllSo 37 = .ok (.if_icmp .ne 12, 3) := by decide +kernel
theorem dX7_isAllSo_40 : decode cX7_isAllSo 40 = .ok (.aload_n 0, 1) := by decide +kernel
theorem dX7_isAllSo_41 : decode cX7_isAllSo 41 = .ok (.getfield 15, 3) := by decide +kernel
theorem dX7_isAllSo_44 : decode cX7_isAllSo 44 = .ok (.iload_n 3, 1) := by decide +kernel
theorem dX7_isAllSo_45 : decode cX7_isAllSo 45 = .ok (.iaload, 1) := by decide +kernel
theorem dX7_isAllSo_46 : decode cX7_isAllSo 46 = .ok (.goto 9, 3) := by decide +kernel
theorem dX7_isAllSo_49 : decode cX7_isAllSo 49 = .ok (.aload_n 0, 1) := by decide +kernel
theorem dX7_isAllSo_50 : decode cX7_isAllSo 50 = .ok (.getfield 11, 3) := by decide +kernel
theorem dX7_isAllSo_53 : decode cX7_isAllSo 53 = .ok (.iload_n 3, 1) := by decide +kernel
theorem dX7_isAllSo_54 : decode cX7_isAllSo 54 = .ok (.iaload, 1) := by decide +kernel
theorem dX7_isAllSo_55 : decode cX7_isAllSo 55 = .ok (.istore 4, 2) := by decide +kernel
theorem dX7_isAllSo_57 : decode cX7_isAllSo 57 = .ok (.aload_n 0, 1) := by decide +kernel
theorem dX7_isAllSo_58 : decode cX7_isAllSo 58 = .ok (.iload_n 1, 1) := by decide +kernel
theorem dX7_isAllSo_59 : decode cX7_isAllSo 59 = .ok (.iload_n 2, 1) := by decide +kernel
theorem dX7_isAllSo_60 : decode cX7_isAllSo 60 = .ok (.iload 4, 2) := by decide +kernel
theorem dX7_isAllSo_62 : decode cX7_isAllSo 62 = .ok (.invokevirtual 61, 3) := by decide +kernel
theorem dX7_isAllSo_65 : decode cX7_isAllSo 65 = .ok (.aload_n 0, 1) := by decide +kernel
theorem dX7_isAllSo_66 : decode cX7_isAllSo 66 = .ok (.getfield 18, 3) := by decide +kernel
theorem dX7_isAllSo_69 : decode cX7_isAllSo 69 = .ok (.iload_n 3, 1) := by decide +kernel
theorem dX7_isAllSo_70 : decode cX7_isAllSo 70 = .ok (.baload, 1) := by decide +kernel
theorem dX7_isAllSo_71 : decode cX7_isAllSo 71 = .ok (.if_icmp .eq 5, 3) := by decide +kernel
theorem dX7_isAllSo_74 : decode cX7_isAllSo 74 = .ok (.iconst 0, 1) := by decide +kernel
theorem dX7_isAllSo_75 : decode cX7_isAllSo 75 = .ok (.ireturn, 1) := by decide +kernel
theorem dX7_isAllSo_76 : decode cX7_isAllSo 76 = .ok (.iinc 3 1, 3) := by decide +kernel
theorem dX7_isAllSo_79 : decode cX7_isAllSo 79 = .ok (.goto (-77), 3) := by decide +kernel
theorem dX7_isAllSo_82 : decode cX7_isAllSo 82 = .ok (.iconst 1, 1) := by decide +kernel
theorem dX7_isAllSo_83 : decode cX7_isAllSo 83 = .ok (.ireturn, 1) := by decide +kernel
theorem dX7_bestToTry_0 : decode cX7_bestToTry 0 = .ok (.iconst (-1), 1) := by decide +kernel
theorem dX7_bestToTry_1 : decode cX7_bestToTry 1 = .ok (.istore_n 3, 1) := by decide +kernel
theorem dX7_bestToTry_2 : decode cX7_bestToTry 2 = .ok (.iconst 0, 1) := by decide +kernel
theorem dX7_bestToTry_3 : decode cX7_bestToTry 3 = .ok (.istore 4, 2) := by decide +kernel
theorem dX7_bestToTry_5 : decode cX7_bestToTry 5 = .ok (.iconst 0, 1) := by decide +kernel
theorem dX7_bestToTry_6 : decode cX7_bestToTry 6 = .ok (.istore 5, 2) := by decide +kernel
theorem dX7_bestToTry_8 : decode cX7_bestToTry 8 = .ok (.iload_n 2, 1) := by decide +kernel
theorem dX7_bestToTry_9 : decode cX7_bestToTry 9 = .ok (.ifCond .eq 56, 3) := by decide +kernel
theorem dX7_bestToTry_12 : decode cX7_bestToTry 12 = .ok (.iload 5, 2) := by decide +kernel
theorem dX7_bestToTry_14 : decode cX7_bestToTry 14 = .ok (.aload_n 0, 1) := by decide +kernel
theorem dX7_bestToTry_15 : decode cX7_bestToTry 15 = .ok (.getfield 22, 3) := by decide +kernel
theorem dX7_bestToTry_18 : decode cX7_bestToTry 18 = .ok (.getfield 65, 3) := by decide +kernel
theorem dX7_bestToTry_21 : decode cX7_bestToTry 21 = .ok (.if_icmp .ge 44, 3) := by decide +kernel
theorem dX7_bestToTry_24 : decode cX7_bestToTry 24 = .ok (.iload 5, 2) := by decide +kernel
theorem dX7_bestToTry_26 : decode cX7_bestToTry 26 = .ok (.iload_n 1, 1) := by decide +kernel
theorem dX7_bestToTry_27 : decode cX7_bestToTry 27 = .ok (.if_icmp .eq 32, 3) := by decide +kernel
theorem dX7_bestToTry_30 : decode cX7_bestToTry 30 = .ok (.aload_n 0, 1) := by decide +kernel
theorem dX7_bestToTry_31 : decode cX7_bestToTry 31 = .ok (.iload_n 1, 1) := by decide +kernel
theorem dX7_bestToTry_32 : decode cX7_bestToTry 32 = .ok (.iload_n 2, 1) := by decide +kernel
theorem dX7_bestToTry_33 : decode cX7_bestToTry 33 = .ok (.iload 5, 2) := by decide +kernel
theorem dX7_bestToTry_35 : decode cX7_bestToTry 35 = .ok (.invokevirtual 68, 3) := by decide +kernel
theorem dX7_bestToTry_38 : decode cX7_bestToTry 38 = .ok (.istore 6, 2) := by decide +kernel
theorem dX7_bestToTry_40 : decode cX7_bestToTry 40 = .ok (.iload_n 3, 1) := by decide +kernel
theorem dX7_bestToTry_41 : decode cX7_bestToTry 41 = .ok (.iconst (-1), 1) := by decide +kernel
theorem dX7_bestToTry_42 : decode cX7_bestToTry 42 = .ok (.if_icmp .eq 10, 3) := by decide +kernel
theorem dX7_bestToTry_45 : decode cX7_bestToTry 45 = .ok (.iload 6, 2) := by decide +kernel
theorem dX7_bestToTry_47 : decode cX7_bestToTry 47 = .ok (.iload 4, 2) := by decide +kernel
theorem dX7_bestToTry_49 : decode cX7_bestToTry 49 = .ok (.if_icmp .ge 10, 3) := by decide +kernel
theorem dX7_bestToTry_52 : decode cX7_bestToTry 52 = .ok (.iload 5, 2) := by decide +kernel
theorem dX7_bestToTry_54 : decode cX7_bestToTry 54 = .ok (.istore_n 3, 1) := by decide +kernel
theorem dX7_bestToTry_55 : decode cX7_bestToTry 55 = .ok (.iload 6, 2) := by decide +kernel
theorem dX7_bestToTry_57 : decode cX7_bestToTry 57 = .ok (.istore 4, 2) := by decide +kernel
theorem dX7_bestToTry_59 : decode cX7_bestToTry 59 = .ok (.iinc 5 1, 3) := by decide +kernel
theorem dX7_bestToTry_62 : decode cX7_bestToTry 62 = .ok (.goto (-54), 3) := by decide +kernel
theorem dX7_bestToTry_65 : decode cX7_bestToTry 65 = .ok (.iload_n 3, 1) := by decide +kernel
theorem dX7_bestToTry_66 : decode cX7_bestToTry 66 = .ok (.ireturn, 1) := by decide +kernel
theorem dX7_apartBy_0 : decode cX7_apartBy 0 = .ok (.iconst 0, 1) := by decide +kernel
theorem dX7_apartBy_1 : decode cX7_apartBy 1 = .ok (.istore 4, 2) := by decide +kernel
theorem dX7_apartBy_3 : decode cX7_apartBy 3 = .ok (.iconst 1, 1) := by decide +kernel
theorem dX7_apartBy_4 : decode cX7_apartBy 4 = .ok (.istore 5, 2) := by decide +kernel
theorem dX7_apartBy_6 : decode cX7_apartBy 6 = .ok (.iload 5, 2) := by decide +kernel
theorem dX7_apartBy_8 : decode cX7_apartBy 8 = .ok (.bipush 6, 2) := by decide +kernel
theorem dX7_apartBy_10 : decode cX7_apartBy 10 = .ok (.if_icmp .gt 40, 3) := by decide +kernel
theorem dX7_apartBy_13 : decode cX7_apartBy 13 = .ok (.iload_n 2, 1) := by decide +kernel
theorem dX7_apartBy_14 : decode cX7_apartBy 14 = .ok (.iload 5, 2) := by decide +kernel
theorem dX7_apartBy_16 : decode cX7_apartBy 16 = .ok (.ishr, 1) := by decide +kernel
theorem dX7_apartBy_17 : decode cX7_apartBy 17 = .ok (.iconst 1, 1) := by decide +kernel
theorem dX7_apartBy_18 : decode cX7_apartBy 18 = .ok (.iand, 1) := by decide +kernel
theorem dX7_apartBy_19 : decode cX7_apartBy 19 = .ok (.iconst 1, 1) := by decide +kernel
theorem dX7_apartBy_20 : decode cX7_apartBy 20 = .ok (.if_icmp .ne 24, 3) := by decide +kernel
theorem dX7_apartBy_23 : decode cX7_apartBy 23 = .ok (.iload 4, 2) := by decide +kernel
theorem dX7_apartBy_25 : decode cX7_apartBy 25 = .ok (.aload_n 0, 1) := by decide +kernel
theorem dX7_apartBy_26 : decode cX7_apartBy 26 = .ok (.iload_n 1, 1) := by decide +kernel
theorem dX7_apartBy_27 : decode cX7_apartBy 27 = .ok (.iload 5, 2) := by decide +kernel
theorem dX7_apartBy_29 : decode cX7_apartBy 29 = .ok (.iload_n 3, 1) := by decide +kernel
theorem dX7_apartBy_30 : decode cX7_apartBy 30 = .ok (.invokevirtual 61, 3) := by decide +kernel
theorem dX7_apartBy_33 : decode cX7_apartBy 33 = .ok (.ifCond .eq 7, 3) := by decide +kernel
theorem dX7_apartBy_36 : decode cX7_apartBy 36 = .ok (.iconst 1, 1) := by decide +kernel
theorem dX7_apartBy_37 : decode cX7_apartBy 37 = .ok (.goto 4, 3) := by decide +kernel
theorem dX7_apartBy_40 : decode cX7_apartBy 40 = .ok (.iconst (-1), 1) := by decide +kernel
theorem dX7_apartBy_41 : decode cX7_apartBy 41 = .ok (.iadd, 1) := by decide +kernel
theorem dX7_apartBy_42 : decode cX7_apartBy 42 = .ok (.istore 4, 2) := by decide +kernel
theorem dX7_apartBy_44 : decode cX7_apartBy 44 = .ok (.iinc 5 1, 3) := by decide +kernel
theorem dX7_apartBy_47 : decode cX7_apartBy 47 = .ok (.goto (-41), 3) := by decide +kernel
theorem dX7_apartBy_50 : decode cX7_apartBy 50 = .ok (.iload 4, 2) := by decide +kernel
theorem dX7_apartBy_52 : decode cX7_apartBy 52 = .ok (.invokestatic 39, 3) := by decide +kernel
theorem dX7_apartBy_55 : decode cX7_apartBy 55 = .ok (.ireturn, 1) := by decide +kernel
theorem dX8_init_0 : decode cX8_init 0 = .ok (.aload_n 0, 1) := by decide +kernel
theorem dX8_init_1 : decode cX8_init 1 = .ok (.invokespecial 3, 3) := by decide +kernel
theorem dX8_init_4 : decode cX8_init 4 = .ok (.aload_n 0, 1) := by decide +kernel
theorem dX8_init_5 : decode cX8_init 5 = .ok (.bipush 7, 2) := by decide +kernel
theorem dX8_init_7 : decode cX8_init 7 = .ok (.newarray .int, 2) := by decide +kernel
theorem dX8_init_9 : decode cX8_init 9 = .ok (.putfield 9, 3) := by decide +kernel
theorem dX8_init_12 : decode cX8_init 12 = .ok (.aload_n 0, 1) := by decide +kernel
theorem dX8_init_13 : decode cX8_init 13 = .ok (.bipush 7, 2) := by decide +kernel
theorem dX8_init_15 : decode cX8_init 15 = .ok (.newarray .int, 2) := by decide +kernel
theorem dX8_init_17 : decode cX8_init 17 = .ok (.putfield 15, 3) := by decide +kernel
theorem dX8_init_20 : decode cX8_init 20 = .ok (.aload_n 0, 1) := by decide +kernel
theorem dX8_init_21 : decode cX8_init 21 = .ok (.bipush 7, 2) := by decide +kernel
theorem dX8_init_23 : decode cX8_init 23 = .ok (.newarray .int, 2) := by decide +kernel
theorem dX8_init_25 : decode cX8_init 25 = .ok (.putfield 18, 3) := by decide +kernel
theorem dX8_init_28 : decode cX8_init 28 = .ok (.aload_n 0, 1) := by decide +kernel
theorem dX8_init_29 : decode cX8_init 29 = .ok (.bipush 7, 2) := by decide +kernel
theorem dX8_init_31 : decode cX8_init 31 = .ok (.newarray .int, 2) := by decide +kernel
theorem dX8_init_33 : decode cX8_init 33 = .ok (.putfield 21, 3) := by decide +kernel
theorem dX8_init_36 : decode cX8_init 36 = .ok (.return_, 1) := by decide +kernel
theorem dX8_writeTo_0 : decode cX8_writeTo 0 = .ok (.iload_n 2, 1) := by decide +kernel
theorem dX8_writeTo_1 : decode cX8_writeTo 1 = .ok (.ifCond .lt 12, 3) := by decide +kernel
theorem dX8_writeTo_4 : decode cX8_writeTo 4 = .ok (.iload_n 2, 1) := by decide +kernel
theorem dX8_writeTo_5 : decode cX8_writeTo 5 = .ok (.aload_n 1, 1) := by decide +kernel
theorem dX8_writeTo_6 : decode cX8_writeTo 6 = .ok (.arraylength, 1) := by decide +kernel
theorem dX8_writeTo_7 : decode cX8_writeTo 7 = .ok (.bipush 33, 2) := by decide +kernel
theorem dX8_writeTo_9 : decode cX8_writeTo 9 = .ok (.isub, 1) := by decide +kernel
theorem dX8_writeTo_10 : decode cX8_writeTo 10 = .ok (.if_icmp .le 4, 3) := by decide +kernel
theorem dX8_writeTo_13 : decode cX8_writeTo 13 = .ok (.return_, 1) := by decide +kernel
theorem dX8_writeTo_14 : decode cX8_writeTo 14 = .ok (.aload_n 0, 1) := by decide +kernel
theorem dX8_writeTo_15 : decode cX8_writeTo 15 = .ok (.getfield 9, 3) := by decide +kernel
theorem dX8_writeTo_18 : decode cX8_writeTo 18 = .ok (.iconst 0, 1) := by decide +kernel
theorem dX8_writeTo_19 : decode cX8_writeTo 19 = .ok (.aload_n 1, 1) := by decide +kernel
theorem dX8_writeTo_20 : decode cX8_writeTo 20 = .ok (.iload_n 2, 1) := by decide +kernel
theorem dX8_writeTo_21 : decode cX8_writeTo 21 = .ok (.bipush 7, 2) := by decide +kernel
theorem dX8_writeTo_23 : decode cX8_writeTo 23 = .ok (.invokestatic 24, 3) := by decide +kernel
theorem dX8_writeTo_26 : decode cX8_writeTo 26 = .ok (.aload_n 0, 1) := by decide +kernel
theorem dX8_writeTo_27 : decode cX8_writeTo 27 = .ok (.getfield 15, 3) := by decide +kernel
theorem dX8_writeTo_30 : decode cX8_writeTo 30 = .ok (.iconst 0, 1) := by decide +kernel
theorem dX8_writeTo_31 : decode cX8_writeTo 31 = .ok (.aload_n 1, 1) := by decide +kernel
theorem dX8_writeTo_32 : decode cX8_writeTo 32 = .ok (.iload_n 2, 1) := by decide +kernel
theorem dX8_writeTo_33 : decode cX8_writeTo 33 = .ok (.bipush 7, 2) := by decide +kernel
theorem dX8_writeTo_35 : decode cX8_writeTo 35 = .ok (.iadd, 1) := by decide +kernel
theorem dX8_writeTo_36 : decode cX8_writeTo 36 = .ok (.bipush 7, 2) := by decide +kernel
theorem dX8_writeTo_38 : decode cX8_writeTo 38 = .ok (.invokestatic 24, 3) := by decide +kernel
theorem dX8_writeTo_41 : decode cX8_writeTo 41 = .ok (.aload_n 0, 1) := by decide +kernel
theorem dX8_writeTo_42 : decode cX8_writeTo 42 = .ok (.getfield 18, 3) := by decide +kernel
theorem dX8_writeTo_45 : decode cX8_writeTo 45 = .ok (.iconst 0, 1) := by decide +kernel
theorem dX8_writeTo_46 : decode cX8_writeTo 46 = .ok (.aload_n 1, 1) := by decide +kernel
theorem dX8_writeTo_47 : decode cX8_writeTo 47 = .ok (.iload_n 2, 1) := by decide +kernel
theorem dX8_writeTo_48 : decode cX8_writeTo 48 = .ok (.bipush 14, 2) := by decide +kernel
theorem dX8_writeTo_50 : decode cX8_writeTo 50 = .ok (.iadd, 1) := by decide +kernel
theorem dX8_writeTo_51 : decode cX8_writeTo 51 = .ok (.bipush 7, 2) := by decide +kernel
theorem dX8_writeTo_53 : decode cX8_writeTo 53 = .ok (.invokestatic 24, 3) := by decide +kernel
theorem dX8_writeTo_56 : decode cX8_writeTo 56 = .ok (.aload_n 0, 1) := by decide +kernel
theorem dX8_writeTo_57 : decode cX8_writeTo 57 = .ok (.getfield 21, 3) := by decide +kernel
theorem dX8_writeTo_60 : decode cX8_writeTo 60 = .ok (.iconst 0, 1) := by decide +kernel
theorem dX8_writeTo_61 : decode cX8_writeTo 61 = .ok (.aload_n 1, 1) := by decide +kernel
theorem dX8_writeTo_62 : decode cX8_writeTo 62 = .ok (.iload_n 2, 1) := by decide +kernel
theorem dX8_writeTo_63 : decode cX8_writeTo 63 = .ok (.bipush 21, 2) := by decide +kernel
theorem dX8_writeTo_65 : decode cX8_writeTo 65 = .ok (.iadd, 1) := by decide +kernel
theorem dX8_writeTo_66 : decode cX8_writeTo 66 = .ok (.bipush 7, 2) := by decide +kernel
theorem dX8_writeTo_68 : decode cX8_writeTo 68 = .ok (.invokestatic 24, 3) := by decide +kernel
theorem dX8_writeTo_71 : decode cX8_writeTo 71 = .ok (.iload_n 2, 1) := by decide +kernel
theorem dX8_writeTo_72 : decode cX8_writeTo 72 = .ok (.bipush 28, 2) := by decide +kernel
theorem dX8_writeTo_74 : decode cX8_writeTo 74 = .ok (.iadd, 1) := by decide +kernel
theorem dX8_writeTo_75 : decode cX8_writeTo 75 = .ok (.istore_n 3, 1) := by decide +kernel
theorem dX8_writeTo_76 : decode cX8_writeTo 76 = .ok (.aload_n 1, 1) := by decide +kernel
theorem dX8_writeTo_77 : decode cX8_writeTo 77 = .ok (.iload_n 3, 1) := by decide +kernel
theorem dX8_writeTo_78 : decode cX8_writeTo 78 = .ok (.aload_n 0, 1) := by decide +kernel
theorem dX8_writeTo_79 : decode cX8_writeTo 79 = .ok (.getfield 30, 3) := by decide +kernel
theorem dX8_writeTo_82 : decode cX8_writeTo 82 = .ok (.iastore, 1) := by decide +kernel
theorem dX8_writeTo_83 : decode cX8_writeTo 83 = .ok (.aload_n 1, 1) := by decide +kernel
theorem dX8_writeTo_84 : decode cX8_writeTo 84 = .ok (.iload_n 3, 1) := by decide +kernel
theorem dX8_writeTo_85 : decode cX8_writeTo 85 = .ok (.iconst 1, 1) := by decide +kernel
theorem dX8_writeTo_86 : decode cX8_writeTo 86 = .ok (.iadd, 1) := by decide +kernel
theorem dX8_writeTo_87 : decode cX8_writeTo 87 = .ok (.aload_n 0, 1) := by decide +kernel
theorem dX8_writeTo_88 : decode cX8_writeTo 88 = .ok (.getfield 34, 3) := by decide +kernel
theorem dX8_writeTo_91 : decode cX8_writeTo 91 = .ok (.iastore, 1) := by decide +kernel
theorem dX8_writeTo_92 : decode cX8_writeTo 92 = .ok (.aload_n 1, 1) := by decide +kernel
theorem dX8_writeTo_93 : decode cX8_writeTo 93 = .ok (.iload_n 3, 1) := by decide +kernel
theorem dX8_writeTo_94 : decode cX8_writeTo 94 = .ok (.iconst 2, 1) := by decide +kernel
theorem dX8_writeTo_95 : decode cX8_writeTo 95 = .ok (.iadd, 1) := by decide +kernel
theorem dX8_writeTo_96 : decode cX8_writeTo 96 = .ok (.aload_n 0, 1) := by decide +kernel
theorem dX8_writeTo_97 : decode cX8_writeTo 97 = .ok (.getfield 37, 3) := by decide +kernel
theorem dX8_writeTo_100 : decode cX8_writeTo 100 = .ok (.iastore, 1) := by decide +kernel
theorem dX8_writeTo_101 : decode cX8_writeTo 101 = .ok (.aload_n 1, 1) := by decide +kernel
theorem dX8_writeTo_102 : decode cX8_writeTo 102 = .ok (.iload_n 3, 1) := by decide +kernel
theorem dX8_writeTo_103 : decode cX8_writeTo 103 = .ok (.iconst 3, 1) := by decide +kernel
theorem dX8_writeTo_104 : decode cX8_writeTo 104 = .ok (.iadd, 1) := by decide +kernel
theorem dX8_writeTo_105 : decode cX8_writeTo 105 = .ok (.aload_n 0, 1) := by decide +kernel
theorem dX8_writeTo_106 : decode cX8_writeTo 106 = .ok (.getfield 40, 3) := by decide +kernel
theorem dX8_writeTo_109 : decode cX8_writeTo 109 = .ok (.iastore, 1) := by decide +kernel
theorem dX8_writeTo_110 : decode cX8_writeTo 110 = .ok (.aload_n 1, 1) := by decide +kernel
theorem dX8_writeTo_111 : decode cX8_writeTo 111 = .ok (.iload_n 3, 1) := by decide +kernel
theorem dX8_writeTo_112 : decode cX8_writeTo 112 = .ok (.iconst 4, 1) := by decide +kernel
theorem dX8_writeTo_113 : decode cX8_writeTo 113 = .ok (.iadd, 1) := by decide +kernel
theorem dX8_writeTo_114 : decode cX8_writeTo 114 = .ok (.aload_n 0, 1) := by decide +kernel
theorem dX8_writeTo_115 : decode cX8_writeTo 115 = .ok (.getfield 43, 3) := by decide +kernel
theorem dX8_writeTo_118 : decode cX8_writeTo 118 = .ok (.iastore, 1) := by decide +kernel
theorem dX8_writeTo_119 : decode cX8_writeTo 119 = .ok (.return_, 1) := by decide +kernel
theorem dX8_readFrom_0 : decode cX8_readFrom 0 = .ok (.iload_n 2, 1) := by decide +kernel
theorem dX8_readFrom_1 : decode cX8_readFrom 1 = .ok (.ifCond .lt 12, 3) := by decide +kernel
theorem dX8_readFrom_4 : decode cX8_readFrom 4 = .ok (.iload_n 2, 1) := by decide +kernel
theorem dX8_readFrom_5 : decode cX8_readFrom 5 = .ok (.aload_n 1, 1) := by decide +kernel
theorem dX8_readFrom_6 : decode cX8_readFrom 6 = .ok (.arraylength, 1) := by decide +kernel
theorem dX8_readFrom_7 : decode cX8_readFrom 7 = .ok (.bipush 33, 2) := by decide +kernel
theorem dX8_readFrom_9 : decode cX8_readFrom 9 = .ok (.isub, 1) := by decide +kernel
theorem dX8_readFrom_10 : decode cX8_readFrom 10 = .ok (.if_icmp .le 4, 3) := by decide +kernel
theorem dX8_readFrom_13 : decode cX8_readFrom 13 = .ok (.return_, 1) := by decide +kernel
theorem dX8_readFrom_14 : decode cX8_readFrom 14 = .ok (.aload_n 1, 1) := by decide +kernel
theorem dX8_readFrom_15 : decode cX8_readFrom 15 = .ok (.iload_n 2, 1) := by decide +kernel
theorem dX8_readFrom_16 : decode cX8_readFrom 16 = .ok (.aload_n 0, 1) := by decide +kernel
theorem dX8_readFrom_17 : decode cX8_readFrom 17 = .ok (.getfield 9, 3) := by decide +kernel
theorem dX8_readFrom_20 : decode cX8_readFrom 20 = .ok (.iconst 0, 1) := by decide +kernel
theorem dX8_readFrom_21 : decode cX8_readFrom 21 = .ok (.bipush 7, 2) := by decide +kernel
theorem dX8_readFrom_23 : decode cX8_readFrom 23 = .ok (.invokestatic 24, 3) := by decide +kernel
theorem dX8_readFrom_26 : decode cX8_readFrom 26 = .ok (.aload_n 1, 1) := by decide +kernel
theorem dX8_readFrom_27 : decode cX8_readFrom 27 = .ok (.iload_n 2, 1) := by decide +kernel
theorem dX8_readFrom_28 : decode cX8_readFrom 28 = .ok (.bipush 7, 2) := by decide +kernel
theorem dX8_readFrom_30 : decode cX8_readFrom 30 = .ok (.iadd, 1) := by decide +kernel
theorem dX8_readFrom_31 : decode cX8_readFrom 31 = .ok (.aload_n 0, 1) := by decide +kernel
theorem dX8_readFrom_32 : decode cX8_readFrom 32 = .ok (.getfield 15, 3) := by decide +kernel
theorem dX8_readFrom_35 : decode cX8_readFrom 35 = .ok (.iconst 0, 1) := by decide +kernel
theorem dX8_readFrom_36 : decode cX8_readFrom 36 = .ok (.bipush 7, 2) := by decide +kernel
theorem dX8_readFrom_38 : decode cX8_readFrom 38 = .ok (.invokestatic 24, 3) := by decide +kernel
theorem dX8_readFrom_41 : decode cX8_readFrom 41 = .ok (.aload_n 1, 1) := by decide +kernel
theorem dX8_readFrom_42 : decode cX8_readFrom 42 = .ok (.iload_n 2, 1) := by decide +kernel
theorem dX8_readFrom_43 : decode cX8_readFrom 43 = .ok (.bipush 14, 2) := by decide +kernel
theorem dX8_readFrom_45 : decode cX8_readFrom 45 = .ok (.iadd, 1) := by decide +kernel
theorem dX8_readFrom_46 : decode cX8_readFrom 46 = .ok (.aload_n 0, 1) := by decide +kernel
theorem dX8_readFrom_47 : decode cX8_readFrom 47 = .ok (.getfield 18, 3) := by decide +kernel
theorem dX8_readFrom_50 : decode cX8_readFrom 50 = .ok (.iconst 0, 1) := by decide +kernel
theorem dX8_readFrom_51 : decode cX8_readFrom 51 = .ok (.bipush 7, 2) := by decide +kernel
theorem dX8_readFrom_53 : decode cX8_readFrom 53 = .ok (.invokestatic 24, 3) := by decide +kernel
theorem dX8_readFrom_56 : decode cX8_readFrom 56 = .ok (.aload_n 1, 1) := by decide +kernel
theorem dX8_readFrom_57 : decode cX8_readFrom 57 = .ok (.iload_n 2, 1) := by decide +kernel
theorem dX8_readFrom_58 : decode cX8_readFrom 58 = .ok (.bipush 21, 2) := by decide +kernel
theorem dX8_readFrom_60 : decode cX8_readFrom 60 = .ok (.iadd, 1) := by decide +kernel
theorem dX8_readFrom_61 : decode cX8_readFrom 61 = .ok (.aload_n 0, 1) := by decide +kernel
theorem dX8_readFrom_62 : decode cX8_readFrom 62 = .ok (.getfield 21, 3) := by decide +kernel
theorem dX8_readFrom_65 : decode cX8_readFrom 65 = .ok (.iconst 0, 1) := by decide +kernel
theorem dX8_readFrom_66 : decode cX8_readFrom 66 = .ok (.bipush 7, 2) := by decide +kernel
theorem dX8_readFrom_68 : decode cX8_readFrom 68 = .ok (.invokestatic 24, 3) := by decide +kernel
theorem dX8_readFrom_71 : decode cX8_readFrom 71 = .ok (.iload_n 2, 1) := by decide +kernel
theorem dX8_readFrom_72 : decode cX8_readFrom 72 = .ok (.bipush 28, 2) := by decide +kernel
theorem dX8_readFrom_74 : decode cX8_readFrom 74 = .ok (.iadd, 1) := by decide +kernel
theorem dX8_readFrom_75 : decode cX8_readFrom 75 = .ok (.istore_n 3, 1) := by decide +kernel
theorem dX8_readFrom_76 : decode cX8_readFrom 76 = .ok (.aload_n 0, 1) := by decide +kernel
theorem dX8_readFrom_77 : decode cX8_readFrom 77 = .ok (.aload_n 1, 1) := by decide +kernel
theorem dX8_readFrom_78 : decode cX8_readFrom 78 = .ok (.iload_n 3, 1) := by decide +kernel
theorem dX8_readFrom_79 : decode cX8_readFrom 79 = .ok (.iaload, 1) := by decide +kernel
theorem dX8_readFrom_80 : decode cX8_readFrom 80 = .ok (.putfield 30, 3) := by decide +kernel
theorem dX8_readFrom_83 : decode cX8_readFrom 83 = .ok (.aload_n 0, 1) := by decide +kernel
theorem dX8_readFrom_84 : decode cX8_readFrom 84 = .ok (.aload_n 1, 1) := by decide +kernel
theorem dX8_readFrom_85 : decode cX8_readFrom 85 = .ok (.iload_n 3, 1) := by decide +kernel
theorem dX8_readFrom_86 : decode cX8_readFrom 86 = .ok (.iconst 1, 1) := by decide +kernel
theorem dX8_readFrom_87 : decode cX8_readFrom 87 = .ok (.iadd, 1) := by decide +kernel
theorem dX8_readFrom_88 : decode cX8_readFrom 88 = .ok (.iaload, 1) := by decide +kernel
theorem dX8_readFrom_89 : decode cX8_readFrom 89 = .ok (.putfield 34, 3) := by decide +kernel
theorem dX8_readFrom_92 : decode cX8_readFrom 92 = .ok (.aload_n 0, 1) := by decide +kernel
theorem dX8_readFrom_93 : decode cX8_readFrom 93 = .ok (.aload_n 1, 1) := by decide +kernel
theorem dX8_readFrom_94 : decode cX8_readFrom 94 = .ok (.iload_n 3, 1) := by decide +kernel
theorem dX8_readFrom_95 : decode cX8_readFrom 95 = .ok (.iconst 2, 1) := by decide +kernel
theorem dX8_readFrom_96 : decode cX8_readFrom 96 = .ok (.iadd, 1) := by decide +kernel
theorem dX8_readFrom_97 : decode cX8_readFrom 97 = .ok (.iaload, 1) := by decide +kernel
theorem dX8_readFrom_98 : decode cX8_readFrom 98 = .ok (.putfield 37, 3) := by decide +kernel
theorem dX8_readFrom_101 : decode cX8_readFrom 101 = .ok (.aload_n 0, 1) := by decide +kernel
theorem dX8_readFrom_102 : decode cX8_readFrom 102 = .ok (.aload_n 1, 1) := by decide +kernel
theorem dX8_readFrom_103 : decode cX8_readFrom 103 = .ok (.iload_n 3, 1) := by decide +kernel
theorem dX8_readFrom_104 : decode cX8_readFrom 104 = .ok (.iconst 3, 1) := by decide +kernel
theorem dX8_readFrom_105 : decode cX8_readFrom 105 = .ok (.iadd, 1) := by decide +kernel
theorem dX8_readFrom_106 : decode cX8_readFrom 106 = .ok (.iaload, 1) := by decide +kernel
theorem dX8_readFrom_107 : decode cX8_readFrom 107 = .ok (.putfield 40, 3) := by decide +kernel
theorem dX8_readFrom_110 : decode cX8_readFrom 110 = .ok (.aload_n 0, 1) := by decide +kernel
theorem dX8_readFrom_111 : decode cX8_readFrom 111 = .ok (.aload_n 1, 1) := by decide +kernel
theorem dX8_readFrom_112 : decode cX8_readFrom 112 = .ok (.iload_n 3, 1) := by decide +kernel
theorem dX8_readFrom_113 : decode cX8_readFrom 113 = .ok (.iconst 4, 1) := by decide +kernel
theorem dX8_readFrom_114 : decode cX8_readFrom 114 = .ok (.iadd, 1) := by decide +kernel
theorem dX8_readFrom_115 : decode cX8_readFrom 115 = .ok (.iaload, 1) := by decide +kernel
theorem dX8_readFrom_116 : decode cX8_readFrom 116 = .ok (.putfield 43, 3) := by decide +kernel
theorem dX8_readFrom_119 : decode cX8_readFrom 119 = .ok (.return_, 1) := by decide +kernel
theorem dX8_begin_0 : decode cX8_begin 0 = .ok (.aload_n 0, 1) := by decide +kernel
theorem dX8_begin_1 : decode cX8_begin 1 = .ok (.aload_n 1, 1) := by decide +kernel
theorem dX8_begin_2 : decode cX8_begin 2 = .ok (.getfield 46, 3) := by decide +kernel
theorem dX8_begin_5 : decode cX8_begin 5 = .ok (.putfield 51, 3) := by decide +kernel
theorem dX8_begin_8 : decode cX8_begin 8 = .ok (.aload_n 1, 1) := by decide +kernel
theorem dX8_begin_9 : decode cX8_begin 9 = .ok (.getfield 52, 3) := by decide +kernel
theorem dX8_begin_12 : decode cX8_begin 12 = .ok (.iconst 0, 1) := by decide +kernel
theorem dX8_begin_13 : decode cX8_begin 13 = .ok (.aload_n 0, 1) := by decide +kernel
theorem dX8_begin_14 : decode cX8_begin 14 = .ok (.getfield 9, 3) := by decide +kernel
theorem dX8_begin_17 : decode cX8_begin 17 = .ok (.iconst 0, 1) := by decide +kernel
theorem dX8_begin_18 : decode cX8_begin 18 = .ok (.bipush 7, 2) := by decide +kernel
theorem dX8_begin_20 : decode cX8_begin 20 = .ok (.invokestatic 24, 3) := by decide +kernel
theorem dX8_begin_23 : decode cX8_begin 23 = .ok (.aload_n 1, 1) := by decide +kernel
theorem dX8_begin_24 : decode cX8_begin 24 = .ok (.getfield 53, 3) := by decide +kernel
theorem dX8_begin_27 : decode cX8_begin 27 = .ok (.iconst 0, 1) := by decide +kernel
theorem dX8_begin_28 : decode cX8_begin 28 = .ok (.aload_n 0, 1) := by decide +kernel
theorem dX8_begin_29 : decode cX8_begin 29 = .ok (.getfield 15, 3) := by decide +kernel
theorem dX8_begin_32 : decode cX8_begin 32 = .ok (.iconst 0, 1) := by decide +kernel
theorem dX8_begin_33 : decode cX8_begin 33 = .ok (.bipush 7, 2) := by decide +kernel
theorem dX8_begin_35 : decode cX8_begin 35 = .ok (.invokestatic 24, 3) := by decide +kernel
theorem dX8_begin_38 : decode cX8_begin 38 = .ok (.aload_n 0, 1) := by decide +kernel
theorem dX8_begin_39 : decode cX8_begin 39 = .ok (.getfield 18, 3) := by decide +kernel
theorem dX8_begin_42 : decode cX8_begin 42 = .ok (.iconst (-1), 1) := by decide +kernel
theorem dX8_begin_43 : decode cX8_begin 43 = .ok (.invokestatic 54, 3) := by decide +kernel
theorem dX8_begin_46 : decode cX8_begin 46 = .ok (.aload_n 0, 1) := by decide +kernel
theorem dX8_begin_47 : decode cX8_begin 47 = .ok (.getfield 21, 3) := by decide +kernel
theorem dX8_begin_50 : decode cX8_begin 50 = .ok (.iconst (-1), 1) := by decide +kernel
theorem dX8_begin_51 : decode cX8_begin 51 = .ok (.invokestatic 54, 3) := by decide +kernel
theorem dX8_begin_54 : decode cX8_begin 54 = .ok (.aload_n 0, 1) := by decide +kernel
theorem dX8_begin_55 : decode cX8_begin 55 = .ok (.iconst 0, 1) := by decide +kernel
theorem dX8_begin_56 : decode cX8_begin 56 = .ok (.putfield 30, 3) := by decide +kernel
theorem dX8_begin_59 : decode cX8_begin 59 = .ok (.aload_n 0, 1) := by decide +kernel
theorem dX8_begin_60 : decode cX8_begin 60 = .ok (.iconst 0, 1) := by decide +kernel
theorem dX8_begin_61 : decode cX8_begin 61 = .ok (.putfield 34, 3) := by decide +kernel
theorem dX8_begin_64 : decode cX8_begin 64 = .ok (.aload_n 0, 1) := by decide +kernel
theorem dX8_begin_65 : decode cX8_begin 65 = .ok (.iconst 0, 1) := by decide +kernel
theorem dX8_begin_66 : decode cX8_begin 66 = .ok (.putfield 37, 3) := by decide +kernel
theorem dX8_begin_69 : decode cX8_begin 69 = .ok (.aload_n 0, 1) := by decide +kernel
theorem dX8_begin_70 : decode cX8_begin 70 = .ok (.aload_n 1, 1) := by decide +kernel
theorem dX8_begin_71 : decode cX8_begin 71 = .ok (.getfield 60, 3) := by decide +kernel
theorem dX8_begin_74 : decode cX8_begin 74 = .ok (.putfield 40, 3) := by decide +kernel
theorem dX8_begin_77 : decode cX8_begin 77 = .ok (.aload_n 0, 1) := by decide +kernel
theorem dX8_begin_78 : decode cX8_begin 78 = .ok (.iconst 0, 1) := by decide +kernel
theorem dX8_begin_79 : decode cX8_begin 79 = .ok (.putfield 43, 3) := by decide +kernel
theorem dX8_begin_82 : decode cX8_begin 82 = .ok (.return_, 1) := by decide +kernel
theorem dX8_copyFrom_0 : decode cX8_copyFrom 0 = .ok (.aload_n 1, 1) := by decide +kernel
theorem dX8_copyFrom_1 : decode cX8_copyFrom 1 = .ok (.getfield 9, 3) := by decide +kernel
theorem dX8_copyFrom_4 : decode cX8_copyFrom 4 = .ok (.iconst 0, 1) := by decide +kernel
theorem dX8_copyFrom_5 : decode cX8_copyFrom 5 = .ok (.aload_n 0, 1) := by decide +kernel
theorem dX8_copyFrom_6 : decode cX8_copyFrom 6 = .ok (.getfield 9, 3) := by decide +kernel
theorem dX8_copyFrom_9 : decode cX8_copyFrom 9 = .ok (.iconst 0, 1) := by decide +kernel
theorem dX8_copyFrom_10 : decode cX8_copyFrom 10 = .ok (.bipush 7, 2) := by decide +kernel
theorem dX8_copyFrom_12 : decode cX8_copyFrom 12 = .ok (.invokestatic 24, 3) := by decide +kernel
theorem dX8_copyFrom_15 : decode cX8_copyFrom 15 = .ok (.aload_n 1, 1) := by decide +kernel
theorem dX8_copyFrom_16 : decode cX8_copyFrom 16 = .ok (.getfield 15, 3) := by decide +kernel
theorem dX8_copyFrom_19 : decode cX8_copyFrom 19 = .ok (.iconst 0, 1) := by decide +kernel
theorem dX8_copyFrom_20 : decode cX8_copyFrom 20 = .ok (.aload_n 0, 1) := by decide +kernel
theorem dX8_copyFrom_21 : decode cX8_copyFrom 21 = .ok (.getfield 15, 3) := by decide +kernel
theorem dX8_copyFrom_24 : decode cX8_copyFrom 24 = .ok (.iconst 0, 1) := by decide +kernel
theorem dX8_copyFrom_25 : decode cX8_copyFrom 25 = .ok (.bipush 7, 2) := by decide +kernel
theorem dX8_copyFrom_27 : decode cX8_copyFrom 27 = .ok (.invokestatic 24, 3) := by decide +kernel
theorem dX8_copyFrom_30 : decode cX8_copyFrom 30 = .ok (.aload_n 1, 1) := by decide +kernel
theorem dX8_copyFrom_31 : decode cX8_copyFrom 31 = .ok (.getfield 18, 3) := by decide +kernel
theorem dX8_copyFrom_34 : decode cX8_copyFrom 34 = .ok (.iconst 0, 1) := by decide +kernel
theorem dX8_copyFrom_35 : decode cX8_copyFrom 35 = .ok (.aload_n 0, 1) := by decide +kernel
theorem dX8_copyFrom_36 : decode cX8_copyFrom 36 = .ok (.getfield 18, 3) := by decide +kernel
theorem dX8_copyFrom_39 : decode cX8_copyFrom 39 = .ok (.iconst 0, 1) := by decide +kernel
theorem dX8_copyFrom_40 : decode cX8_copyFrom 40 = .ok (.bipush 7, 2) := by decide +kernel
theorem dX8_copyFrom_42 : decode cX8_copyFrom 42 = .ok (.invokestatic 24, 3) := by decide +kernel
theorem dX8_copyFrom_45 : decode cX8_copyFrom 45 = .ok (.aload_n 1, 1) := by decide +kernel
theorem dX8_copyFrom_46 : decode cX8_copyFrom 46 = .ok (.getfield 21, 3) := by decide +kernel
theorem dX8_copyFrom_49 : decode cX8_copyFrom 49 = .ok (.iconst 0, 1) := by decide +kernel
theorem dX8_copyFrom_50 : decode cX8_copyFrom 50 = .ok (.aload_n 0, 1) := by decide +kernel
theorem dX8_copyFrom_51 : decode cX8_copyFrom 51 = .ok (.getfield 21, 3) := by decide +kernel
theorem dX8_copyFrom_54 : decode cX8_copyFrom 54 = .ok (.iconst 0, 1) := by decide +kernel
theorem dX8_copyFrom_55 : decode cX8_copyFrom 55 = .ok (.bipush 7, 2) := by decide +kernel
theorem dX8_copyFrom_57 : decode cX8_copyFrom 57 = .ok (.invokestatic 24, 3) := by decide +kernel
theorem dX8_copyFrom_60 : decode cX8_copyFrom 60 = .ok (.aload_n 0, 1) := by decide +kernel
theorem dX8_copyFrom_61 : decode cX8_copyFrom 61 = .ok (.aload_n 1, 1) := by decide +kernel
theorem dX8_copyFrom_62 : decode cX8_copyFrom 62 = .ok (.getfield 51, 3) := by decide +kernel
theorem dX8_copyFrom_65 : decode cX8_copyFrom 65 = .ok (.putfield 51, 3) := by decide +kernel
theorem dX8_copyFrom_68 : decode cX8_copyFrom 68 = .ok (.aload_n 0, 1) := by decide +kernel
theorem dX8_copyFrom_69 : decode cX8_copyFrom 69 = .ok (.aload_n 1, 1) := by decide +kernel
theorem dX8_copyFrom_70 : decode cX8_copyFrom 70 = .ok (.getfield 30, 3) := by decide +kernel
theorem dX8_copyFrom_73 : decode cX8_copyFrom 73 = .ok (.putfield 30, 3) := by decide +kernel
theorem dX8_copyFrom_76 : decode cX8_copyFrom 76 = .ok (.aload_n 0, 1) := by decide +kernel
theorem dX8_copyFrom_77 : decode cX8_copyFrom 77 = .ok (.aload_n 1, 1) := by decide +kernel
theorem dX8_copyFrom_78 : decode cX8_copyFrom 78 = .ok (.getfield 34, 3) := by decide +kernel
theorem dX8_copyFrom_81 : decode cX8_copyFrom 81 = .ok (.putfield 34, 3) := by decide +kernel
theorem dX8_copyFrom_84 : decode cX8_copyFrom 84 = .ok (.aload_n 0, 1) := by decide +kernel
theorem dX8_copyFrom_85 : decode cX8_copyFrom 85 = .ok (.aload_n 1, 1) := by decide +kernel
theorem dX8_copyFrom_86 : decode cX8_copyFrom 86 = .ok (.getfield 37, 3) := by decide +kernel
theorem dX8_copyFrom_89 : decode cX8_copyFrom 89 = .ok (.putfield 37, 3) := by decide +kernel
theorem dX8_copyFrom_92 : decode cX8_copyFrom 92 = .ok (.aload_n 0, 1) := by decide +kernel
theorem dX8_copyFrom_93 : decode cX8_copyFrom 93 = .ok (.aload_n 1, 1) := by decide +kernel
theorem dX8_copyFrom_94 : decode cX8_copyFrom 94 = .ok (.getfield 40, 3) := by decide +kernel
theorem dX8_copyFrom_97 : decode cX8_copyFrom 97 = .ok (.putfield 40, 3) := by decide +kernel
theorem dX8_copyFrom_100 : decode cX8_copyFrom 100 = .ok (.aload_n 0, 1) := by decide +kernel
theorem dX8_copyFrom_101 : decode cX8_copyFrom 101 = .ok (.aload_n 1, 1) := by decide +kernel
theorem dX8_copyFrom_102 : decode cX8_copyFrom 102 = .ok (.getfield 43, 3) := by decide +kernel
theorem dX8_copyFrom_105 : decode cX8_copyFrom 105 = .ok (.putfield 43, 3) := by decide +kernel
theorem dX8_copyFrom_108 : decode cX8_copyFrom 108 = .ok (.return_, 1) := by decide +kernel
theorem dX8_isSold_0 : decode cX8_isSold 0 = .ok (.aload_n 0, 1) := by decide +kernel
theorem dX8_isSold_1 : decode cX8_isSold 1 = .ok (.getfield 30, 3) := by decide +kernel
theorem dX8_isSold_4 : decode cX8_isSold 4 = .ok (.iload_n 1, 1) := by decide +kernel
theorem dX8_isSold_5 : decode cX8_isSold 5 = .ok (.ishr, 1) := by decide +kernel
theorem dX8_isSold_6 : decode cX8_isSold 6 = .ok (.iconst 1, 1) := by decide +kernel
theorem dX8_isSold_7 : decode cX8_isSold 7 = .ok (.iand, 1) := by decide +kernel
theorem dX8_isSold_8 : decode cX8_isSold 8 = .ok (.iconst 1, 1) := by decide +kernel
theorem dX8_isSold_9 : decode cX8_isSold 9 = .ok (.if_icmp .ne 7, 3) := by decide +kernel
theorem dX8_isSold_12 : decode cX8_isSold 12 = .ok (.iconst 1, 1) := by decide +kernel
theorem dX8_isSold_13 : decode cX8_isSold 13 = .ok (.goto 4, 3) := by decide +kernel
theorem dX8_isSold_16 : decode cX8_isSold 16 = .ok (.iconst 0, 1) := by decide +kernel
theorem dX8_isSold_17 : decode cX8_isSold 17 = .ok (.ireturn, 1) := by decide +kernel
theorem dX8_isKnotted_0 : decode cX8_isKnotted 0 = .ok (.aload_n 0, 1) := by decide +kernel
theorem dX8_isKnotted_1 : decode cX8_isKnotted 1 = .ok (.getfield 18, 3) := by decide +kernel
theorem dX8_isKnotted_4 : decode cX8_isKnotted 4 = .ok (.iload_n 1, 1) := by decide +kernel
theorem dX8_isKnotted_5 : decode cX8_isKnotted 5 = .ok (.iaload, 1) := by decide +kernel
theorem dX8_isKnotted_6 : decode cX8_isKnotted 6 = .ok (.iconst (-1), 1) := by decide +kernel
theorem dX8_isKnotted_7 : decode cX8_isKnotted 7 = .ok (.if_icmp .ne 13, 3) := by decide +kernel
theorem dX8_isKnotted_10 : decode cX8_isKnotted 10 = .ok (.aload_n 0, 1) := by decide +kernel
theorem dX8_isKnotted_11 : decode cX8_isKnotted 11 = .ok (.getfield 21, 3) := by decide +kernel
theorem dX8_isKnotted_14 : decode cX8_isKnotted 14 = .ok (.iload_n 1, 1) := by decide +kernel
theorem dX8_isKnotted_15 : decode cX8_isKnotted 15 = .ok (.iaload, 1) := by decide +kernel
theorem dX8_isKnotted_16 : decode cX8_isKnotted 16 = .ok (.iconst (-1), 1) := by decide +kernel
theorem dX8_isKnotted_17 : decode cX8_isKnotted 17 = .ok (.if_icmp .eq 7, 3) := by decide +kernel
theorem dX8_isKnotted_20 : decode cX8_isKnotted 20 = .ok (.iconst 1, 1) := by decide +kernel
theorem dX8_isKnotted_21 : decode cX8_isKnotted 21 = .ok (.goto 4, 3) := by decide +kernel
theorem dX8_isKnotted_24 : decode cX8_isKnotted 24 = .ok (.iconst 0, 1) := by decide +kernel
theorem dX8_isKnotted_25 : decode cX8_isKnotted 25 = .ok (.ireturn, 1) := by decide +kernel
theorem dX8_isLoose_0 : decode cX8_isLoose 0 = .ok (.aload_n 0, 1) := by decide +kernel
theorem dX8_isLoose_1 : decode cX8_isLoose 1 = .ok (.iload_n 1, 1) := by decide +kernel
theorem dX8_isLoose_2 : decode cX8_isLoose 2 = .ok (.invokevirtual 61, 3) := by decide +kernel
theorem dX8_isLoose_5 : decode cX8_isLoose 5 = .ok (.ifCond .ne 15, 3) := by decide +kernel
theorem dX8_isLoose_8 : decode cX8_isLoose 8 = .ok (.aload_n 0, 1) := by decide +kernel
theorem dX8_isLoose_9 : decode cX8_isLoose 9 = .ok (.iload_n 1, 1) := by decide +kernel
theorem dX8_isLoose_10 : decode cX8_isLoose 10 = .ok (.invokevirtual 65, 3) := by decide +kernel
theorem dX8_isLoose_13 : decode cX8_isLoose 13 = .ok (.ifCond .ne 7, 3) := by decide +kernel
theorem dX8_isLoose_16 : decode cX8_isLoose 16 = .ok (.iconst 1, 1) := by decide +kernel
theorem dX8_isLoose_17 : decode cX8_isLoose 17 = .ok (.goto 4, 3) := by decide +kernel
theorem dX8_isLoose_20 : decode cX8_isLoose 20 = .ok (.iconst 0, 1) := by decide +kernel
theorem dX8_isLoose_21 : decode cX8_isLoose 21 = .ok (.ireturn, 1) := by decide +kernel
theorem dX8_looseBits_0 : decode cX8_looseBits 0 = .ok (.iconst 0, 1) := by decide +kernel
theorem dX8_looseBits_1 : decode cX8_looseBits 1 = .ok (.istore_n 1, 1) := by decide +kernel
theorem dX8_looseBits_2 : decode cX8_looseBits 2 = .ok (.iconst 0, 1) := by decide +kernel
theorem dX8_looseBits_3 : decode cX8_looseBits 3 = .ok (.istore_n 2, 1) := by decide +kernel
theorem dX8_looseBits_4 : decode cX8_looseBits 4 = .ok (.iload_n 2, 1) := by decide +kernel
theorem dX8_looseBits_5 : decode cX8_looseBits 5 = .ok (.aload_n 0, 1) := by decide +kernel
theorem dX8_looseBits_6 : decode cX8_looseBits 6 = .ok (.getfield 51, 3) := by decide +kernel
theorem dX8_looseBits_9 : decode cX8_looseBits 9 = .ok (.if_icmp .ge 23, 3) := by decide +kernel
theorem dX8_looseBits_12 : decode cX8_looseBits 12 = .ok (.aload_n 0, 1) := by decide +kernel
theorem dX8_looseBits_13 : decode cX8_looseBits 13 = .ok (.iload_n 2, 1) := by decide +kernel
theorem dX8_looseBits_14 : decode cX8_looseBits 14 = .ok (.invokevirtual 68, 3) := by decide +kernel
theorem dX8_looseBits_17 : decode cX8_looseBits 17 = .ok (.ifCond .eq 9, 3) := by decide +kernel
theorem dX8_looseBits_20 : decode cX8_looseBits 20 = .ok (.iload_n 1, 1) := by decide +kernel
theorem dX8_looseBits_21 : decode cX8_looseBits 21 = .ok (.iconst 1, 1) := by decide +kernel
theorem dX8_looseBits_22 : decode cX8_looseBits 22 = .ok (.iload_n 2, 1) := by decide +kernel
theorem dX8_looseBits_23 : decode cX8_looseBits 23 = .ok (.ishl, 1) := by decide +kernel
theorem dX8_looseBits_24 : decode cX8_looseBits 24 = .ok (.ior, 1) := by decide +kernel
theorem dX8_looseBits_25 : decode cX8_looseBits 25 = .ok (.istore_n 1, 1) := by decide +kernel
theorem dX8_looseBits_26 : decode cX8_looseBits 26 = .ok (.iinc 2 1, 3) := by decide +kernel
theorem dX8_looseBits_29 : decode cX8_looseBits 29 = .ok (.goto (-25), 3) := by decide +kernel
theorem dX8_looseBits_32 : decode cX8_looseBits 32 = .ok (.iload_n 1, 1) := by decide +kernel
theorem dX8_looseBits_33 : decode cX8_looseBits 33 = .ok (.ireturn, 1) := by decide +kernel
theorem dX8_firstOf_0 : decode cX8_firstOf 0 = .ok (.iload_n 1, 1) := by decide +kernel
theorem dX8_firstOf_1 : decode cX8_firstOf 1 = .ok (.istore_n 2, 1) := by decide +kernel
theorem dX8_firstOf_2 : decode cX8_firstOf 2 = .ok (.iconst 0, 1) := by decide +kernel
theorem dX8_firstOf_3 : decode cX8_firstOf 3 = .ok (.istore_n 3, 1) := by decide +kernel
theorem dX8_firstOf_4 : decode cX8_firstOf 4 = .ok (.iload_n 3, 1) := by decide +kernel
theorem dX8_firstOf_5 : decode cX8_firstOf 5 = .ok (.aload_n 0, 1) := by decide +kernel
theorem dX8_firstOf_6 : decode cX8_firstOf 6 = .ok (.getfield 51, 3) := by decide +kernel
theorem dX8_firstOf_9 : decode cX8_firstOf 9 = .ok (.if_icmp .ge 26, 3) := by decide +kernel
theorem dX8_firstOf_12 : decode cX8_firstOf 12 = .ok (.aload_n 0, 1) := by decide +kernel
theorem dX8_firstOf_13 : decode cX8_firstOf 13 = .ok (.getfield 21, 3) := by decide +kernel
theorem dX8_firstOf_16 : decode cX8_firstOf 16 = .ok (.iload_n 2, 1) := by decide +kernel
theorem dX8_firstOf_17 : decode cX8_firstOf 17 = .ok (.iaload, 1) := by decide +kernel
theorem dX8_firstOf_18 : decode cX8_firstOf 18 = .ok (.iconst (-1), 1) := by decide +kernel
theorem dX8_firstOf_19 : decode cX8_firstOf 19 = .ok (.if_icmp .eq 16, 3) := by decide +kernel
theorem dX8_firstOf_22 : decode cX8_firstOf 22 = .ok (.aload_n 0, 1) := by decide +kernel
theorem dX8_firstOf_23 : decode cX8_firstOf 23 = .ok (.getfield 21, 3) := by decide +kernel
theorem dX8_firstOf_26 : decode cX8_firstOf 26 = .ok (.iload_n 2, 1) := by decide +kernel
theorem dX8_firstOf_27 : decode cX8_firstOf 27 = .ok (.iaload, 1) := by decide +kernel
theorem dX8_firstOf_28 : decode cX8_firstOf 28 = .ok (.istore_n 2, 1) := by decide +kernel
theorem dX8_firstOf_29 : decode cX8_firstOf 29 = .ok (.iinc 3 1, 3) := by decide +kernel
theorem dX8_firstOf_32 : decode cX8_firstOf 32 = .ok (.goto (-28), 3) := by decide +kernel
theorem dX8_firstOf_35 : decode cX8_firstOf 35 = .ok (.iload_n 2, 1) := by decide +kernel
theorem dX8_firstOf_36 : decode cX8_firstOf 36 = .ok (.ireturn, 1) := by decide +kernel
theorem dX8_lastOf_0 : decode cX8_lastOf 0 = .ok (.iload_n 1, 1) := by decide +kernel
theorem dX8_lastOf_1 : decode cX8_lastOf 1 = .ok (.istore_n 2, 1) := by decide +kernel
theorem dX8_lastOf_2 : decode cX8_lastOf 2 = .ok (.iconst 0, 1) := by decide +kernel
theorem dX8_lastOf_3 : decode cX8_lastOf 3 = .ok (.istore_n 3, 1) := by decide +kernel
theorem dX8_lastOf_4 : decode cX8_lastOf 4 = .ok (.iload_n 3, 1) := by decide +kernel
theorem dX8_lastOf_5 : decode cX8_lastOf 5 = .ok (.aload_n 0, 1) := by decide +kernel
theorem dX8_lastOf_6 : decode cX8_lastOf 6 = .ok (.getfield 51, 3) := by decide +kernel
theorem dX8_lastOf_9 : decode cX8_lastOf 9 = .ok (.if_icmp .ge 26, 3) := by decide +kernel
theorem dX8_lastOf_12 : decode cX8_lastOf 12 = .ok (.aload_n 0, 1) := by decide +kernel
theorem dX8_lastOf_13 : decode cX8_lastOf 13 = .ok (.getfield 18, 3) := by decide +kernel
theorem dX8_lastOf_16 : decode cX8_lastOf 16 = .ok (.iload_n 2, 1) := by decide +kernel
theorem dX8_lastOf_17 : decode cX8_lastOf 17 = .ok (.iaload, 1) := by decide +kernel
theorem dX8_lastOf_18 : decode cX8_lastOf 18 = .ok (.iconst (-1), 1) := by decide +kernel
theorem dX8_lastOf_19 : decode cX8_lastOf 19 = .ok (.if_icmp .eq 16, 3) := by decide +kernel
theorem dX8_lastOf_22 : decode cX8_lastOf 22 = .ok (.aload_n 0, 1) := by decide +kernel
theorem dX8_lastOf_23 : decode cX8_lastOf 23 = .ok (.getfield 18, 3) := by decide +kernel
theorem dX8_lastOf_26 : decode cX8_lastOf 26 = .ok (.iload_n 2, 1) := by decide +kernel
theorem dX8_lastOf_27 : decode cX8_lastOf 27 = .ok (.iaload, 1) := by decide +kernel
theorem dX8_lastOf_28 : decode cX8_lastOf 28 = .ok (.istore_n 2, 1) := by decide +kernel
theorem dX8_lastOf_29 : decode cX8_lastOf 29 = .ok (.iinc 3 1, 3) := by decide +kernel
theorem dX8_lastOf_32 : decode cX8_lastOf 32 = .ok (.goto (-28), 3) := by decide +kernel
theorem dX8_lastOf_35 : decode cX8_lastOf 35 = .ok (.iload_n 2, 1) := by decide +kernel
theorem dX8_lastOf_36 : decode cX8_lastOf 36 = .ok (.ireturn, 1) := by decide +kernel
theorem dX8_taleOf_0 : decode cX8_taleOf 0 = .ok (.iconst 0, 1) := by decide +kernel
theorem dX8_taleOf_1 : decode cX8_taleOf 1 = .ok (.istore_n 2, 1) := by decide +kernel
theorem dX8_taleOf_2 : decode cX8_taleOf 2 = .ok (.aload_n 0, 1) := by decide +kernel
theorem dX8_taleOf_3 : decode cX8_taleOf 3 = .ok (.iload_n 1, 1) := by decide +kernel
theorem dX8_taleOf_4 : decode cX8_taleOf 4 = .ok (.invokevirtual 71, 3) := by decide +kernel
theorem dX8_taleOf_7 : decode cX8_taleOf 7 = .ok (.istore_n 3, 1) := by decide +kernel
theorem dX8_taleOf_8 : decode cX8_taleOf 8 = .ok (.iconst 0, 1) := by decide +kernel
theorem dX8_taleOf_9 : decode cX8_taleOf 9 = .ok (.istore 4, 2) := by decide +kernel
theorem dX8_taleOf_11 : decode cX8_taleOf 11 = .ok (.iload 4, 2) := by decide +kernel
theorem dX8_taleOf_13 : decode cX8_taleOf 13 = .ok (.aload_n 0, 1) := by decide +kernel
theorem dX8_taleOf_14 : decode cX8_taleOf 14 = .ok (.getfield 51, 3) := by decide +kernel
theorem dX8_taleOf_17 : decode cX8_taleOf 17 = .ok (.if_icmp .ge 27, 3) := by decide +kernel
theorem dX8_taleOf_20 : decode cX8_taleOf 20 = .ok (.iload_n 3, 1) := by decide +kernel
theorem dX8_taleOf_21 : decode cX8_taleOf 21 = .ok (.iconst (-1), 1) := by decide +kernel
theorem dX8_taleOf_22 : decode cX8_taleOf 22 = .ok (.if_icmp .eq 22, 3) := by decide +kernel
theorem dX8_taleOf_25 : decode cX8_taleOf 25 = .ok (.iload_n 2, 1) := by decide +kernel
theorem dX8_taleOf_26 : decode cX8_taleOf 26 = .ok (.iconst 1, 1) := by decide +kernel
theorem dX8_taleOf_27 : decode cX8_taleOf 27 = .ok (.iload_n 3, 1) := by decide +kernel
theorem dX8_taleOf_28 : decode cX8_taleOf 28 = .ok (.ishl, 1) := by decide +kernel
theorem dX8_taleOf_29 : decode cX8_taleOf 29 = .ok (.ior, 1) := by decide +kernel
theorem dX8_taleOf_30 : decode cX8_taleOf 30 = .ok (.istore_n 2, 1) := by decide +kernel
theorem dX8_taleOf_31 : decode cX8_taleOf 31 = .ok (.aload_n 0, 1) := by decide +kernel
theorem dX8_taleOf_32 : decode cX8_taleOf 32 = .ok (.getfield 18, 3) := by decide +kernel
theorem dX8_taleOf_35 : decode cX8_taleOf 35 = .ok (.iload_n 3, 1) := by decide +kernel
theorem dX8_taleOf_36 : decode cX8_taleOf 36 = .ok (.iaload, 1) := by decide +kernel
theorem dX8_taleOf_37 : decode cX8_taleOf 37 = .ok (.istore_n 3, 1) := by decide +kernel
theorem dX8_taleOf_38 : decode cX8_taleOf 38 = .ok (.iinc 4 1, 3) := by decide +kernel
theorem dX8_taleOf_41 : decode cX8_taleOf 41 = .ok (.goto (-30), 3) := by decide +kernel
theorem dX8_taleOf_44 : decode cX8_taleOf 44 = .ok (.iload_n 2, 1) := by decide +kernel
theorem dX8_taleOf_45 : decode cX8_taleOf 45 = .ok (.ireturn, 1) := by decide +kernel
theorem dX8_sizeOf_0 : decode cX8_sizeOf 0 = .ok (.aload_n 0, 1) := by decide +kernel
theorem dX8_sizeOf_1 : decode cX8_sizeOf 1 = .ok (.iload_n 1, 1) := by decide +kernel
theorem dX8_sizeOf_2 : decode cX8_sizeOf 2 = .ok (.invokevirtual 75, 3) := by decide +kernel
theorem dX8_sizeOf_5 : decode cX8_sizeOf 5 = .ok (.invokestatic 78, 3) := by decide +kernel
theorem dX8_sizeOf_8 : decode cX8_sizeOf 8 = .ok (.ireturn, 1) := by decide +kernel
theorem dX8_lengthOf_0 : decode cX8_lengthOf 0 = .ok (.iconst 0, 1) := by decide +kernel
theorem dX8_lengthOf_1 : decode cX8_lengthOf 1 = .ok (.istore_n 2, 1) := by decide +kernel
theorem dX8_lengthOf_2 : decode cX8_lengthOf 2 = .ok (.iconst 0, 1) := by decide +kernel
theorem dX8_lengthOf_3 : decode cX8_lengthOf 3 = .ok (.istore_n 3, 1) := by decide +kernel
theorem dX8_lengthOf_4 : decode cX8_lengthOf 4 = .ok (.iload_n 3, 1) := by decide +kernel
theorem dX8_lengthOf_5 : decode cX8_lengthOf 5 = .ok (.aload_n 0, 1) := by decide +kernel
theorem dX8_lengthOf_6 : decode cX8_lengthOf 6 = .ok (.getfield 51, 3) := by decide +kernel
theorem dX8_lengthOf_9 : decode cX8_lengthOf 9 = .ok (.if_icmp .ge 27, 3) := by decide +kernel
theorem dX8_lengthOf_12 : decode cX8_lengthOf 12 = .ok (.iload_n 1, 1) := by decide +kernel
theorem dX8_lengthOf_13 : decode cX8_lengthOf 13 = .ok (.iload_n 3, 1) := by decide +kernel
theorem dX8_lengthOf_14 : decode cX8_lengthOf 14 = .ok (.ishr, 1) := by decide +kernel
theorem dX8_lengthOf_15 : decode cX8_lengthOf 15 = .ok (.iconst 1, 1) := by decide +kernel
theorem dX8_lengthOf_16 : decode cX8_lengthOf 16 = .ok (.iand, 1) := by decide +kernel
theorem dX8_lengthOf_17 : decode cX8_lengthOf 17 = .ok (.iconst 1, 1) := by decide +kernel
theorem dX8_lengthOf_18 : decode cX8_lengthOf 18 = .ok (.if_icmp .ne 12, 3) := by decide +kernel
theorem dX8_lengthOf_21 : decode cX8_lengthOf 21 = .ok (.iload_n 2, 1) := by decide +kernel
theorem dX8_lengthOf_22 : decode cX8_lengthOf 22 = .ok (.aload_n 0, 1) := by decide +kernel
theorem dX8_lengthOf_23 : decode cX8_lengthOf 23 = .ok (.getfield 15, 3) := by decide +kernel
theorem dX8_lengthOf_26 : decode cX8_lengthOf 26 = .ok (.iload_n 3, 1) := by decide +kernel
theorem dX8_lengthOf_27 : decode cX8_lengthOf 27 = .ok (.iaload, 1) := by decide +kernel
theorem dX8_lengthOf_28 : decode cX8_lengthOf 28 = .ok (.iadd, 1) := by decide +kernel
theorem dX8_lengthOf_29 : decode cX8_lengthOf 29 = .ok (.istore_n 2, 1) := by decide +kernel
theorem dX8_lengthOf_30 : decode cX8_lengthOf 30 = .ok (.iinc 3 1, 3) := by decide +kernel
theorem dX8_lengthOf_33 : decode cX8_lengthOf 33 = .ok (.goto (-29), 3) := by decide +kernel
theorem dX8_lengthOf_36 : decode cX8_lengthOf 36 = .ok (.iload_n 2, 1) := by decide +kernel
theorem dX8_lengthOf_37 : decode cX8_lengthOf 37 = .ok (.ireturn, 1) := by decide +kernel
theorem dX8_priceOf_0 : decode cX8_priceOf 0 = .ok (.aload_n 0, 1) := by decide +kernel
theorem dX8_priceOf_1 : decode cX8_priceOf 1 = .ok (.iload_n 1, 1) := by decide +kernel
theorem dX8_priceOf_2 : decode cX8_priceOf 2 = .ok (.invokevirtual 83, 3) := by decide +kernel
theorem dX8_priceOf_5 : decode cX8_priceOf 5 = .ok (.iload_n 1, 1) := by decide +kernel
theorem dX8_priceOf_6 : decode cX8_priceOf 6 = .ok (.invokestatic 78, 3) := by decide +kernel
theorem dX8_priceOf_9 : decode cX8_priceOf 9 = .ok (.imul, 1) := by decide +kernel
theorem dX8_priceOf_10 : decode cX8_priceOf 10 = .ok (.iconst 4, 1) := by decide +kernel
theorem dX8_priceOf_11 : decode cX8_priceOf 11 = .ok (.idiv, 1) := by decide +kernel
theorem dX8_priceOf_12 : decode cX8_priceOf 12 = .ok (.ireturn, 1) := by decide +kernel
theorem dX8_neighboursOf_0 : decode cX8_neighboursOf 0 = .ok (.iconst 0, 1) := by decide +kernel
theorem dX8_neighboursOf_1 : decode cX8_neighboursOf 1 = .ok (.istore_n 2, 1) := by decide +kernel
theorem dX8_neighboursOf_2 : decode cX8_neighboursOf 2 = .ok (.aload_n 0, 1) := by decide +kernel
theorem dX8_neighboursOf_3 : decode cX8_neighboursOf 3 = .ok (.getfield 18, 3) := by decide +kernel
theorem dX8_neighboursOf_6 : decode cX8_neighboursOf 6 = .ok (.iload_n 1, 1) := by decide +kernel
theorem dX8_neighboursOf_7 : decode cX8_neighboursOf 7 = .ok (.iaload, 1) := by decide +kernel
theorem dX8_neighboursOf_8 : decode cX8_neighboursOf 8 = .ok (.iconst (-1), 1) := by decide +kernel
theorem dX8_neighboursOf_9 : decode cX8_neighboursOf 9 = .ok (.if_icmp .eq 14, 3) := by decide +kernel
theorem dX8_neighboursOf_12 : decode cX8_neighboursOf 12 = .ok (.iload_n 2, 1) := by decide +kernel
theorem dX8_neighboursOf_13 : decode cX8_neighboursOf 13 = .ok (.iconst 1, 1) := by decide +kernel
theorem dX8_neighboursOf_14 : decode cX8_neighboursOf 14 = .ok (.aload_n 0, 1) := by decide +kernel
theorem dX8_neighboursOf_15 : decode cX8_neighboursOf 15 = .ok (.getfield 18, 3) := by decide +kernel
theorem dX8_neighboursOf_18 : decode cX8_neighboursOf 18 = .ok (.iload_n 1, 1) := by decide +kernel
theorem dX8_neighboursOf_19 : decode cX8_neighboursOf 19 = .ok (.iaload, 1) := by decide +kernel
theorem dX8_neighboursOf_20 : decode cX8_neighboursOf 20 = .ok (.ishl, 1) := by decide +kernel
theorem dX8_neighboursOf_21 : decode cX8_neighboursOf 21 = .ok (.ior, 1) := by decide +kernel
theorem dX8_neighboursOf_22 : decode cX8_neighboursOf 22 = .ok (.istore_n 2, 1) := by decide +kernel
theorem dX8_neighboursOf_23 : decode cX8_neighboursOf 23 = .ok (.aload_n 0, 1) := by decide +kernel
theorem dX8_neighboursOf_24 : decode cX8_neighboursOf 24 = .ok (.getfield 21, 3) := by decide +kernel
theorem dX8_neighboursOf_27 : decode cX8_neighboursOf 27 = .ok (.iload_n 1, 1) := by decide +kernel
theorem dX8_neighboursOf_28 : decode cX8_neighboursOf 28 = .ok (.iaload, 1) := by decide +kernel
theorem dX8_neighboursOf_29 : decode cX8_neighboursOf 29 = .ok (.iconst (-1), 1) := by decide +kernel
theorem dX8_neighboursOf_30 : decode cX8_neighboursOf 30 = .ok (.if_icmp .eq 14, 3) := by decide +kernel
theorem dX8_neighboursOf_33 : decode cX8_neighboursOf 33 = .ok (.iload_n 2, 1) := by decide +kernel
theorem dX8_neighboursOf_34 : decode cX8_neighboursOf 34 = .ok (.iconst 1, 1) := by decide +kernel
theorem dX8_neighboursOf_35 : decode cX8_neighboursOf 35 = .ok (.aload_n 0, 1) := by decide +kernel
theorem dX8_neighboursOf_36 : decode cX8_neighboursOf 36 = .ok (.getfield 21, 3) := by decide +kernel
theorem dX8_neighboursOf_39 : decode cX8_neighboursOf 39 = .ok (.iload_n 1, 1) := by decide +kernel
theorem dX8_neighboursOf_40 : decode cX8_neighboursOf 40 = .ok (.iaload, 1) := by decide +kernel
theorem dX8_neighboursOf_41 : decode cX8_neighboursOf 41 = .ok (.ishl, 1) := by decide +kernel
theorem dX8_neighboursOf_42 : decode cX8_neighboursOf 42 = .ok (.ior, 1) := by decide +kernel
theorem dX8_neighboursOf_43 : decode cX8_neighboursOf 43 = .ok (.istore_n 2, 1) := by decide +kernel
theorem dX8_neighboursOf_44 : decode cX8_neighboursOf 44 = .ok (.iload_n 2, 1) := by decide +kernel
theorem dX8_neighboursOf_45 : decode cX8_neighboursOf 45 = .ok (.ireturn, 1) := by decide +kernel
theorem dX8_isOpen_0 : decode cX8_isOpen 0 = .ok (.iload_n 1, 1) := by decide +kernel
theorem dX8_isOpen_1 : decode cX8_isOpen 1 = .ok (.iload_n 2, 1) := by decide +kernel
theorem dX8_isOpen_2 : decode cX8_isOpen 2 = .ok (.if_icmp .eq 52, 3) := by decide +kernel
theorem dX8_isOpen_5 : decode cX8_isOpen 5 = .ok (.aload_n 0, 1) := by decide +kernel
theorem dX8_isOpen_6 : decode cX8_isOpen 6 = .ok (.iload_n 1, 1) := by decide +kernel
theorem dX8_isOpen_7 : decode cX8_isOpen 7 = .ok (.invokevirtual 61, 3) := by decide +kernel
theorem dX8_isOpen_10 : decode cX8_isOpen 10 = .ok (.ifCond .ne 44, 3) := by decide +kernel
theorem dX8_isOpen_13 : decode cX8_isOpen 13 = .ok (.aload_n 0, 1) := by decide +kernel
theorem dX8_isOpen_14 : decode cX8_isOpen 14 = .ok (.iload_n 2, 1) := by decide +kernel
theorem dX8_isOpen_15 : decode cX8_isOpen 15 = .ok (.invokevirtual 61, 3) := by decide +kernel
theorem dX8_isOpen_18 : decode cX8_isOpen 18 = .ok (.ifCond .ne 36, 3) := by decide +kernel
theorem dX8_isOpen_21 : decode cX8_isOpen 21 = .ok (.aload_n 0, 1) := by decide +kernel
theorem dX8_isOpen_22 : decode cX8_isOpen 22 = .ok (.getfield 18, 3) := by decide +kernel
theorem dX8_isOpen_25 : decode cX8_isOpen 25 = .ok (.iload_n 1, 1) := by decide +kernel
theorem dX8_isOpen_26 : decode cX8_isOpen 26 = .ok (.iaload, 1) := by decide +kernel
theorem dX8_isOpen_27 : decode cX8_isOpen 27 = .ok (.iconst (-1), 1) := by decide +kernel
theorem dX8_isOpen_28 : decode cX8_isOpen 28 = .ok (.if_icmp .ne 26, 3) := by decide +kernel
theorem dX8_isOpen_31 : decode cX8_isOpen 31 = .ok (.aload_n 0, 1) := by decide +kernel
theorem dX8_isOpen_32 : decode cX8_isOpen 32 = .ok (.getfield 21, 3) := by decide +kernel
theorem dX8_isOpen_35 : decode cX8_isOpen 35 = .ok (.iload_n 2, 1) := by decide +kernel
theorem dX8_isOpen_36 : decode cX8_isOpen 36 = .ok (.iaload, 1) := by decide +kernel
theorem dX8_isOpen_37 : decode cX8_isOpen 37 = .ok (.iconst (-1), 1) := by decide +kernel
theorem dX8_isOpen_38 : decode cX8_isOpen 38 = .ok (.if_icmp .ne 16, 3) := by decide +kernel
theorem dX8_isOpen_41 : decode cX8_isOpen 41 = .ok (.aload_n 0, 1) := by decide +kernel
theorem dX8_isOpen_42 : decode cX8_isOpen 42 = .ok (.iload_n 1, 1) := by decide +kernel
theorem dX8_isOpen_43 : decode cX8_isOpen 43 = .ok (.invokevirtual 71, 3) := by decide +kernel
theorem dX8_isOpen_46 : decode cX8_isOpen 46 = .ok (.iload_n 2, 1) := by decide +kernel
theorem dX8_isOpen_47 : decode cX8_isOpen 47 = .ok (.if_icmp .eq 7, 3) := by decide +kernel
theorem dX8_isOpen_50 : decode cX8_isOpen 50 = .ok (.iconst 1, 1) := by decide +kernel
theorem dX8_isOpen_51 : decode cX8_isOpen 51 = .ok (.goto 4, 3) := by decide +kernel
theorem dX8_isOpen_54 : decode cX8_isOpen 54 = .ok (.iconst 0, 1) := by decide +kernel
theorem dX8_isOpen_55 : decode cX8_isOpen 55 = .ok (.ireturn, 1) := by decide +kernel
theorem dX8_join_0 : decode cX8_join 0 = .ok (.aload_n 0, 1) := by decide +kernel
theorem dX8_join_1 : decode cX8_join 1 = .ok (.getfield 18, 3) := by decide +kernel
theorem dX8_join_4 : decode cX8_join 4 = .ok (.iload_n 1, 1) := by decide +kernel
theorem dX8_join_5 : decode cX8_join 5 = .ok (.iload_n 2, 1) := by decide +kernel
theorem dX8_join_6 : decode cX8_join 6 = .ok (.iastore, 1) := by decide +kernel
theorem dX8_join_7 : decode cX8_join 7 = .ok (.aload_n 0, 1) := by decide +kernel
theorem dX8_join_8 : decode cX8_join 8 = .ok (.getfield 21, 3) := by decide +kernel
theorem dX8_join_11 : decode cX8_join 11 = .ok (.iload_n 2, 1) := by decide +kernel
theorem dX8_join_12 : decode cX8_join 12 = .ok (.iload_n 1, 1) := by decide +kernel
theorem dX8_join_13 : decode cX8_join 13 = .ok (.iastore, 1) := by decide +kernel
theorem dX8_join_14 : decode cX8_join 14 = .ok (.return_, 1) := by decide +kernel
theorem dX8_part_0 : decode cX8_part 0 = .ok (.aload_n 0, 1) := by decide +kernel
theorem dX8_part_1 : decode cX8_part 1 = .ok (.getfield 18, 3) := by decide +kernel
theorem dX8_part_4 : decode cX8_part 4 = .ok (.iload_n 1, 1) := by decide +kernel
theorem dX8_part_5 : decode cX8_part 5 = .ok (.iconst (-1), 1) := by decide +kernel
theorem dX8_part_6 : decode cX8_part 6 = .ok (.iastore, 1) := by decide +kernel
theorem dX8_part_7 : decode cX8_part 7 = .ok (.aload_n 0, 1) := by decide +kernel
theorem dX8_part_8 : decode cX8_part 8 = .ok (.getfield 21, 3) := by decide +kernel
theorem dX8_part_11 : decode cX8_part 11 = .ok (.iload_n 2, 1) := by decide +kernel
theorem dX8_part_12 : decode cX8_part 12 = .ok (.iconst (-1), 1) := by decide +kernel
theorem dX8_part_13 : decode cX8_part 13 = .ok (.iastore, 1) := by decide +kernel
theorem dX8_part_14 : decode cX8_part 14 = .ok (.return_, 1) := by decide +kernel
theorem dX8_fadeBy_0 : decode cX8_fadeBy 0 = .ok (.aload_n 0, 1) := by decide +kernel
theorem dX8_fadeBy_1 : decode cX8_fadeBy 1 = .ok (.getfield 9, 3) := by decide +kernel
theorem dX8_fadeBy_4 : decode cX8_fadeBy 4 = .ok (.iload_n 1, 1) := by decide +kernel
theorem dX8_fadeBy_5 : decode cX8_fadeBy 5 = .ok (.iconst 0, 1) := by decide +kernel
theorem dX8_fadeBy_6 : decode cX8_fadeBy 6 = .ok (.aload_n 0, 1) := by decide +kernel
theorem dX8_fadeBy_7 : decode cX8_fadeBy 7 = .ok (.getfield 9, 3) := by decide +kernel
theorem dX8_fadeBy_10 : decode cX8_fadeBy 10 = .ok (.iload_n 1, 1) := by decide +kernel
theorem dX8_fadeBy_11 : decode cX8_fadeBy 11 = .ok (.iaload, 1) := by decide +kernel
theorem dX8_fadeBy_12 : decode cX8_fadeBy 12 = .ok (.iload_n 2, 1) := by decide +kernel
theorem dX8_fadeBy_13 : decode cX8_fadeBy 13 = .ok (.isub, 1) := by decide +kernel
theorem dX8_fadeBy_14 : decode cX8_fadeBy 14 = .ok (.invokestatic 86, 3) := by decide +kernel
theorem dX8_fadeBy_17 : decode cX8_fadeBy 17 = .ok (.iastore, 1) := by decide +kernel
theorem dX8_fadeBy_18 : decode cX8_fadeBy 18 = .ok (.return_, 1) := by decide +kernel
theorem dX8_takeOff_0 : decode cX8_takeOff 0 = .ok (.iconst 0, 1) := by decide +kernel
theorem dX8_takeOff_1 : decode cX8_takeOff 1 = .ok (.istore_n 2, 1) := by decide +kernel
theorem dX8_takeOff_2 : decode cX8_takeOff 2 = .ok (.aload_n 0, 1) := by decide +kernel
theorem dX8_takeOff_3 : decode cX8_takeOff 3 = .ok (.getfield 18, 3) := by decide +kernel
theorem dX8_takeOff_6 : decode cX8_takeOff 6 = .ok (.iload_n 1, 1) := by decide +kernel
theorem dX8_takeOff_7 : decode cX8_takeOff 7 = .ok (.iaload, 1) := by decide +kernel
theorem dX8_takeOff_8 : decode cX8_takeOff 8 = .ok (.iconst (-1), 1) := by decide +kernel
theorem dX8_takeOff_9 : decode cX8_takeOff 9 = .ok (.if_icmp .eq 27, 3) := by decide +kernel
theorem dX8_takeOff_12 : decode cX8_takeOff 12 = .ok (.aload_n 0, 1) := by decide +kernel
theorem dX8_takeOff_13 : decode cX8_takeOff 13 = .ok (.aload_n 0, 1) := by decide +kernel
theorem dX8_takeOff_14 : decode cX8_takeOff 14 = .ok (.getfield 18, 3) := by decide +kernel
theorem dX8_takeOff_17 : decode cX8_takeOff 17 = .ok (.iload_n 1, 1) := by decide +kernel
theorem dX8_takeOff_18 : decode cX8_takeOff 18 = .ok (.iaload, 1) := by decide +kernel
theorem dX8_takeOff_19 : decode cX8_takeOff 19 = .ok (.invokevirtual 92, 3) := by decide +kernel
theorem dX8_takeOff_22 : decode cX8_takeOff 22 = .ok (.aload_n 0, 1) := by decide +kernel
theorem dX8_takeOff_23 : decode cX8_takeOff 23 = .ok (.iload_n 1, 1) := by decide +kernel
theorem dX8_takeOff_24 : decode cX8_takeOff 24 = .ok (.aload_n 0, 1) := by decide +kernel
theorem dX8_takeOff_25 : decode cX8_takeOff 25 = .ok (.getfield 18, 3) := by decide +kernel
theorem dX8_takeOff_28 : decode cX8_takeOff 28 = .ok (.iload_n 1, 1) := by decide +kernel
theorem dX8_takeOff_29 : decode cX8_takeOff 29 = .ok (.iaload, 1) := by decide +kernel
theorem dX8_takeOff_30 : decode cX8_takeOff 30 = .ok (.invokevirtual 96, 3) := by decide +kernel
theorem dX8_takeOff_33 : decode cX8_takeOff 33 = .ok (.iinc 2 1, 3) := by decide +kernel
theorem dX8_takeOff_36 : decode cX8_takeOff 36 = .ok (.aload_n 0, 1) := by decide +kernel
theorem dX8_takeOff_37 : decode cX8_takeOff 37 = .ok (.getfield 21, 3) := by decide +kernel
theorem dX8_takeOff_40 : decode cX8_takeOff 40 = .ok (.iload_n 1, 1) := by decide +kernel
theorem dX8_takeOff_41 : decode cX8_takeOff 41 = .ok (.iaload, 1) := by decide +kernel
theorem dX8_takeOff_42 : decode cX8_takeOff 42 = .ok (.iconst (-1), 1) := by decide +kernel
theorem dX8_takeOff_43 : decode cX8_takeOff 43 = .ok (.if_icmp .eq 27, 3) := by decide +kernel
theorem dX8_takeOff_46 : decode cX8_takeOff 46 = .ok (.aload_n 0, 1) := by decide +kernel
theorem dX8_takeOff_47 : decode cX8_takeOff 47 = .ok (.aload_n 0, 1) := by decide +kernel
theorem dX8_takeOff_48 : decode cX8_takeOff 48 = .ok (.getfield 21, 3) := by decide +kernel
theorem dX8_takeOff_51 : decode cX8_takeOff 51 = .ok (.iload_n 1, 1) := by decide +kernel
theorem dX8_takeOff_52 : decode cX8_takeOff 52 = .ok (.iaload, 1) := by decide +kernel
theorem dX8_takeOff_53 : decode cX8_takeOff 53 = .ok (.invokevirtual 92, 3) := by decide +kernel
theorem dX8_takeOff_56 : decode cX8_takeOff 56 = .ok (.aload_n 0, 1) := by decide +kernel
theorem dX8_takeOff_57 : decode cX8_takeOff 57 = .ok (.aload_n 0, 1) := by decide +kernel
theorem dX8_takeOff_58 : decode cX8_takeOff 58 = .ok (.getfield 21, 3) := by decide +kernel
theorem dX8_takeOff_61 : decode cX8_takeOff 61 = .ok (.iload_n 1, 1) := by decide +kernel
theorem dX8_takeOff_62 : decode cX8_takeOff 62 = .ok (.iaload, 1) := by decide +kernel
theorem dX8_takeOff_63 : decode cX8_takeOff 63 = .ok (.iload_n 1, 1) := by decide +kernel
theorem dX8_takeOff_64 : decode cX8_takeOff 64 = .ok (.invokevirtual 96, 3) := by decide +kernel
theorem dX8_takeOff_67 : decode cX8_takeOff 67 = .ok (.iinc 2 1, 3) := by decide +kernel
theorem dX8_takeOff_70 : decode cX8_takeOff 70 = .ok (.iload_n 2, 1) := by decide +kernel
theorem dX8_takeOff_71 : decode cX8_takeOff 71 = .ok (.ireturn, 1) := by decide +kernel
theorem dX8_shorten_0 : decode cX8_shorten 0 = .ok (.aload_n 0, 1) := by decide +kernel
theorem dX8_shorten_1 : decode cX8_shorten 1 = .ok (.getfield 15, 3) := by decide +kernel
theorem dX8_shorten_4 : decode cX8_shorten 4 = .ok (.iload_n 1, 1) := by decide +kernel
theorem dX8_shorten_5 : decode cX8_shorten 5 = .ok (.iconst 1, 1) := by decide +kernel
theorem dX8_shorten_6 : decode cX8_shorten 6 = .ok (.aload_n 0, 1) := by decide +kernel
theorem dX8_shorten_7 : decode cX8_shorten 7 = .ok (.getfield 15, 3) := by decide +kernel
theorem dX8_shorten_10 : decode cX8_shorten 10 = .ok (.iload_n 1, 1) := by decide +kernel
theorem dX8_shorten_11 : decode cX8_shorten 11 = .ok (.iaload, 1) := by decide +kernel
theorem dX8_shorten_12 : decode cX8_shorten 12 = .ok (.iconst 1, 1) := by decide +kernel
theorem dX8_shorten_13 : decode cX8_shorten 13 = .ok (.isub, 1) := by decide +kernel
theorem dX8_shorten_14 : decode cX8_shorten 14 = .ok (.invokestatic 86, 3) := by decide +kernel
theorem dX8_shorten_17 : decode cX8_shorten 17 = .ok (.iastore, 1) := by decide +kernel
theorem dX8_shorten_18 : decode cX8_shorten 18 = .ok (.return_, 1) := by decide +kernel
theorem dX9_init_0 : decode cX9_init 0 = .ok (.aload_n 0, 1) := by decide +kernel
theorem dX9_init_1 : decode cX9_init 1 = .ok (.invokespecial 3, 3) := by decide +kernel
theorem dX9_init_4 : decode cX9_init 4 = .ok (.aload_n 0, 1) := by decide +kernel
theorem dX9_init_5 : decode cX9_init 5 = .ok (.sipush 240, 3) := by decide +kernel
theorem dX9_init_8 : decode cX9_init 8 = .ok (.newarray .int, 2) := by decide +kernel
theorem dX9_init_10 : decode cX9_init 10 = .ok (.putfield 9, 3) := by decide +kernel
theorem dX9_init_13 : decode cX9_init 13 = .ok (.return_, 1) := by decide +kernel
theorem dX9_bytesIn_0 : decode cX9_bytesIn 0 = .ok (.iconst 0, 1) := by decide +kernel
theorem dX9_bytesIn_1 : decode cX9_bytesIn 1 = .ok (.istore_n 1, 1) := by decide +kernel
theorem dX9_bytesIn_2 : decode cX9_bytesIn 2 = .ok (.bipush 24, 2) := by decide +kernel
theorem dX9_bytesIn_4 : decode cX9_bytesIn 4 = .ok (.istore_n 2, 1) := by decide +kernel
theorem dX9_bytesIn_5 : decode cX9_bytesIn 5 = .ok (.iload_n 2, 1) := by decide +kernel
theorem dX9_bytesIn_6 : decode cX9_bytesIn 6 = .ok (.ifCond .lt 22, 3) := by decide +kernel
theorem dX9_bytesIn_9 : decode cX9_bytesIn 9 = .ok (.iload_n 0, 1) := by decide +kernel
theorem dX9_bytesIn_10 : decode cX9_bytesIn 10 = .ok (.iload_n 2, 1) := by decide +kernel
theorem dX9_bytesIn_11 : decode cX9_bytesIn 11 = .ok (.iushr, 1) := by decide +kernel
theorem dX9_bytesIn_12 : decode cX9_bytesIn 12 = .ok (.sipush 255, 3) := by decide +kernel
theorem dX9_bytesIn_15 : decode cX9_bytesIn 15 = .ok (.iand, 1) := by decide +kernel
theorem dX9_bytesIn_16 : decode cX9_bytesIn 16 = .ok (.ifCond .eq 6, 3) := by decide +kernel
theorem dX9_bytesIn_19 : decode cX9_bytesIn 19 = .ok (.iinc 1 1, 3) := by decide +kernel
theorem dX9_bytesIn_22 : decode cX9_bytesIn 22 = .ok (.iinc 2 (-8), 3) := by decide +kernel
theorem dX9_bytesIn_25 : decode cX9_bytesIn 25 = .ok (.goto (-20), 3) := by decide +kernel
theorem dX9_bytesIn_28 : decode cX9_bytesIn 28 = .ok (.iload_n 1, 1) := by decide +kernel
theorem dX9_bytesIn_29 : decode cX9_bytesIn 29 = .ok (.ireturn, 1) := by decide +kernel
theorem dX9_put_0 : decode cX9_put 0 = .ok (.bipush 24, 2) := by decide +kernel
theorem dX9_put_2 : decode cX9_put 2 = .ok (.istore_n 2, 1) := by decide +kernel
theorem dX9_put_3 : decode cX9_put 3 = .ok (.iload_n 2, 1) := by decide +kernel
theorem dX9_put_4 : decode cX9_put 4 = .ok (.ifCond .lt 53, 3) := by decide +kernel
theorem dX9_put_7 : decode cX9_put 7 = .ok (.iload_n 1, 1) := by decide +kernel
theorem dX9_put_8 : decode cX9_put 8 = .ok (.iload_n 2, 1) := by decide +kernel
theorem dX9_put_9 : decode cX9_put 9 = .ok (.iushr, 1) := by decide +kernel
theorem dX9_put_10 : decode cX9_put 10 = .ok (.sipush 255, 3) := by decide +kernel
theorem dX9_put_13 : decode cX9_put 13 = .ok (.iand, 1) := by decide +kernel
theorem dX9_put_14 : decode cX9_put 14 = .ok (.istore_n 3, 1) := by decide +kernel
theorem dX9_put_15 : decode cX9_put 15 = .ok (.iload_n 3, 1) := by decide +kernel
theorem dX9_put_16 : decode cX9_put 16 = .ok (.ifCond .eq 35, 3) := by decide +kernel
theorem dX9_put_19 : decode cX9_put 19 = .ok (.aload_n 0, 1) := by decide +kernel
theorem dX9_put_20 : decode cX9_put 20 = .ok (.getfield 15, 3) := by decide +kernel
theorem dX9_put_23 : decode cX9_put 23 = .ok (.aload_n 0, 1) := by decide +kernel
theorem dX9_put_24 : decode cX9_put 24 = .ok (.getfield 9, 3) := by decide +kernel
theorem dX9_put_27 : decode cX9_put 27 = .ok (.arraylength, 1) := by decide +kernel
theorem dX9_put_28 : decode cX9_put 28 = .ok (.if_icmp .ge 23, 3) := by decide +kernel
theorem dX9_put_31 : decode cX9_put 31 = .ok (.aload_n 0, 1) := by decide +kernel
theorem dX9_put_32 : decode cX9_put 32 = .ok (.getfield 9, 3) := by decide +kernel
theorem dX9_put_35 : decode cX9_put 35 = .ok (.aload_n 0, 1) := by decide +kernel
theorem dX9_put_36 : decode cX9_put 36 = .ok (.getfield 15, 3) := by decide +kernel
theorem dX9_put_39 : decode cX9_put 39 = .ok (.iload_n 3, 1) := by decide +kernel
theorem dX9_put_40 : decode cX9_put 40 = .ok (.iastore, 1) := by decide +kernel
theorem dX9_put_41 : decode cX9_put 41 = .ok (.aload_n 0, 1) := by decide +kernel
theorem dX9_put_42 : decode cX9_put 42 = .ok (.dup, 1) := by decide +kernel
theorem dX9_put_43 : decode cX9_put 43 = .ok (.getfield 15, 3) := by decide +kernel
theorem dX9_put_46 : decode cX9_put 46 = .ok (.iconst 1, 1) := by decide +kernel
theorem dX9_put_47 : decode cX9_put 47 = .ok (.iadd, 1) := by decide +kernel
theorem dX9_put_48 : decode cX9_put 48 = .ok (.putfield 15, 3) := by decide +kernel
theorem dX9_put_51 : decode cX9_put 51 = .ok (.iinc 2 (-8), 3) := by decide +kernel
theorem dX9_put_54 : decode cX9_put 54 = .ok (.goto (-51), 3) := by decide +kernel
theorem dX9_put_57 : decode cX9_put 57 = .ok (.return_, 1) := by decide +kernel
theorem dX9_sign_0 : decode cX9_sign 0 = .ok (.aload_n 0, 1) := by decide +kernel
theorem dX9_sign_1 : decode cX9_sign 1 = .ok (.getfield 19, 3) := by decide +kernel
theorem dX9_sign_4 : decode cX9_sign 4 = .ok (.aload_n 0, 1) := by decide +kernel
theorem dX9_sign_5 : decode cX9_sign 5 = .ok (.getfield 15, 3) := by decide +kernel
theorem dX9_sign_8 : decode cX9_sign 8 = .ok (.if_icmp .ge 30, 3) := by decide +kernel
theorem dX9_sign_11 : decode cX9_sign 11 = .ok (.aload_n 0, 1) := by decide +kernel
theorem dX9_sign_12 : decode cX9_sign 12 = .ok (.getfield 9, 3) := by decide +kernel
theorem dX9_sign_15 : decode cX9_sign 15 = .ok (.aload_n 0, 1) := by decide +kernel
theorem dX9_sign_16 : decode cX9_sign 16 = .ok (.getfield 19, 3) := by decide +kernel
theorem dX9_sign_19 : decode cX9_sign 19 = .ok (.iaload, 1) := by decide +kernel
theorem dX9_sign_20 : decode cX9_sign 20 = .ok (.bipush 32, 2) := by decide +kernel
theorem dX9_sign_22 : decode cX9_sign 22 = .ok (.if_icmp .ne 16, 3) := by decide +kernel
theorem dX9_sign_25 : decode cX9_sign 25 = .ok (.aload_n 0, 1) := by decide +kernel
theorem dX9_sign_26 : decode cX9_sign 26 = .ok (.dup, 1) := by decide +kernel
theorem dX9_sign_27 : decode cX9_sign 27 = .ok (.getfield 19, 3) := by decide +kernel
theorem dX9_sign_30 : decode cX9_sign 30 = .ok (.iconst 1, 1) := by decide +kernel
theorem dX9_sign_31 : decode cX9_sign 31 = .ok (.iadd, 1) := by decide +kernel
theorem dX9_sign_32 : decode cX9_sign 32 = .ok (.putfield 19, 3) := by decide +kernel
theorem dX9_sign_35 : decode cX9_sign 35 = .ok (.goto (-35), 3) := by decide +kernel
theorem dX9_sign_38 : decode cX9_sign 38 = .ok (.aload_n 0, 1) := by decide +kernel
theorem dX9_sign_39 : decode cX9_sign 39 = .ok (.getfield 19, 3) := by decide +kernel
theorem dX9_sign_42 : decode cX9_sign 42 = .ok (.aload_n 0, 1) := by decide +kernel
theorem dX9_sign_43 : decode cX9_sign 43 = .ok (.getfield 15, 3) := by decide +kernel
theorem dX9_sign_46 : decode cX9_sign 46 = .ok (.if_icmp .ge 15, 3) := by decide +kernel
theorem dX9_sign_49 : decode cX9_sign 49 = .ok (.aload_n 0, 1) := by decide +kernel
theorem dX9_sign_50 : decode cX9_sign 50 = .ok (.getfield 9, 3) := by decide +kernel
theorem dX9_sign_53 : decode cX9_sign 53 = .ok (.aload_n 0, 1) := by decide +kernel
theorem dX9_sign_54 : decode cX9_sign 54 = .ok (.getfield 19, 3) := by decide +kernel
theorem dX9_sign_57 : decode cX9_sign 57 = .ok (.iaload, 1) := by decide +kernel
theorem dX9_sign_58 : decode cX9_sign 58 = .ok (.goto 4, 3) := by decide +kernel
theorem dX9_sign_61 : decode cX9_sign 61 = .ok (.iconst (-1), 1) := by decide +kernel
theorem dX9_sign_62 : decode cX9_sign 62 = .ok (.ireturn, 1) := by decide +kernel
theorem dX9_take_0 : decode cX9_take 0 = .ok (.aload_n 0, 1) := by decide +kernel
theorem dX9_take_1 : decode cX9_take 1 = .ok (.invokevirtual 22, 3) := by decide +kernel
theorem dX9_take_4 : decode cX9_take 4 = .ok (.iload_n 1, 1) := by decide +kernel
theorem dX9_take_5 : decode cX9_take 5 = .ok (.if_icmp .eq 5, 3) := by decide +kernel
theorem dX9_take_8 : decode cX9_take 8 = .ok (.iconst 0, 1) := by decide +kernel
theorem dX9_take_9 : decode cX9_take 9 = .ok (.ireturn, 1) := by decide +kernel
theorem dX9_take_10 : decode cX9_take 10 = .ok (.aload_n 0, 1) := by decide +kernel
theorem dX9_take_11 : decode cX9_take 11 = .ok (.dup, 1) := by decide +kernel
theorem dX9_take_12 : decode cX9_take 12 = .ok (.getfield 19, 3) := by decide +kernel
theorem dX9_take_15 : decode cX9_take 15 = .ok (.iconst 1, 1) := by decide +kernel
theorem dX9_take_16 : decode cX9_take 16 = .ok (.iadd, 1) := by decide +kernel
theorem dX9_take_17 : decode cX9_take 17 = .ok (.putfield 19, 3) := by decide +kernel
theorem dX9_take_20 : decode cX9_take 20 = .ok (.iconst 1, 1) := by decide +kernel
theorem dX9_take_21 : decode cX9_take 21 = .ok (.ireturn, 1) := by decide +kernel
theorem dX9_number_0 : decode cX9_number 0 = .ok (.iconst 0, 1) := by decide +kernel
theorem dX9_number_1 : decode cX9_number 1 = .ok (.istore_n 2, 1) := by decide +kernel
theorem dX9_number_2 : decode cX9_number 2 = .ok (.iconst 0, 1) := by decide +kernel
theorem dX9_number_3 : decode cX9_number 3 = .ok (.istore_n 3, 1) := by decide +kernel
theorem dX9_number_4 : decode cX9_number 4 = .ok (.aload_n 0, 1) := by decide +kernel
theorem dX9_number_5 : decode cX9_number 5 = .ok (.invokevirtual 22, 3) := by decide +kernel
theorem dX9_number_8 : decode cX9_number 8 = .ok (.pop, 1) := by decide +kernel
theorem dX9_number_9 : decode cX9_number 9 = .ok (.aload_n 0, 1) := by decide +kernel
theorem dX9_number_10 : decode cX9_number 10 = .ok (.getfield 19, 3) := by decide +kernel
theorem dX9_number_13 : decode cX9_number 13 = .ok (.aload_n 0, 1) := by decide +kernel
theorem dX9_number_14 : decode cX9_number 14 = .ok (.getfield 15, 3) := by decide +kernel
theorem dX9_number_17 : decode cX9_number 17 = .ok (.if_icmp .ge 59, 3) := by decide +kernel
theorem dX9_number_20 : decode cX9_number 20 = .ok (.aload_n 0, 1) := by decide +kernel
theorem dX9_number_21 : decode cX9_number 21 = .ok (.getfield 9, 3) := by decide +kernel
theorem dX9_number_24 : decode cX9_number 24 = .ok (.aload_n 0, 1) := by decide +kernel
theorem dX9_number_25 : decode cX9_number 25 = .ok (.getfield 19, 3) := by decide +kernel
theorem dX9_number_28 : decode cX9_number 28 = .ok (.iaload, 1) := by decide +kernel
theorem dX9_number_29 : decode cX9_number 29 = .ok (.invokestatic 26, 3) := by decide +kernel
theorem dX9_number_32 : decode cX9_number 32 = .ok (.ifCond .eq 44, 3) := by decide +kernel
theorem dX9_number_35 : decode cX9_number 35 = .ok (.iload_n 3, 1) := by decide +kernel
theorem dX9_number_36 : decode cX9_number 36 = .ok (.iload_n 1, 1) := by decide +kernel
theorem dX9_number_37 : decode cX9_number 37 = .ok (.if_icmp .ne 5, 3) := by decide +kernel
theorem dX9_number_40 : decode cX9_number 40 = .ok (.iconst (-1), 1) := by decide +kernel
theorem dX9_number_41 : decode cX9_number 41 = .ok (.ireturn, 1) := by decide +kernel
theorem dX9_number_42 : decode cX9_number 42 = .ok (.iload_n 2, 1) := by decide +kernel
theorem dX9_number_43 : decode cX9_number 43 = .ok (.bipush 10, 2) := by decide +kernel
theorem dX9_number_45 : decode cX9_number 45 = .ok (.imul, 1) := by decide +kernel
theorem dX9_number_46 : decode cX9_number 46 = .ok (.aload_n 0, 1) := by decide +kernel
theorem dX9_number_47 : decode cX9_number 47 = .ok (.getfield 9, 3) := by decide +kernel
theorem dX9_number_50 : decode cX9_number 50 = .ok (.aload_n 0, 1) := by decide +kernel
theorem dX9_number_51 : decode cX9_number 51 = .ok (.getfield 19, 3) := by decide +kernel
theorem dX9_number_54 : decode cX9_number 54 = .ok (.iaload, 1) := by decide +kernel
theorem dX9_number_55 : decode cX9_number 55 = .ok (.iadd, 1) := by decide +kernel
theorem dX9_number_56 : decode cX9_number 56 = .ok (.bipush 48, 2) := by decide +kernel
theorem dX9_number_58 : decode cX9_number 58 = .ok (.isub, 1) := by decide +kernel
theorem dX9_number_59 : decode cX9_number 59 = .ok (.istore_n 2, 1) := by decide +kernel
theorem dX9_number_60 : decode cX9_number 60 = .ok (.iinc 3 1, 3) := by decide +kernel
theorem dX9_number_63 : decode cX9_number 63 = .ok (.aload_n 0, 1) := by decide +kernel
theorem dX9_number_64 : decode cX9_number 64 = .ok (.dup, 1) := by decide +kernel
theorem dX9_number_65 : decode cX9_number 65 = .ok (.getfield 19, 3) := by decide +kernel
theorem dX9_number_68 : decode cX9_number 68 = .ok (.iconst 1, 1) := by decide +kernel
theorem dX9_number_69 : decode cX9_number 69 = .ok (.iadd, 1) := by decide +kernel
theorem dX9_number_70 : decode cX9_number 70 = .ok (.putfield 19, 3) := by decide +kernel
theorem dX9_number_73 : decode cX9_number 73 = .ok (.goto (-64), 3) := by decide +kernel
theorem dX9_number_76 : decode cX9_number 76 = .ok (.iload_n 3, 1) := by decide +kernel
theorem dX9_number_77 : decode cX9_number 77 = .ok (.ifCond .ne 7, 3) := by decide +kernel
theorem dX9_number_80 : decode cX9_number 80 = .ok (.iconst (-1), 1) := by decide +kernel
theorem dX9_number_81 : decode cX9_number 81 = .ok (.goto 4, 3) := by decide +kernel
theorem dX9_number_84 : decode cX9_number 84 = .ok (.iload_n 2, 1) := by decide +kernel
theorem dX9_number_85 : decode cX9_number 85 = .ok (.ireturn, 1) := by decide +kernel
theorem dX9_isDigit_0 : decode cX9_isDigit 0 = .ok (.iload_n 0, 1) := by decide +kernel
theorem dX9_isDigit_1 : decode cX9_isDigit 1 = .ok (.bipush 48, 2) := by decide +kernel
theorem dX9_isDigit_3 : decode cX9_isDigit 3 = .ok (.if_icmp .lt 13, 3) := by decide +kernel
theorem dX9_isDigit_6 : decode cX9_isDigit 6 = .ok (.iload_n 0, 1) := by decide +kernel
theorem dX9_isDigit_7 : decode cX9_isDigit 7 = .ok (.bipush 57, 2) := by decide +kernel
theorem dX9_isDigit_9 : decode cX9_isDigit 9 = .ok (.if_icmp .gt 7, 3) := by decide +kernel
theorem dX9_isDigit_12 : decode cX9_isDigit 12 = .ok (.iconst 1, 1) := by decide +kernel
theorem dX9_isDigit_13 : decode cX9_isDigit 13 = .ok (.goto 4, 3) := by decide +kernel
theorem dX9_isDigit_16 : decode cX9_isDigit 16 = .ok (.iconst 0, 1) := by decide +kernel
theorem dX9_isDigit_17 : decode cX9_isDigit 17 = .ok (.ireturn, 1) := by decide +kernel
theorem dX10_init_0 : decode cX10_init 0 = .ok (.aload_n 0, 1) := by decide +kernel
theorem dX10_init_1 : decode cX10_init 1 = .ok (.invokespecial 3, 3) := by decide +kernel
theorem dX10_init_4 : decode cX10_init 4 = .ok (.aload_n 0, 1) := by decide +kernel
theorem dX10_init_5 : decode cX10_init 5 = .ok (.aload_n 1, 1) := by decide +kernel
theorem dX10_init_6 : decode cX10_init 6 = .ok (.putfield 9, 3) := by decide +kernel
theorem dX10_init_9 : decode cX10_init 9 = .ok (.aload_n 0, 1) := by decide +kernel
theorem dX10_init_10 : decode cX10_init 10 = .ok (.aload_n 2, 1) := by decide +kernel
theorem dX10_init_11 : decode cX10_init 11 = .ok (.putfield 15, 3) := by decide +kernel
theorem dX10_init_14 : decode cX10_init 14 = .ok (.aload_n 0, 1) := by decide +kernel
theorem dX10_init_15 : decode cX10_init 15 = .ok (.aload_n 3, 1) := by decide +kernel
theorem dX10_init_16 : decode cX10_init 16 = .ok (.putfield 19, 3) := by decide +kernel
theorem dX10_init_19 : decode cX10_init 19 = .ok (.return_, 1) := by decide +kernel
theorem dX10_goesWith_0 : decode cX10_goesWith 0 = .ok (.aload_n 1, 1) := by decide +kernel
theorem dX10_goesWith_1 : decode cX10_goesWith 1 = .ok (.getfield 23, 3) := by decide +kernel
theorem dX10_goesWith_4 : decode cX10_goesWith 4 = .ok (.iload_n 2, 1) := by decide +kernel
theorem dX10_goesWith_5 : decode cX10_goesWith 5 = .ok (.iaload, 1) := by decide +kernel
theorem dX10_goesWith_6 : decode cX10_goesWith 6 = .ok (.aload_n 1, 1) := by decide +kernel
theorem dX10_goesWith_7 : decode cX10_goesWith 7 = .ok (.getfield 23, 3) := by decide +kernel
theorem dX10_goesWith_10 : decode cX10_goesWith 10 = .ok (.iload_n 3, 1) := by decide +kernel
theorem dX10_goesWith_11 : decode cX10_goesWith 11 = .ok (.iaload, 1) := by decide +kernel
theorem dX10_goesWith_12 : decode cX10_goesWith 12 = .ok (.isub, 1) := by decide +kernel
theorem dX10_goesWith_13 : decode cX10_goesWith 13 = .ok (.invokestatic 29, 3) := by decide +kernel
theorem dX10_goesWith_16 : decode cX10_goesWith 16 = .ok (.istore 5, 2) := by decide +kernel
theorem dX10_goesWith_18 : decode cX10_goesWith 18 = .ok (.aload_n 0, 1) := by decide +kernel
theorem dX10_goesWith_19 : decode cX10_goesWith 19 = .ok (.getfield 9, 3) := by decide +kernel
theorem dX10_goesWith_22 : decode cX10_goesWith 22 = .ok (.getfield 35, 3) := by decide +kernel
theorem dX10_goesWith_25 : decode cX10_goesWith 25 = .ok (.iload_n 2, 1) := by decide +kernel
theorem dX10_goesWith_26 : decode cX10_goesWith 26 = .ok (.iaload, 1) := by decide +kernel
theorem dX10_goesWith_27 : decode cX10_goesWith 27 = .ok (.aload_n 0, 1) := by decide +kernel
theorem dX10_goesWith_28 : decode cX10_goesWith 28 = .ok (.getfield 9, 3) := by decide +kernel
theorem dX10_goesWith_31 : decode cX10_goesWith 31 = .ok (.getfield 35, 3) := by decide +kernel
theorem dX10_goesWith_34 : decode cX10_goesWith 34 = .ok (.iload_n 3, 1) := by decide +kernel
theorem dX10_goesWith_35 : decode cX10_goesWith 35 = .ok (.iaload, 1) := by decide +kernel
theorem dX10_goesWith_36 : decode cX10_goesWith 36 = .ok (.isub, 1) := by decide +kernel
theorem dX10_goesWith_37 : decode cX10_goesWith 37 = .ok (.invokestatic 29, 3) := by decide +kernel
theorem dX10_goesWith_40 : decode cX10_goesWith 40 = .ok (.istore 6, 2) := by decide +kernel
theorem dX10_goesWith_42 : decode cX10_goesWith 42 = .ok (.aload_n 0, 1) := by decide +kernel
theorem dX10_goesWith_43 : decode cX10_goesWith 43 = .ok (.getfield 15, 3) := by decide +kernel
theorem dX10_goesWith_46 : decode cX10_goesWith 46 = .ok (.iload 5, 2) := by decide +kernel
theorem dX10_goesWith_48 : decode cX10_goesWith 48 = .ok (.iload 6, 2) := by decide +kernel
theorem dX10_goesWith_50 : decode cX10_goesWith 50 = .ok (.aload_n 1, 1) := by decide +kernel
theorem dX10_goesWith_51 : decode cX10_goesWith 51 = .ok (.getfield 40, 3) := by decide +kernel
theorem dX10_goesWith_54 : decode cX10_goesWith 54 = .ok (.iload_n 2, 1) := by decide +kernel
theorem dX10_goesWith_55 : decode cX10_goesWith 55 = .ok (.iaload, 1) := by decide +kernel
theorem dX10_goesWith_56 : decode cX10_goesWith 56 = .ok (.aload_n 1, 1) := by decide +kernel
theorem dX10_goesWith_57 : decode cX10_goesWith 57 = .ok (.getfield 40, 3) := by decide +kernel
theorem dX10_goesWith_60 : decode cX10_goesWith 60 = .ok (.iload_n 3, 1) := by decide +kernel
theorem dX10_goesWith_61 : decode cX10_goesWith 61 = .ok (.iaload, 1) := by decide +kernel
theorem dX10_goesWith_62 : decode cX10_goesWith 62 = .ok (.iadd, 1) := by decide +kernel
theorem dX10_goesWith_63 : decode cX10_goesWith 63 = .ok (.iload 4, 2) := by decide +kernel
theorem dX10_goesWith_65 : decode cX10_goesWith 65 = .ok (.aload_n 1, 1) := by decide +kernel
theorem dX10_goesWith_66 : decode cX10_goesWith 66 = .ok (.getfield 43, 3) := by decide +kernel
theorem dX10_goesWith_69 : decode cX10_goesWith 69 = .ok (.invokevirtual 47, 3) := by decide +kernel
theorem dX10_goesWith_72 : decode cX10_goesWith 72 = .ok (.ireturn, 1) := by decide +kernel
theorem dX10_tryRefusal_0 : decode cX10_tryRefusal 0 = .ok (.aload_n 0, 1) := by decide +kernel
theorem dX10_tryRefusal_1 : decode cX10_tryRefusal 1 = .ok (.getfield 9, 3) := by decide +kernel
theorem dX10_tryRefusal_4 : decode cX10_tryRefusal 4 = .ok (.iload_n 2, 1) := by decide +kernel
theorem dX10_tryRefusal_5 : decode cX10_tryRefusal 5 = .ok (.invokevirtual 53, 3) := by decide +kernel
theorem dX10_tryRefusal_8 : decode cX10_tryRefusal 8 = .ok (.ifCond .eq 14, 3) := by decide +kernel
theorem dX10_tryRefusal_11 : decode cX10_tryRefusal 11 = .ok (.aload_n 0, 1) := by decide +kernel
theorem dX10_tryRefusal_12 : decode cX10_tryRefusal 12 = .ok (.getfield 9, 3) := by decide +kernel
theorem dX10_tryRefusal_15 : decode cX10_tryRefusal 15 = .ok (.iload_n 3, 1) := by decide +kernel
theorem dX10_tryRefusal_16 : decode cX10_tryRefusal 16 = .ok (.invokevirtual 53, 3) := by decide +kernel
theorem dX10_tryRefusal_19 : decode cX10_tryRefusal 19 = .ok (.ifCond .ne 5, 3) := by decide +kernel
theorem dX10_tryRefusal_22 : decode cX10_tryRefusal 22 = .ok (.iconst 0, 1) := by decide +kernel
theorem dX10_tryRefusal_23 : decode cX10_tryRefusal 23 = .ok (.ireturn, 1) := by decide +kernel
theorem dX10_tryRefusal_24 : decode cX10_tryRefusal 24 = .ok (.iload_n 2, 1) := by decide +kernel
theorem dX10_tryRefusal_25 : decode cX10_tryRefusal 25 = .ok (.iload_n 3, 1) := by decide +kernel
theorem dX10_tryRefusal_26 : decode cX10_tryRefusal 26 = .ok (.if_icmp .ne 5, 3) := by decide +kernel
theorem dX10_tryRefusal_29 : decode cX10_tryRefusal 29 = .ok (.iconst 1, 1) := by decide +kernel
theorem dX10_tryRefusal_30 : decode cX10_tryRefusal 30 = .ok (.ireturn, 1) := by decide +kernel
theorem dX10_tryRefusal_31 : decode cX10_tryRefusal 31 = .ok (.aload_n 1, 1) := by decide +kernel
theorem dX10_tryRefusal_32 : decode cX10_tryRefusal 32 = .ok (.iload_n 2, 1) := by decide +kernel
theorem dX10_tryRefusal_33 : decode cX10_tryRefusal 33 = .ok (.iload_n 3, 1) := by decide +kernel
theorem dX10_tryRefusal_34 : decode cX10_tryRefusal 34 = .ok (.invokevirtual 57, 3) := by decide +kernel
theorem dX10_tryRefusal_37 : decode cX10_tryRefusal 37 = .ok (.ifCond .ne 5, 3) := by decide +kernel
theorem dX10_tryRefusal_40 : decode cX10_tryRefusal 40 = .ok (.iconst 2, 1) := by decide +kernel
theorem dX10_tryRefusal_41 : decode cX10_tryRefusal 41 = .ok (.ireturn, 1) := by decide +kernel
theorem dX10_tryRefusal_42 : decode cX10_tryRefusal 42 = .ok (.aload_n 1, 1) := by decide +kernel
theorem dX10_tryRefusal_43 : decode cX10_tryRefusal 43 = .ok (.getfield 61, 3) := by decide +kernel
theorem dX10_tryRefusal_46 : decode cX10_tryRefusal 46 = .ok (.aload_n 0, 1) := by decide +kernel
theorem dX10_tryRefusal_47 : decode cX10_tryRefusal 47 = .ok (.getfield 9, 3) := by decide +kernel
theorem dX10_tryRefusal_50 : decode cX10_tryRefusal 50 = .ok (.getfield 64, 3) := by decide +kernel
theorem dX10_tryRefusal_53 : decode cX10_tryRefusal 53 = .ok (.if_icmp .lt 7, 3) := by decide +kernel
theorem dX10_tryRefusal_56 : decode cX10_tryRefusal 56 = .ok (.iconst 3, 1) := by decide +kernel
theorem dX10_tryRefusal_57 : decode cX10_tryRefusal 57 = .ok (.goto 4, 3) := by decide +kernel
theorem dX10_tryRefusal_60 : decode cX10_tryRefusal 60 = .ok (.iconst (-1), 1) := by decide +kernel
theorem dX10_tryRefusal_61 : decode cX10_tryRefusal 61 = .ok (.ireturn, 1) := by decide +kernel
theorem dX10_tryOn_0 : decode cX10_tryOn 0 = .ok (.aload_n 0, 1) := by decide +kernel
theorem dX10_tryOn_1 : decode cX10_tryOn 1 = .ok (.aload_n 1, 1) := by decide +kernel
theorem dX10_tryOn_2 : decode cX10_tryOn 2 = .ok (.iload_n 2, 1) := by decide +kernel
theorem dX10_tryOn_3 : decode cX10_tryOn 3 = .ok (.iload_n 3, 1) := by decide +kernel
theorem dX10_tryOn_4 : decode cX10_tryOn 4 = .ok (.aload_n 1, 1) := by decide +kernel
theorem dX10_tryOn_5 : decode cX10_tryOn 5 = .ok (.iload_n 2, 1) := by decide +kernel
theorem dX10_tryOn_6 : decode cX10_tryOn 6 = .ok (.invokevirtual 67, 3) := by decide +kernel
theorem dX10_tryOn_9 : decode cX10_tryOn 9 = .ok (.invokevirtual 70, 3) := by decide +kernel
theorem dX10_tryOn_12 : decode cX10_tryOn 12 = .ok (.istore 4, 2) := by decide +kernel
theorem dX10_tryOn_14 : decode cX10_tryOn 14 = .ok (.iload 4, 2) := by decide +kernel
theorem dX10_tryOn_16 : decode cX10_tryOn 16 = .ok (.ifCond .eq 21, 3) := by decide +kernel
theorem dX10_tryOn_19 : decode cX10_tryOn 19 = .ok (.aload_n 1, 1) := by decide +kernel
theorem dX10_tryOn_20 : decode cX10_tryOn 20 = .ok (.iload_n 2, 1) := by decide +kernel
theorem dX10_tryOn_21 : decode cX10_tryOn 21 = .ok (.iload_n 3, 1) := by decide +kernel
theorem dX10_tryOn_22 : decode cX10_tryOn 22 = .ok (.invokevirtual 74, 3) := by decide +kernel
theorem dX10_tryOn_25 : decode cX10_tryOn 25 = .ok (.aload_n 1, 1) := by decide +kernel
theorem dX10_tryOn_26 : decode cX10_tryOn 26 = .ok (.dup, 1) := by decide +kernel
theorem dX10_tryOn_27 : decode cX10_tryOn 27 = .ok (.getfield 78, 3) := by decide +kernel
theorem dX10_tryOn_30 : decode cX10_tryOn 30 = .ok (.iconst 1, 1) := by decide +kernel
theorem dX10_tryOn_31 : decode cX10_tryOn 31 = .ok (.iload_n 2, 1) := by decide +kernel
theorem dX10_tryOn_32 : decode cX10_tryOn 32 = .ok (.ishl, 1) := by decide +kernel
theorem dX10_tryOn_33 : decode cX10_tryOn 33 = .ok (.ior, 1) := by decide +kernel
theorem dX10_tryOn_34 : decode cX10_tryOn 34 = .ok (.putfield 78, 3) := by decide +kernel
theorem dX10_tryOn_37 : decode cX10_tryOn 37 = .ok (.aload_n 1, 1) := by decide +kernel
theorem dX10_tryOn_38 : decode cX10_tryOn 38 = .ok (.iload_n 2, 1) := by decide +kernel
theorem dX10_tryOn_39 : decode cX10_tryOn 39 = .ok (.aload_n 0, 1) := by decide +kernel
theorem dX10_tryOn_40 : decode cX10_tryOn 40 = .ok (.getfield 9, 3) := by decide +kernel
theorem dX10_tryOn_43 : decode cX10_tryOn 43 = .ok (.getfield 81, 3) := by decide +kernel
theorem dX10_tryOn_46 : decode cX10_tryOn 46 = .ok (.invokevirtual 84, 3) := by decide +kernel
theorem dX10_tryOn_49 : decode cX10_tryOn 49 = .ok (.aload_n 1, 1) := by decide +kernel
theorem dX10_tryOn_50 : decode cX10_tryOn 50 = .ok (.iload_n 3, 1) := by decide +kernel
theorem dX10_tryOn_51 : decode cX10_tryOn 51 = .ok (.aload_n 0, 1) := by decide +kernel
theorem dX10_tryOn_52 : decode cX10_tryOn 52 = .ok (.getfield 9, 3) := by decide +kernel
theorem dX10_tryOn_55 : decode cX10_tryOn 55 = .ok (.getfield 81, 3) := by decide +kernel
theorem dX10_tryOn_58 : decode cX10_tryOn 58 = .ok (.invokevirtual 84, 3) := by decide +kernel
theorem dX10_tryOn_61 : decode cX10_tryOn 61 = .ok (.aload_n 1, 1) := by decide +kernel
theorem dX10_tryOn_62 : decode cX10_tryOn 62 = .ok (.dup, 1) := by decide +kernel
theorem dX10_tryOn_63 : decode cX10_tryOn 63 = .ok (.getfield 61, 3) := by decide +kernel
theorem dX10_tryOn_66 : decode cX10_tryOn 66 = .ok (.iconst 1, 1) := by decide +kernel
theorem dX10_tryOn_67 : decode cX10_tryOn 67 = .ok (.iadd, 1) := by decide +kernel
theorem dX10_tryOn_68 : decode cX10_tryOn 68 = .ok (.putfield 61, 3) := by decide +kernel
theorem dX10_tryOn_71 : decode cX10_tryOn 71 = .ok (.iload 4, 2) := by decide +kernel
theorem dX10_tryOn_73 : decode cX10_tryOn 73 = .ok (.ireturn, 1) := by decide +kernel
theorem dX10_pullRefusal_0 : decode cX10_pullRefusal 0 = .ok (.aload_n 0, 1) := by decide +kernel
theorem dX10_pullRefusal_1 : decode cX10_pullRefusal 1 = .ok (.getfield 9, 3) := by decide +kernel
theorem dX10_pullRefusal_4 : decode cX10_pullRefusal 4 = .ok (.iload_n 2, 1) := by decide +kernel
theorem dX10_pullRefusal_5 : decode cX10_pullRefusal 5 = .ok (.invokevirtual 53, 3) := by decide +kernel
theorem dX10_pullRefusal_8 : decode cX10_pullRefusal 8 = .ok (.ifCond .ne 5, 3) := by decide +kernel
theorem dX10_pullRefusal_11 : decode cX10_pullRefusal 11 = .ok (.iconst 0, 1) := by decide +kernel
theorem dX10_pullRefusal_12 : decode cX10_pullRefusal 12 = .ok (.ireturn, 1) := by decide +kernel
theorem dX10_pullRefusal_13 : decode cX10_pullRefusal 13 = .ok (.aload_n 1, 1) := by decide +kernel
theorem dX10_pullRefusal_14 : decode cX10_pullRefusal 14 = .ok (.iload_n 2, 1) := by decide +kernel
theorem dX10_pullRefusal_15 : decode cX10_pullRefusal 15 = .ok (.invokevirtual 87, 3) := by decide +kernel
theorem dX10_pullRefusal_18 : decode cX10_pullRefusal 18 = .ok (.ifCond .eq 5, 3) := by decide +kernel
theorem dX10_pullRefusal_21 : decode cX10_pullRefusal 21 = .ok (.iconst 2, 1) := by decide +kernel
theorem dX10_pullRefusal_22 : decode cX10_pullRefusal 22 = .ok (.ireturn, 1) := by decide +kernel
theorem dX10_pullRefusal_23 : decode cX10_pullRefusal 23 = .ok (.aload_n 1, 1) := by decide +kernel
theorem dX10_pullRefusal_24 : decode cX10_pullRefusal 24 = .ok (.iload_n 2, 1) := by decide +kernel
theorem dX10_pullRefusal_25 : decode cX10_pullRefusal 25 = .ok (.invokevirtual 90, 3) := by decide +kernel
theorem dX10_pullRefusal_28 : decode cX10_pullRefusal 28 = .ok (.ifCond .eq 7, 3) := by decide +kernel
theorem dX10_pullRefusal_31 : decode cX10_pullRefusal 31 = .ok (.iconst (-1), 1) := by decide +kernel
theorem dX10_pullRefusal_32 : decode cX10_pullRefusal 32 = .ok (.goto 4, 3) := by decide +kernel
theorem dX10_pullRefusal_35 : decode cX10_pullRefusal 35 = .ok (.iconst 3, 1) := by decide +kernel
theorem dX10_pullRefusal_36 : decode cX10_pullRefusal 36 = .ok (.ireturn, 1) := by decide +kernel
theorem dX10_passDay_0 : decode cX10_passDay 0 = .ok (.aload_n 0, 1) := by decide +kernel
theorem dX10_passDay_1 : decode cX10_passDay 1 = .ok (.getfield 19, 3) := by decide +kernel
theorem dX10_passDay_4 : decode cX10_passDay 4 = .ok (.aload_n 1, 1) := by decide +kernel
theorem dX10_passDay_5 : decode cX10_passDay 5 = .ok (.invokevirtual 93, 3) := by decide +kernel
theorem dX10_passDay_8 : decode cX10_passDay 8 = .ok (.aload_n 1, 1) := by decide +kernel
theorem dX10_passDay_9 : decode cX10_passDay 9 = .ok (.iconst 0, 1) := by decide +kernel
theorem dX10_passDay_10 : decode cX10_passDay 10 = .ok (.putfield 61, 3) := by decide +kernel
theorem dX10_passDay_13 : decode cX10_passDay 13 = .ok (.aload_n 1, 1) := by decide +kernel
theorem dX10_passDay_14 : decode cX10_passDay 14 = .ok (.iconst 0, 1) := by decide +kernel
theorem dX10_passDay_15 : decode cX10_passDay 15 = .ok (.putfield 78, 3) := by decide +kernel
theorem dX10_passDay_18 : decode cX10_passDay 18 = .ok (.aload_n 1, 1) := by decide +kernel
theorem dX10_passDay_19 : decode cX10_passDay 19 = .ok (.sipush 9999, 3) := by decide +kernel
theorem dX10_passDay_22 : decode cX10_passDay 22 = .ok (.aload_n 1, 1) := by decide +kernel
theorem dX10_passDay_23 : decode cX10_passDay 23 = .ok (.getfield 99, 3) := by decide +kernel
theorem dX10_passDay_26 : decode cX10_passDay 26 = .ok (.iconst 1, 1) := by decide +kernel
theorem dX10_passDay_27 : decode cX10_passDay 27 = .ok (.iadd, 1) := by decide +kernel
theorem dX10_passDay_28 : decode cX10_passDay 28 = .ok (.invokestatic 102, 3) := by decide +kernel
theorem dX10_passDay_31 : decode cX10_passDay 31 = .ok (.putfield 99, 3) := by decide +kernel
theorem dX10_passDay_34 : decode cX10_passDay 34 = .ok (.aload_n 1, 1) := by decide +kernel
theorem dX10_passDay_35 : decode cX10_passDay 35 = .ok (.dup, 1) := by decide +kernel
theorem dX10_passDay_36 : decode cX10_passDay 36 = .ok (.getfield 43, 3) := by decide +kernel
theorem dX10_passDay_39 : decode cX10_passDay 39 = .ok (.iconst 1, 1) := by decide +kernel
theorem dX10_passDay_40 : decode cX10_passDay 40 = .ok (.iadd, 1) := by decide +kernel
theorem dX10_passDay_41 : decode cX10_passDay 41 = .ok (.putfield 43, 3) := by decide +kernel
theorem dX10_passDay_44 : decode cX10_passDay 44 = .ok (.return_, 1) := by decide +kernel
theorem dX10_drawDay_0 : decode cX10_drawDay 0 = .ok (.iconst 0, 1) := by decide +kernel
theorem dX10_drawDay_1 : decode cX10_drawDay 1 = .ok (.istore_n 3, 1) := by decide +kernel
theorem dX10_drawDay_2 : decode cX10_drawDay 2 = .ok (.iload_n 3, 1) := by decide +kernel
theorem dX10_drawDay_3 : decode cX10_drawDay 3 = .ok (.iconst 3, 1) := by decide +kernel
theorem dX10_drawDay_4 : decode cX10_drawDay 4 = .ok (.if_icmp .ge 58, 3) := by decide +kernel
theorem dX10_drawDay_7 : decode cX10_drawDay 7 = .ok (.aload_n 0, 1) := by decide +kernel
theorem dX10_drawDay_8 : decode cX10_drawDay 8 = .ok (.aload_n 0, 1) := by decide +kernel
theorem dX10_drawDay_9 : decode cX10_drawDay 9 = .ok (.getfield 9, 3) := by decide +kernel
theorem dX10_drawDay_12 : decode cX10_drawDay 12 = .ok (.getfield 106, 3) := by decide +kernel
theorem dX10_drawDay_15 : decode cX10_drawDay 15 = .ok (.invokevirtual 109, 3) := by decide +kernel
theorem dX10_drawDay_18 : decode cX10_drawDay 18 = .ok (.istore 4, 2) := by decide +kernel
theorem dX10_drawDay_20 : decode cX10_drawDay 20 = .ok (.aload_n 0, 1) := by decide +kernel
theorem dX10_drawDay_21 : decode cX10_drawDay 21 = .ok (.aload_n 0, 1) := by decide +kernel
theorem dX10_drawDay_22 : decode cX10_drawDay 22 = .ok (.getfield 9, 3) := by decide +kernel
theorem dX10_drawDay_25 : decode cX10_drawDay 25 = .ok (.getfield 106, 3) := by decide +kernel
theorem dX10_drawDay_28 : decode cX10_drawDay 28 = .ok (.invokevirtual 109, 3) := by decide +kernel
theorem dX10_drawDay_31 : decode cX10_drawDay 31 = .ok (.istore 5, 2) := by decide +kernel
theorem dX10_drawDay_33 : decode cX10_drawDay 33 = .ok (.aload_n 0, 1) := by decide +kernel
theorem dX10_drawDay_34 : decode cX10_drawDay 34 = .ok (.aload_n 1, 1) := by decide +kernel
theorem dX10_drawDay_35 : decode cX10_drawDay 35 = .ok (.iload 4, 2) := by decide +kernel
theorem dX10_drawDay_37 : decode cX10_drawDay 37 = .ok (.iload 5, 2) := by decide +kernel
theorem dX10_drawDay_39 : decode cX10_drawDay 39 = .ok (.invokevirtual 112, 3) := by decide +kernel
theorem dX10_drawDay_42 : decode cX10_drawDay 42 = .ok (.iconst (-1), 1) := by decide +kernel
theorem dX10_drawDay_43 : decode cX10_drawDay 43 = .ok (.if_icmp .ne 13, 3) := by decide +kernel
theorem dX10_drawDay_46 : decode cX10_drawDay 46 = .ok (.aload_n 0, 1) := by decide +kernel
theorem dX10_drawDay_47 : decode cX10_drawDay 47 = .ok (.aload_n 1, 1) := by decide +kernel
theorem dX10_drawDay_48 : decode cX10_drawDay 48 = .ok (.iload 4, 2) := by decide +kernel
theorem dX10_drawDay_50 : decode cX10_drawDay 50 = .ok (.iload 5, 2) := by decide +kernel
theorem dX10_drawDay_52 : decode cX10_drawDay 52 = .ok (.invokevirtual 116, 3) := by decide +kernel
theorem dX10_drawDay_55 : decode cX10_drawDay 55 = .ok (.pop, 1) := by decide +kernel
theorem dX10_drawDay_56 : decode cX10_drawDay 56 = .ok (.iinc 3 1, 3) := by decide +kernel
theorem dX10_drawDay_59 : decode cX10_drawDay 59 = .ok (.goto (-57), 3) := by decide +kernel
theorem dX10_drawDay_62 : decode cX10_drawDay 62 = .ok (.aload_n 0, 1) := by decide +kernel
theorem dX10_drawDay_63 : decode cX10_drawDay 63 = .ok (.bipush 10, 2) := by decide +kernel
theorem dX10_drawDay_65 : decode cX10_drawDay 65 = .ok (.invokevirtual 109, 3) := by decide +kernel
theorem dX10_drawDay_68 : decode cX10_drawDay 68 = .ok (.iload_n 2, 1) := by decide +kernel
theorem dX10_drawDay_69 : decode cX10_drawDay 69 = .ok (.if_icmp .ge 31, 3) := by decide +kernel
theorem dX10_drawDay_72 : decode cX10_drawDay 72 = .ok (.aload_n 0, 1) := by decide +kernel
theorem dX10_drawDay_73 : decode cX10_drawDay 73 = .ok (.aload_n 0, 1) := by decide +kernel
theorem dX10_drawDay_74 : decode cX10_drawDay 74 = .ok (.getfield 9, 3) := by decide +kernel
theorem dX10_drawDay_77 : decode cX10_drawDay 77 = .ok (.getfield 106, 3) := by decide +kernel
theorem dX10_drawDay_80 : decode cX10_drawDay 80 = .ok (.invokevirtual 109, 3) := by decide +kernel
theorem dX10_drawDay_83 : decode cX10_drawDay 83 = .ok (.istore_n 3, 1) := by decide +kernel
theorem dX10_drawDay_84 : decode cX10_drawDay 84 = .ok (.aload_n 0, 1) := by decide +kernel
theorem dX10_drawDay_85 : decode cX10_drawDay 85 = .ok (.aload_n 1, 1) := by decide +kernel
theorem dX10_drawDay_86 : decode cX10_drawDay 86 = .ok (.iload_n 3, 1) := by decide +kernel
theorem dX10_drawDay_87 : decode cX10_drawDay 87 = .ok (.invokevirtual 120, 3) := by decide +kernel
theorem dX10_drawDay_90 : decode cX10_drawDay 90 = .ok (.iconst (-1), 1) := by decide +kernel
theorem dX10_drawDay_91 : decode cX10_drawDay 91 = .ok (.if_icmp .ne 9, 3) := by decide +kernel
theorem dX10_drawDay_94 : decode cX10_drawDay 94 = .ok (.aload_n 1, 1) := by decide +kernel
theorem dX10_drawDay_95 : decode cX10_drawDay 95 = .ok (.iload_n 3, 1) := by decide +kernel
theorem dX10_drawDay_96 : decode cX10_drawDay 96 = .ok (.invokevirtual 124, 3) := by decide +kernel
theorem dX10_drawDay_99 : decode cX10_drawDay 99 = .ok (.pop, 1) := by decide +kernel
theorem dX10_drawDay_100 : decode cX10_drawDay 100 = .ok (.aload_n 0, 1) := by decide +kernel
theorem dX10_drawDay_101 : decode cX10_drawDay 101 = .ok (.aload_n 1, 1) := by decide +kernel
theorem dX10_drawDay_102 : decode cX10_drawDay 102 = .ok (.invokevirtual 127, 3) := by decide +kernel
theorem dX10_drawDay_105 : decode cX10_drawDay 105 = .ok (.return_, 1) := by decide +kernel
theorem dX10_draw_0 : decode cX10_draw 0 = .ok (.aload_n 0, 1) := by decide +kernel
theorem dX10_draw_1 : decode cX10_draw 1 = .ok (.aload_n 0, 1) := by decide +kernel
theorem dX10_draw_2 : decode cX10_draw 2 = .ok (.getfield 130, 3) := by decide +kernel
theorem dX10_draw_5 : decode cX10_draw 5 = .ok (.ldc2_w 134, 3) := by decide +kernel
theorem dX10_draw_8 : decode cX10_draw 8 = .ok (.lmul, 1) := by decide +kernel
theorem dX10_draw_9 : decode cX10_draw 9 = .ok (.ldc2_w 136, 3) := by decide +kernel
theorem dX10_draw_12 : decode cX10_draw 12 = .ok (.ladd, 1) := by decide +kernel
theorem dX10_draw_13 : decode cX10_draw 13 = .ok (.putfield 130, 3) := by decide +kernel
theorem dX10_draw_16 : decode cX10_draw 16 = .ok (.iload_n 1, 1) := by decide +kernel
theorem dX10_draw_17 : decode cX10_draw 17 = .ok (.ifCond .le 17, 3) := by decide +kernel
theorem dX10_draw_20 : decode cX10_draw 20 = .ok (.aload_n 0, 1) := by decide +kernel
theorem dX10_draw_21 : decode cX10_draw 21 = .ok (.getfield 130, 3) := by decide +kernel
theorem dX10_draw_24 : decode cX10_draw 24 = .ok (.bipush 33, 2) := by decide +kernel
theorem dX10_draw_26 : decode cX10_draw 26 = .ok (.lushr, 1) := by decide +kernel
theorem dX10_draw_27 : decode cX10_draw 27 = .ok (.iload_n 1, 1) := by decide +kernel
theorem dX10_draw_28 : decode cX10_draw 28 = .ok (.i2l, 1) := by decide +kernel
theorem dX10_draw_29 : decode cX10_draw 29 = .ok (.lrem, 1) := by decide +kernel
theorem dX10_draw_30 : decode cX10_draw 30 = .ok (.l2i, 1) := by decide +kernel
theorem dX10_draw_31 : decode cX10_draw 31 = .ok (.goto 4, 3) := by decide +kernel
theorem dX10_draw_34 : decode cX10_draw 34 = .ok (.iconst 0, 1) := by decide +kernel
theorem dX10_draw_35 : decode cX10_draw 35 = .ok (.ireturn, 1) := by decide +kernel
theorem dX11_init_0 : decode cX11_init 0 = .ok (.aload_n 0, 1) := by decide +kernel
theorem dX11_init_1 : decode cX11_init 1 = .ok (.invokespecial 1, 3) := by decide +kernel
theorem dX11_init_4 : decode cX11_init 4 = .ok (.aload_n 0, 1) := by decide +kernel
theorem dX11_init_5 : decode cX11_init 5 = .ok (.new 7, 3) := by decide +kernel
theorem dX11_init_8 : decode cX11_init 8 = .ok (.dup, 1) := by decide +kernel
theorem dX11_init_9 : decode cX11_init 9 = .ok (.invokespecial 9, 3) := by decide +kernel
theorem dX11_init_12 : decode cX11_init 12 = .ok (.putfield 10, 3) := by decide +kernel
theorem dX11_init_15 : decode cX11_init 15 = .ok (.aload_n 0, 1) := by decide +kernel
theorem dX11_init_16 : decode cX11_init 16 = .ok (.new 16, 3) := by decide +kernel
theorem dX11_init_19 : decode cX11_init 19 = .ok (.dup, 1) := by decide +kernel
theorem dX11_init_20 : decode cX11_init 20 = .ok (.invokespecial 18, 3) := by decide +kernel
theorem dX11_init_23 : decode cX11_init 23 = .ok (.putfield 19, 3) := by decide +kernel
theorem dX11_init_26 : decode cX11_init 26 = .ok (.aload_n 0, 1) := by decide +kernel
theorem dX11_init_27 : decode cX11_init 27 = .ok (.new 23, 3) := by decide +kernel
theorem dX11_init_30 : decode cX11_init 30 = .ok (.dup, 1) := by decide +kernel
theorem dX11_init_31 : decode cX11_init 31 = .ok (.aload_n 0, 1) := by decide +kernel
theorem dX11_init_32 : decode cX11_init 32 = .ok (.getfield 10, 3) := by decide +kernel
theorem dX11_init_35 : decode cX11_init 35 = .ok (.invokespecial 25, 3) := by decide +kernel
theorem dX11_init_38 : decode cX11_init 38 = .ok (.putfield 28, 3) := by decide +kernel
theorem dX11_init_41 : decode cX11_init 41 = .ok (.aload_n 0, 1) := by decide +kernel
theorem dX11_init_42 : decode cX11_init 42 = .ok (.new 32, 3) := by decide +kernel
theorem dX11_init_45 : decode cX11_init 45 = .ok (.dup, 1) := by decide +kernel
theorem dX11_init_46 : decode cX11_init 46 = .ok (.aload_n 0, 1) := by decide +kernel
theorem dX11_init_47 : decode cX11_init 47 = .ok (.getfield 10, 3) := by decide +kernel
theorem dX11_init_50 : decode cX11_init 50 = .ok (.invokespecial 34, 3) := by decide +kernel
theorem dX11_init_53 : decode cX11_init 53 = .ok (.putfield 35, 3) := by decide +kernel
theorem dX11_init_56 : decode cX11_init 56 = .ok (.aload_n 0, 1) := by decide +kernel
theorem dX11_init_57 : decode cX11_init 57 = .ok (.new 39, 3) := by decide +kernel
theorem dX11_init_60 : decode cX11_init 60 = .ok (.dup, 1) := by decide +kernel
theorem dX11_init_61 : decode cX11_init 61 = .ok (.aload_n 0, 1) := by decide +kernel
theorem dX11_init_62 : decode cX11_init 62 = .ok (.getfield 19, 3) := by decide +kernel
theorem dX11_init_65 : decode cX11_init 65 = .ok (.invokespecial 41, 3) := by decide +kernel
theorem dX11_init_68 : decode cX11_init 68 = .ok (.putfield 44, 3) := by decide +kernel
theorem dX11_init_71 : decode cX11_init 71 = .ok (.aload_n 0, 1) := by decide +kernel
theorem dX11_init_72 : decode cX11_init 72 = .ok (.new 48, 3) := by decide +kernel
theorem dX11_init_75 : decode cX11_init 75 = .ok (.dup, 1) := by decide +kernel
theorem dX11_init_76 : decode cX11_init 76 = .ok (.invokespecial 50, 3) := by decide +kernel
theorem dX11_init_79 : decode cX11_init 79 = .ok (.putfield 51, 3) := by decide +kernel
theorem dX11_init_82 : decode cX11_init 82 = .ok (.aload_n 0, 1) := by decide +kernel
theorem dX11_init_83 : decode cX11_init 83 = .ok (.new 55, 3) := by decide +kernel
theorem dX11_init_86 : decode cX11_init 86 = .ok (.dup, 1) := by decide +kernel
theorem dX11_init_87 : decode cX11_init 87 = .ok (.invokespecial 57, 3) := by decide +kernel
theorem dX11_init_90 : decode cX11_init 90 = .ok (.putfield 58, 3) := by decide +kernel
theorem dX11_init_93 : decode cX11_init 93 = .ok (.aload_n 0, 1) := by decide +kernel
theorem dX11_init_94 : decode cX11_init 94 = .ok (.new 62, 3) := by decide +kernel
theorem dX11_init_97 : decode cX11_init 97 = .ok (.dup, 1) := by decide +kernel
theorem dX11_init_98 : decode cX11_init 98 = .ok (.aload_n 0, 1) := by decide +kernel
theorem dX11_init_99 : decode cX11_init 99 = .ok (.getfield 19, 3) := by decide +kernel
theorem dX11_init_102 : decode cX11_init 102 = .ok (.aload_n 0, 1) := by decide +kernel
theorem dX11_init_103 : decode cX11_init 103 = .ok (.getfield 44, 3) := by decide +kernel
theorem dX11_init_106 : decode cX11_init 106 = .ok (.aload_n 0, 1) := by decide +kernel
theorem dX11_init_107 : decode cX11_init 107 = .ok (.getfield 58, 3) := by decide +kernel
theorem dX11_init_110 : decode cX11_init 110 = .ok (.invokespecial 64, 3) := by decide +kernel
theorem dX11_init_113 : decode cX11_init 113 = .ok (.putfield 67, 3) := by decide +kernel
theorem dX11_init_116 : decode cX11_init 116 = .ok (.aload_n 0, 1) := by decide +kernel
theorem dX11_init_117 : decode cX11_init 117 = .ok (.new 71, 3) := by decide +kernel
theorem dX11_init_120 : decode cX11_init 120 = .ok (.dup, 1) := by decide +kernel
theorem dX11_init_121 : decode cX11_init 121 = .ok (.aload_n 0, 1) := by decide +kernel
theorem dX11_init_122 : decode cX11_init 122 = .ok (.getfield 19, 3) := by decide +kernel
theorem dX11_init_125 : decode cX11_init 125 = .ok (.aload_n 0, 1) := by decide +kernel
theorem dX11_init_126 : decode cX11_init 126 = .ok (.getfield 67, 3) := by decide +kernel
theorem dX11_init_129 : decode cX11_init 129 = .ok (.aload_n 0, 1) := by decide +kernel
theorem dX11_init_130 : decode cX11_init 130 = .ok (.getfield 51, 3) := by decide +kernel
theorem dX11_init_133 : decode cX11_init 133 = .ok (.invokespecial 73, 3) := by decide +kernel
theorem dX11_init_136 : decode cX11_init 136 = .ok (.putfield 76, 3) := by decide +kernel
theorem dX11_init_139 : decode cX11_init 139 = .ok (.aload_n 0, 1) := by decide +kernel
theorem dX11_init_140 : decode cX11_init 140 = .ok (.new 80, 3) := by decide +kernel
theorem dX11_init_143 : decode cX11_init 143 = .ok (.dup, 1) := by decide +kernel
theorem dX11_init_144 : decode cX11_init 144 = .ok (.aload_n 0, 1) := by decide +kernel
theorem dX11_init_145 : decode cX11_init 145 = .ok (.getfield 19, 3) := by decide +kernel
theorem dX11_init_148 : decode cX11_init 148 = .ok (.aload_n 0, 1) := by decide +kernel
theorem dX11_init_149 : decode cX11_init 149 = .ok (.getfield 44, 3) := by decide +kernel
theorem dX11_init_152 : decode cX11_init 152 = .ok (.invokespecial 82, 3) := by decide +kernel
theorem dX11_init_155 : decode cX11_init 155 = .ok (.putfield 85, 3) := by decide +kernel
theorem dX11_init_158 : decode cX11_init 158 = .ok (.aload_n 0, 1) := by decide +kernel
theorem dX11_init_159 : decode cX11_init 159 = .ok (.new 89, 3) := by decide +kernel
theorem dX11_init_162 : decode cX11_init 162 = .ok (.dup, 1) := by decide +kernel
theorem dX11_init_163 : decode cX11_init 163 = .ok (.aload_n 0, 1) := by decide +kernel
theorem dX11_init_164 : decode cX11_init 164 = .ok (.getfield 19, 3) := by decide +kernel
theorem dX11_init_167 : decode cX11_init 167 = .ok (.aload_n 0, 1) := by decide +kernel
theorem dX11_init_168 : decode cX11_init 168 = .ok (.getfield 44, 3) := by decide +kernel
theorem dX11_init_171 : decode cX11_init 171 = .ok (.aload_n 0, 1) := by decide +kernel
theorem dX11_init_172 : decode cX11_init 172 = .ok (.getfield 51, 3) := by decide +kernel
theorem dX11_init_175 : decode cX11_init 175 = .ok (.invokespecial 91, 3) := by decide +kernel
theorem dX11_init_178 : decode cX11_init 178 = .ok (.putfield 94, 3) := by decide +kernel
theorem dX11_init_181 : decode cX11_init 181 = .ok (.aload_n 0, 1) := by decide +kernel
theorem dX11_init_182 : decode cX11_init 182 = .ok (.iconst 5, 1) := by decide +kernel
theorem dX11_init_183 : decode cX11_init 183 = .ok (.newarray .int, 2) := by decide +kernel
theorem dX11_init_185 : decode cX11_init 185 = .ok (.putfield 98, 3) := by decide +kernel
theorem dX11_init_188 : decode cX11_init 188 = .ok (.aload_n 0, 1) := by decide +kernel
theorem dX11_init_189 : decode cX11_init 189 = .ok (.iconst 1, 1) := by decide +kernel
theorem dX11_init_190 : decode cX11_init 190 = .ok (.putfield 102, 3) := by decide +kernel
theorem dX11_init_193 : decode cX11_init 193 = .ok (.return_, 1) := by decide +kernel
theorem dX11_feed_0 : decode cX11_feed 0 = .ok (.iload_n 1, 1) := by decide +kernel
theorem dX11_feed_1 : decode cX11_feed 1 = .ok (.invokestatic 106, 3) := by decide +kernel
theorem dX11_feed_4 : decode cX11_feed 4 = .ok (.iload_n 2, 1) := by decide +kernel
theorem dX11_feed_5 : decode cX11_feed 5 = .ok (.invokestatic 106, 3) := by decide +kernel
theorem dX11_feed_8 : decode cX11_feed 8 = .ok (.iadd, 1) := by decide +kernel
theorem dX11_feed_9 : decode cX11_feed 9 = .ok (.iload_n 3, 1) := by decide +kernel
theorem dX11_feed_10 : decode cX11_feed 10 = .ok (.invokestatic 106, 3) := by decide +kernel
theorem dX11_feed_13 : decode cX11_feed 13 = .ok (.iadd, 1) := by decide +kernel
theorem dX11_feed_14 : decode cX11_feed 14 = .ok (.iload 4, 2) := by decide +kernel
theorem dX11_feed_16 : decode cX11_feed 16 = .ok (.invokestatic 106, 3) := by decide +kernel
theorem dX11_feed_19 : decode cX11_feed 19 = .ok (.iadd, 1) := by decide +kernel
theorem dX11_feed_20 : decode cX11_feed 20 = .ok (.iload 5, 2) := by decide +kernel
theorem dX11_feed_22 : decode cX11_feed 22 = .ok (.invokestatic 106, 3) := by decide +kernel
theorem dX11_feed_25 : decode cX11_feed 25 = .ok (.iadd, 1) := by decide +kernel
theorem dX11_feed_26 : decode cX11_feed 26 = .ok (.istore 6, 2) := by decide +kernel
theorem dX11_feed_28 : decode cX11_feed 28 = .ok (.aload_n 0, 1) := by decide +kernel
theorem dX11_feed_29 : decode cX11_feed 29 = .ok (.getfield 10, 3) := by decide +kernel
theorem dX11_feed_32 : decode cX11_feed 32 = .ok (.getfield 110, 3) := by decide +kernel
theorem dX11_feed_35 : decode cX11_feed 35 = .ok (.iload 6, 2) := by decide +kernel
theorem dX11_feed_37 : decode cX11_feed 37 = .ok (.iadd, 1) := by decide +kernel
theorem dX11_feed_38 : decode cX11_feed 38 = .ok (.sipush 240, 3) := by decide +kernel
theorem dX11_feed_41 : decode cX11_feed 41 = .ok (.if_icmp .le 5, 3) := by decide +kernel
theorem dX11_feed_44 : decode cX11_feed 44 = .ok (.iconst (-1), 1) := by decide +kernel
theorem dX11_feed_45 : decode cX11_feed 45 = .ok (.ireturn, 1) := by decide +kernel
theorem dX11_feed_46 : decode cX11_feed 46 = .ok (.aload_n 0, 1) := by decide +kernel
theorem dX11_feed_47 : decode cX11_feed 47 = .ok (.getfield 10, 3) := by decide +kernel
theorem dX11_feed_50 : decode cX11_feed 50 = .ok (.iload_n 1, 1) := by decide +kernel
theorem dX11_feed_51 : decode cX11_feed 51 = .ok (.invokevirtual 113, 3) := by decide +kernel
theorem dX11_feed_54 : decode cX11_feed 54 = .ok (.aload_n 0, 1) := by decide +kernel
theorem dX11_feed_55 : decode cX11_feed 55 = .ok (.getfield 10, 3) := by decide +kernel
theorem dX11_feed_58 : decode cX11_feed 58 = .ok (.iload_n 2, 1) := by decide +kernel
theorem dX11_feed_59 : decode cX11_feed 59 = .ok (.invokevirtual 113, 3) := by decide +kernel
theorem dX11_feed_62 : decode cX11_feed 62 = .ok (.aload_n 0, 1) := by decide +kernel
theorem dX11_feed_63 : decode cX11_feed 63 = .ok (.getfield 10, 3) := by decide +kernel
theorem dX11_feed_66 : decode cX11_feed 66 = .ok (.iload_n 3, 1) := by decide +kernel
theorem dX11_feed_67 : decode cX11_feed 67 = .ok (.invokevirtual 113, 3) := by decide +kernel
theorem dX11_feed_70 : decode cX11_feed 70 = .ok (.aload_n 0, 1) := by decide +kernel
theorem dX11_feed_71 : decode cX11_feed 71 = .ok (.getfield 10, 3) := by decide +kernel
theorem dX11_feed_74 : decode cX11_feed 74 = .ok (.iload 4, 2) := by decide +kernel
theorem dX11_feed_76 : decode cX11_feed 76 = .ok (.invokevirtual 113, 3) := by decide +kernel
theorem dX11_feed_79 : decode cX11_feed 79 = .ok (.aload_n 0, 1) := by decide +kernel
theorem dX11_feed_80 : decode cX11_feed 80 = .ok (.getfield 10, 3) := by decide +kernel
theorem dX11_feed_83 : decode cX11_feed 83 = .ok (.iload 5, 2) := by decide +kernel
theorem dX11_feed_85 : decode cX11_feed 85 = .ok (.invokevirtual 113, 3) := by decide +kernel
theorem dX11_feed_88 : decode cX11_feed 88 = .ok (.aload_n 0, 1) := by decide +kernel
theorem dX11_feed_89 : decode cX11_feed 89 = .ok (.getfield 10, 3) := by decide +kernel
theorem dX11_feed_92 : decode cX11_feed 92 = .ok (.getfield 110, 3) := by decide +kernel
theorem dX11_feed_95 : decode cX11_feed 95 = .ok (.ireturn, 1) := by decide +kernel
theorem dX11_end_0 : decode cX11_end 0 = .ok (.iload_n 1, 1) := by decide +kernel
theorem dX11_end_1 : decode cX11_end 1 = .ok (.ifCond .lt 14, 3) := by decide +kernel
theorem dX11_end_4 : decode cX11_end 4 = .ok (.iload_n 1, 1) := by decide +kernel
theorem dX11_end_5 : decode cX11_end 5 = .ok (.aload_n 0, 1) := by decide +kernel
theorem dX11_end_6 : decode cX11_end 6 = .ok (.getfield 10, 3) := by decide +kernel
theorem dX11_end_9 : decode cX11_end 9 = .ok (.getfield 110, 3) := by decide +kernel
theorem dX11_end_12 : decode cX11_end 12 = .ok (.if_icmp .le 5, 3) := by decide +kernel
theorem dX11_end_15 : decode cX11_end 15 = .ok (.iconst 0, 1) := by decide +kernel
theorem dX11_end_16 : decode cX11_end 16 = .ok (.ireturn, 1) := by decide +kernel
theorem dX11_end_17 : decode cX11_end 17 = .ok (.aload_n 0, 1) := by decide +kernel
theorem dX11_end_18 : decode cX11_end 18 = .ok (.getfield 10, 3) := by decide +kernel
theorem dX11_end_21 : decode cX11_end 21 = .ok (.iload_n 1, 1) := by decide +kernel
theorem dX11_end_22 : decode cX11_end 22 = .ok (.putfield 110, 3) := by decide +kernel
theorem dX11_end_25 : decode cX11_end 25 = .ok (.iconst 1, 1) := by decide +kernel
theorem dX11_end_26 : decode cX11_end 26 = .ok (.ireturn, 1) := by decide +kernel
theorem dX11_fault_0 : decode cX11_fault 0 = .ok (.iload_n 1, 1) := by decide +kernel
theorem dX11_fault_1 : decode cX11_fault 1 = .ok (.ifCond .ne 11, 3) := by decide +kernel
theorem dX11_fault_4 : decode cX11_fault 4 = .ok (.aload_n 0, 1) := by decide +kernel
theorem dX11_fault_5 : decode cX11_fault 5 = .ok (.getfield 28, 3) := by decide +kernel
theorem dX11_fault_8 : decode cX11_fault 8 = .ok (.invokevirtual 117, 3) := by decide +kernel
theorem dX11_fault_11 : decode cX11_fault 11 = .ok (.ireturn, 1) := by decide +kernel
theorem dX11_fault_12 : decode cX11_fault 12 = .ok (.iload_n 1, 1) := by decide +kernel
theorem dX11_fault_13 : decode cX11_fault 13 = .ok (.iconst 1, 1) := by decide +kernel
theorem dX11_fault_14 : decode cX11_fault 14 = .ok (.if_icmp .ne 11, 3) := by decide +kernel
theorem dX11_fault_17 : decode cX11_fault 17 = .ok (.aload_n 0, 1) := by decide +kernel
theorem dX11_fault_18 : decode cX11_fault 18 = .ok (.getfield 35, 3) := by decide +kernel
theorem dX11_fault_21 : decode cX11_fault 21 = .ok (.invokevirtual 121, 3) := by decide +kernel
theorem dX11_fault_24 : decode cX11_fault 24 = .ok (.ireturn, 1) := by decide +kernel
theorem dX11_fault_25 : decode cX11_fault 25 = .ok (.bipush (-2), 2) := by decide +kernel
theorem dX11_fault_27 : decode cX11_fault 27 = .ok (.ireturn, 1) := by decide +kernel
theorem dX11_text_0 : decode cX11_text 0 = .ok (.iload_n 1, 1) := by decide +kernel
theorem dX11_text_1 : decode cX11_text 1 = .ok (.ifCond .ne 8, 3) := by decide +kernel
theorem dX11_text_4 : decode cX11_text 4 = .ok (.aload_n 0, 1) := by decide +kernel
theorem dX11_text_5 : decode cX11_text 5 = .ok (.invokevirtual 122, 3) := by decide +kernel
theorem dX11_text_8 : decode cX11_text 8 = .ok (.ireturn, 1) := by decide +kernel
theorem dX11_text_9 : decode cX11_text 9 = .ok (.iload_n 1, 1) := by decide +kernel
theorem dX11_text_10 : decode cX11_text 10 = .ok (.iconst 1, 1) := by decide +kernel
theorem dX11_text_11 : decode cX11_text 11 = .ok (.if_icmp .ne 8, 3) := by decide +kernel
theorem dX11_text_14 : decode cX11_text 14 = .ok (.aload_n 0, 1) := by decide +kernel
theorem dX11_text_15 : decode cX11_text 15 = .ok (.invokevirtual 125, 3) := by decide +kernel
theorem dX11_text_18 : decode cX11_text 18 = .ok (.ireturn, 1) := by decide +kernel
theorem dX11_text_19 : decode cX11_text 19 = .ok (.iconst (-1), 1) := by decide +kernel
theorem dX11_text_20 : decode cX11_text 20 = .ok (.ireturn, 1) := by decide +kernel
theorem dX11_takeMill_0 : decode cX11_takeMill 0 = .ok (.aload_n 0, 1) := by decide +kernel
theorem dX11_takeMill_1 : decode cX11_takeMill 1 = .ok (.getfield 28, 3) := by decide +kernel
theorem dX11_takeMill_4 : decode cX11_takeMill 4 = .ok (.invokevirtual 117, 3) := by decide +kernel
theorem dX11_takeMill_7 : decode cX11_takeMill 7 = .ok (.iconst (-1), 1) := by decide +kernel
theorem dX11_takeMill_8 : decode cX11_takeMill 8 = .ok (.if_icmp .eq 5, 3) := by decide +kernel
theorem dX11_takeMill_11 : decode cX11_takeMill 11 = .ok (.iconst (-1), 1) := by decide +kernel
theorem dX11_takeMill_12 : decode cX11_takeMill 12 = .ok (.ireturn, 1) := by decide +kernel
theorem dX11_takeMill_13 : decode cX11_takeMill 13 = .ok (.aload_n 0, 1) := by decide +kernel
theorem dX11_takeMill_14 : decode cX11_takeMill 14 = .ok (.getfield 19, 3) := by decide +kernel
theorem dX11_takeMill_17 : decode cX11_takeMill 17 = .ok (.aload_n 0, 1) := by decide +kernel
theorem dX11_takeMill_18 : decode cX11_takeMill 18 = .ok (.getfield 28, 3) := by decide +kernel
theorem dX11_takeMill_21 : decode cX11_takeMill 21 = .ok (.getfield 128, 3) := by decide +kernel
theorem dX11_takeMill_24 : decode cX11_takeMill 24 = .ok (.invokevirtual 131, 3) := by decide +kernel
theorem dX11_takeMill_27 : decode cX11_takeMill 27 = .ok (.aload_n 0, 1) := by decide +kernel
theorem dX11_takeMill_28 : decode cX11_takeMill 28 = .ok (.getfield 51, 3) := by decide +kernel
theorem dX11_takeMill_31 : decode cX11_takeMill 31 = .ok (.aload_n 0, 1) := by decide +kernel
theorem dX11_takeMill_32 : decode cX11_takeMill 32 = .ok (.getfield 19, 3) := by decide +kernel
theorem dX11_takeMill_35 : decode cX11_takeMill 35 = .ok (.invokevirtual 134, 3) := by decide +kernel
theorem dX11_takeMill_38 : decode cX11_takeMill 38 = .ok (.aload_n 0, 1) := by decide +kernel
theorem dX11_takeMill_39 : decode cX11_takeMill 39 = .ok (.getfield 58, 3) := by decide +kernel
theorem dX11_takeMill_42 : decode cX11_takeMill 42 = .ok (.invokevirtual 137, 3) := by decide +kernel
theorem dX11_takeMill_45 : decode cX11_takeMill 45 = .ok (.aload_n 0, 1) := by decide +kernel
theorem dX11_takeMill_46 : decode cX11_takeMill 46 = .ok (.getfield 85, 3) := by decide +kernel
theorem dX11_takeMill_49 : decode cX11_takeMill 49 = .ok (.iconst 0, 1) := by decide +kernel
theorem dX11_takeMill_50 : decode cX11_takeMill 50 = .ok (.putfield 140, 3) := by decide +kernel
theorem dX11_takeMill_53 : decode cX11_takeMill 53 = .ok (.aload_n 0, 1) := by decide +kernel
theorem dX11_takeMill_54 : decode cX11_takeMill 54 = .ok (.getfield 10, 3) := by decide +kernel
theorem dX11_takeMill_57 : decode cX11_takeMill 57 = .ok (.iconst 0, 1) := by decide +kernel
theorem dX11_takeMill_58 : decode cX11_takeMill 58 = .ok (.putfield 110, 3) := by decide +kernel
theorem dX11_takeMill_61 : decode cX11_takeMill 61 = .ok (.aload_n 0, 1) := by decide +kernel
theorem dX11_takeMill_62 : decode cX11_takeMill 62 = .ok (.getfield 19, 3) := by decide +kernel
theorem dX11_takeMill_65 : decode cX11_takeMill 65 = .ok (.getfield 143, 3) := by decide +kernel
theorem dX11_takeMill_68 : decode cX11_takeMill 68 = .ok (.ireturn, 1) := by decide +kernel
theorem dX11_takeLaw_0 : decode cX11_takeLaw 0 = .ok (.aload_n 0, 1) := by decide +kernel
theorem dX11_takeLaw_1 : decode cX11_takeLaw 1 = .ok (.getfield 44, 3) := by decide +kernel
theorem dX11_takeLaw_4 : decode cX11_takeLaw 4 = .ok (.getfield 146, 3) := by decide +kernel
theorem dX11_takeLaw_7 : decode cX11_takeLaw 7 = .ok (.iconst 4, 1) := by decide +kernel
theorem dX11_takeLaw_8 : decode cX11_takeLaw 8 = .ok (.if_icmp .eq 14, 3) := by decide +kernel
theorem dX11_takeLaw_11 : decode cX11_takeLaw 11 = .ok (.aload_n 0, 1) := by decide +kernel
theorem dX11_takeLaw_12 : decode cX11_takeLaw 12 = .ok (.getfield 35, 3) := by decide +kernel
theorem dX11_takeLaw_15 : decode cX11_takeLaw 15 = .ok (.invokevirtual 121, 3) := by decide +kernel
theorem dX11_takeLaw_18 : decode cX11_takeLaw 18 = .ok (.iconst (-1), 1) := by decide +kernel
theorem dX11_takeLaw_19 : decode cX11_takeLaw 19 = .ok (.if_icmp .eq 5, 3) := by decide +kernel
theorem dX11_takeLaw_22 : decode cX11_takeLaw 22 = .ok (.iconst (-1), 1) := by decide +kernel
theorem dX11_takeLaw_23 : decode cX11_takeLaw 23 = .ok (.ireturn, 1) := by decide +kernel
theorem dX11_takeLaw_24 : decode cX11_takeLaw 24 = .ok (.aload_n 0, 1) := by decide +kernel
theorem dX11_takeLaw_25 : decode cX11_takeLaw 25 = .ok (.getfield 10, 3) := by decide +kernel
theorem dX11_takeLaw_28 : decode cX11_takeLaw 28 = .ok (.iconst 0, 1) := by decide +kernel
theorem dX11_takeLaw_29 : decode cX11_takeLaw 29 = .ok (.putfield 110, 3) := by decide +kernel
theorem dX11_takeLaw_32 : decode cX11_takeLaw 32 = .ok (.aload_n 0, 1) := by decide +kernel
theorem dX11_takeLaw_33 : decode cX11_takeLaw 33 = .ok (.getfield 44, 3) := by decide +kernel
theorem dX11_takeLaw_36 : decode cX11_takeLaw 36 = .ok (.aload_n 0, 1) := by decide +kernel
theorem dX11_takeLaw_37 : decode cX11_takeLaw 37 = .ok (.getfield 35, 3) := by decide +kernel
theorem dX11_takeLaw_40 : decode cX11_takeLaw 40 = .ok (.getfield 147, 3) := by decide +kernel
theorem dX11_takeLaw_43 : decode cX11_takeLaw 43 = .ok (.aload_n 0, 1) := by decide +kernel
theorem dX11_takeLaw_44 : decode cX11_takeLaw 44 = .ok (.getfield 35, 3) := by decide +kernel
theorem dX11_takeLaw_47 : decode cX11_takeLaw 47 = .ok (.getfield 150, 3) := by decide +kernel
theorem dX11_takeLaw_50 : decode cX11_takeLaw 50 = .ok (.invokevirtual 151, 3) := by decide +kernel
theorem dX11_takeLaw_53 : decode cX11_takeLaw 53 = .ok (.ireturn, 1) := by decide +kernel
theorem dX11_rule_0 : decode cX11_rule 0 = .ok (.aload_n 0, 1) := by decide +kernel
theorem dX11_rule_1 : decode cX11_rule 1 = .ok (.getfield 19, 3) := by decide +kernel
theorem dX11_rule_4 : decode cX11_rule 4 = .ok (.invokevirtual 155, 3) := by decide +kernel
theorem dX11_rule_7 : decode cX11_rule 7 = .ok (.ifCond .ne 5, 3) := by decide +kernel
theorem dX11_rule_10 : decode cX11_rule 10 = .ok (.iconst (-1), 1) := by decide +kernel
theorem dX11_rule_11 : decode cX11_rule 11 = .ok (.ireturn, 1) := by decide +kernel
theorem dX11_rule_12 : decode cX11_rule 12 = .ok (.iload_n 1, 1) := by decide +kernel
theorem dX11_rule_13 : decode cX11_rule 13 = .ok (.tableswitch 63 0 3 #[31, 39, 47, 55], 31) := by decide +kernel
theorem dX11_rule_44 : decode cX11_rule 44 = .ok (.aload_n 0, 1) := by decide +kernel
theorem dX11_rule_45 : decode cX11_rule 45 = .ok (.getfield 19, 3) := by decide +kernel
theorem dX11_rule_48 : decode cX11_rule 48 = .ok (.getfield 159, 3) := by decide +kernel
theorem dX11_rule_51 : decode cX11_rule 51 = .ok (.ireturn, 1) := by decide +kernel
theorem dX11_rule_52 : decode cX11_rule 52 = .ok (.aload_n 0, 1) := by decide +kernel
theorem dX11_rule_53 : decode cX11_rule 53 = .ok (.getfield 19, 3) := by decide +kernel
theorem dX11_rule_56 : decode cX11_rule 56 = .ok (.getfield 162, 3) := by decide +kernel
theorem dX11_rule_59 : decode cX11_rule 59 = .ok (.ireturn, 1) := by decide +kernel
theorem dX11_rule_60 : decode cX11_rule 60 = .ok (.aload_n 0, 1) := by decide +kernel
theorem dX11_rule_61 : decode cX11_rule 61 = .ok (.getfield 19, 3) := by decide +kernel
theorem dX11_rule_64 : decode cX11_rule 64 = .ok (.getfield 165, 3) := by decide +kernel
theorem dX11_rule_67 : decode cX11_rule 67 = .ok (.ireturn, 1) := by decide +kernel
theorem dX11_rule_68 : decode cX11_rule 68 = .ok (.aload_n 0, 1) := by decide +kernel
theorem dX11_rule_69 : decode cX11_rule 69 = .ok (.getfield 51, 3) := by decide +kernel
theorem dX11_rule_72 : decode cX11_rule 72 = .ok (.getfield 168, 3) := by decide +kernel
theorem dX11_rule_75 : decode cX11_rule 75 = .ok (.ireturn, 1) := by decide +kernel
theorem dX11_rule_76 : decode cX11_rule 76 = .ok (.iconst (-1), 1) := by decide +kernel
theorem dX11_rule_77 : decode cX11_rule 77 = .ok (.ireturn, 1) := by decide +kernel
theorem dX11_thread_0 : decode cX11_thread 0 = .ok (.aload_n 0, 1) := by decide +kernel
theorem dX11_thread_1 : decode cX11_thread 1 = .ok (.getfield 19, 3) := by decide +kernel
theorem dX11_thread_4 : decode cX11_thread 4 = .ok (.iload_n 1, 1) := by decide +kernel
theorem dX11_thread_5 : decode cX11_thread 5 = .ok (.invokevirtual 171, 3) := by decide +kernel
theorem dX11_thread_8 : decode cX11_thread 8 = .ok (.ifCond .eq 12, 3) := by decide +kernel
theorem dX11_thread_11 : decode cX11_thread 11 = .ok (.iload_n 2, 1) := by decide +kernel
theorem dX11_thread_12 : decode cX11_thread 12 = .ok (.ifCond .lt 8, 3) := by decide +kernel
theorem dX11_thread_15 : decode cX11_thread 15 = .ok (.iload_n 2, 1) := by decide +kernel
theorem dX11_thread_16 : decode cX11_thread 16 = .ok (.iconst 5, 1) := by decide +kernel
theorem dX11_thread_17 : decode cX11_thread 17 = .ok (.if_icmp .le 13, 3) := by decide +kernel
theorem dX11_thread_20 : decode cX11_thread 20 = .ok (.new 175, 3) := by decide +kernel
theorem dX11_thread_23 : decode cX11_thread 23 = .ok (.dup, 1) := by decide +kernel
theorem dX11_thread_24 : decode cX11_thread 24 = .ok (.ldc 177, 2) := by decide +kernel
theorem dX11_thread_26 : decode cX11_thread 26 = .ok (.invokespecial 179, 3) := by decide +kernel
theorem dX11_thread_29 : decode cX11_thread 29 = .ok (.athrow, 1) := by decide +kernel
theorem dX11_thread_30 : decode cX11_thread 30 = .ok (.iload_n 2, 1) := by decide +kernel
theorem dX11_thread_31 : decode cX11_thread 31 = .ok (.tableswitch 90 0 4 #[33, 43, 53, 63, 80], 33) := by decide +kernel
theorem dX11_thread_64 : decode cX11_thread 64 = .ok (.aload_n 0, 1) := by decide +kernel
theorem dX11_thread_65 : decode cX11_thread 65 = .ok (.getfield 51, 3) := by decide +kernel
theorem dX11_thread_68 : decode cX11_thread 68 = .ok (.getfield 182, 3) := by decide +kernel
theorem dX11_thread_71 : decode cX11_thread 71 = .ok (.iload_n 1, 1) := by decide +kernel
theorem dX11_thread_72 : decode cX11_thread 72 = .ok (.iaload, 1) := by decide +kernel
theorem dX11_thread_73 : decode cX11_thread 73 = .ok (.ireturn, 1) := by decide +kernel
theorem dX11_thread_74 : decode cX11_thread 74 = .ok (.aload_n 0, 1) := by decide +kernel
theorem dX11_thread_75 : decode cX11_thread 75 = .ok (.getfield 19, 3) := by decide +kernel
theorem dX11_thread_78 : decode cX11_thread 78 = .ok (.getfield 185, 3) := by decide +kernel
theorem dX11_thread_81 : decode cX11_thread 81 = .ok (.iload_n 1, 1) := by decide +kernel
theorem dX11_thread_82 : decode cX11_thread 82 = .ok (.iaload, 1) := by decide +kernel
theorem dX11_thread_83 : decode cX11_thread 83 = .ok (.ireturn, 1) := by decide +kernel
theorem dX11_thread_84 : decode cX11_thread 84 = .ok (.aload_n 0, 1) := by decide +kernel
theorem dX11_thread_85 : decode cX11_thread 85 = .ok (.getfield 51, 3) := by decide +kernel
theorem dX11_thread_88 : decode cX11_thread 88 = .ok (.getfield 188, 3) := by decide +kernel
theorem dX11_thread_91 : decode cX11_thread 91 = .ok (.iload_n 1, 1) := by decide +kernel
theorem dX11_thread_92 : decode cX11_thread 92 = .ok (.iaload, 1) := by decide +kernel
theorem dX11_thread_93 : decode cX11_thread 93 = .ok (.ireturn, 1) := by decide +kernel
theorem dX11_thread_94 : decode cX11_thread 94 = .ok (.aload_n 0, 1) := by decide +kernel
theorem dX11_thread_95 : decode cX11_thread 95 = .ok (.getfield 51, 3) := by decide +kernel
theorem dX11_thread_98 : decode cX11_thread 98 = .ok (.iload_n 1, 1) := by decide +kernel
theorem dX11_thread_99 : decode cX11_thread 99 = .ok (.invokevirtual 191, 3) := by decide +kernel
theorem dX11_thread_102 : decode cX11_thread 102 = .ok (.ifCond .eq 7, 3) := by decide +kernel
theorem dX11_thread_105 : decode cX11_thread 105 = .ok (.iconst 1, 1) := by decide +kernel
theorem dX11_thread_106 : decode cX11_thread 106 = .ok (.goto 4, 3) := by decide +kernel
theorem dX11_thread_109 : decode cX11_thread 109 = .ok (.iconst 0, 1) := by decide +kernel
theorem dX11_thread_110 : decode cX11_thread 110 = .ok (.ireturn, 1) := by decide +kernel
theorem dX11_thread_111 : decode cX11_thread 111 = .ok (.aload_n 0, 1) := by decide +kernel
theorem dX11_thread_112 : decode cX11_thread 112 = .ok (.getfield 51, 3) := by decide +kernel
theorem dX11_thread_115 : decode cX11_thread 115 = .ok (.getfield 194, 3) := by decide +kernel
theorem dX11_thread_118 : decode cX11_thread 118 = .ok (.iload_n 1, 1) := by decide +kernel
theorem dX11_thread_119 : decode cX11_thread 119 = .ok (.iaload, 1) := by decide +kernel
theorem dX11_thread_120 : decode cX11_thread 120 = .ok (.ireturn, 1) := by decide +kernel
theorem dX11_thread_121 : decode cX11_thread 121 = .ok (.aload_n 0, 1) := by decide +kernel
theorem dX11_thread_122 : decode cX11_thread 122 = .ok (.getfield 51, 3) := by decide +kernel
theorem dX11_thread_125 : decode cX11_thread 125 = .ok (.getfield 197, 3) := by decide +kernel
theorem dX11_thread_128 : decode cX11_thread 128 = .ok (.iload_n 1, 1) := by decide +kernel
theorem dX11_thread_129 : decode cX11_thread 129 = .ok (.iaload, 1) := by decide +kernel
theorem dX11_thread_130 : decode cX11_thread 130 = .ok (.ireturn, 1) := by decide +kernel
theorem dX11_law_0 : decode cX11_law 0 = .ok (.iload_n 1, 1) := by decide +kernel
theorem dX11_law_1 : decode cX11_law 1 = .ok (.iconst (-1), 1) := by decide +kernel
theorem dX11_law_2 : decode cX11_law 2 = .ok (.if_icmp .lt 14, 3) := by decide +kernel
theorem dX11_law_5 : decode cX11_law 5 = .ok (.iload_n 1, 1) := by decide +kernel
theorem dX11_law_6 : decode cX11_law 6 = .ok (.aload_n 0, 1) := by decide +kernel
theorem dX11_law_7 : decode cX11_law 7 = .ok (.getfield 44, 3) := by decide +kernel
theorem dX11_law_10 : decode cX11_law 10 = .ok (.getfield 146, 3) := by decide +kernel
theorem dX11_law_13 : decode cX11_law 13 = .ok (.if_icmp .lt 5, 3) := by decide +kernel
theorem dX11_law_16 : decode cX11_law 16 = .ok (.iconst 0, 1) := by decide +kernel
theorem dX11_law_17 : decode cX11_law 17 = .ok (.ireturn, 1) := by decide +kernel
theorem dX11_law_18 : decode cX11_law 18 = .ok (.aload_n 0, 1) := by decide +kernel
theorem dX11_law_19 : decode cX11_law 19 = .ok (.getfield 44, 3) := by decide +kernel
theorem dX11_law_22 : decode cX11_law 22 = .ok (.iload_n 1, 1) := by decide +kernel
theorem dX11_law_23 : decode cX11_law 23 = .ok (.putfield 200, 3) := by decide +kernel
theorem dX11_law_26 : decode cX11_law 26 = .ok (.iconst 1, 1) := by decide +kernel
theorem dX11_law_27 : decode cX11_law 27 = .ok (.ireturn, 1) := by decide +kernel
theorem dX11_attempt_0 : decode cX11_attempt 0 = .ok (.aload_n 0, 1) := by decide +kernel
theorem dX11_attempt_1 : decode cX11_attempt 1 = .ok (.getfield 67, 3) := by decide +kernel
theorem dX11_attempt_4 : decode cX11_attempt 4 = .ok (.aload_n 0, 1) := by decide +kernel
theorem dX11_attempt_5 : decode cX11_attempt 5 = .ok (.getfield 51, 3) := by decide +kernel
theorem dX11_attempt_8 : decode cX11_attempt 8 = .ok (.iload_n 1, 1) := by decide +kernel
theorem dX11_attempt_9 : decode cX11_attempt 9 = .ok (.iload_n 2, 1) := by decide +kernel
theorem dX11_attempt_10 : decode cX11_attempt 10 = .ok (.invokevirtual 203, 3) := by decide +kernel
theorem dX11_attempt_13 : decode cX11_attempt 13 = .ok (.istore_n 3, 1) := by decide +kernel
theorem dX11_attempt_14 : decode cX11_attempt 14 = .ok (.iload_n 3, 1) := by decide +kernel
theorem dX11_attempt_15 : decode cX11_attempt 15 = .ok (.iconst (-1), 1) := by decide +kernel
theorem dX11_attempt_16 : decode cX11_attempt 16 = .ok (.if_icmp .eq 9, 3) := by decide +kernel
theorem dX11_attempt_19 : decode cX11_attempt 19 = .ok (.aload_n 0, 1) := by decide +kernel
theorem dX11_attempt_20 : decode cX11_attempt 20 = .ok (.iload_n 3, 1) := by decide +kernel
theorem dX11_attempt_21 : decode cX11_attempt 21 = .ok (.invokevirtual 207, 3) := by decide +kernel
theorem dX11_attempt_24 : decode cX11_attempt 24 = .ok (.ireturn, 1) := by decide +kernel
theorem dX11_attempt_25 : decode cX11_attempt 25 = .ok (.aload_n 0, 1) := by decide +kernel
theorem dX11_attempt_26 : decode cX11_attempt 26 = .ok (.getfield 58, 3) := by decide +kernel
theorem dX11_attempt_29 : decode cX11_attempt 29 = .ok (.aload_n 0, 1) := by decide +kernel
theorem dX11_attempt_30 : decode cX11_attempt 30 = .ok (.getfield 51, 3) := by decide +kernel
theorem dX11_attempt_33 : decode cX11_attempt 33 = .ok (.invokevirtual 210, 3) := by decide +kernel
theorem dX11_attempt_36 : decode cX11_attempt 36 = .ok (.aload_n 0, 1) := by decide +kernel
theorem dX11_attempt_37 : decode cX11_attempt 37 = .ok (.getfield 67, 3) := by decide +kernel
theorem dX11_attempt_40 : decode cX11_attempt 40 = .ok (.aload_n 0, 1) := by decide +kernel
theorem dX11_attempt_41 : decode cX11_attempt 41 = .ok (.getfield 51, 3) := by decide +kernel
theorem dX11_attempt_44 : decode cX11_attempt 44 = .ok (.iload_n 1, 1) := by decide +kernel
theorem dX11_attempt_45 : decode cX11_attempt 45 = .ok (.iload_n 2, 1) := by decide +kernel
theorem dX11_attempt_46 : decode cX11_attempt 46 = .ok (.invokevirtual 214, 3) := by decide +kernel
theorem dX11_attempt_49 : decode cX11_attempt 49 = .ok (.ifCond .eq 7, 3) := by decide +kernel
theorem dX11_attempt_52 : decode cX11_attempt 52 = .ok (.iconst 1, 1) := by decide +kernel
theorem dX11_attempt_53 : decode cX11_attempt 53 = .ok (.goto 4, 3) := by decide +kernel
theorem dX11_attempt_56 : decode cX11_attempt 56 = .ok (.iconst 0, 1) := by decide +kernel
theorem dX11_attempt_57 : decode cX11_attempt 57 = .ok (.ireturn, 1) := by decide +kernel
theorem dX11_pull_0 : decode cX11_pull 0 = .ok (.aload_n 0, 1) := by decide +kernel
theorem dX11_pull_1 : decode cX11_pull 1 = .ok (.getfield 67, 3) := by decide +kernel
theorem dX11_pull_4 : decode cX11_pull 4 = .ok (.aload_n 0, 1) := by decide +kernel
theorem dX11_pull_5 : decode cX11_pull 5 = .ok (.getfield 51, 3) := by decide +kernel
theorem dX11_pull_8 : decode cX11_pull 8 = .ok (.iload_n 1, 1) := by decide +kernel
theorem dX11_pull_9 : decode cX11_pull 9 = .ok (.invokevirtual 218, 3) := by decide +kernel
theorem dX11_pull_12 : decode cX11_pull 12 = .ok (.istore_n 2, 1) := by decide +kernel
theorem dX11_pull_13 : decode cX11_pull 13 = .ok (.iload_n 2, 1) := by decide +kernel
theorem dX11_pull_14 : decode cX11_pull 14 = .ok (.iconst (-1), 1) := by decide +kernel
theorem dX11_pull_15 : decode cX11_pull 15 = .ok (.if_icmp .eq 9, 3) := by decide +kernel
theorem dX11_pull_18 : decode cX11_pull 18 = .ok (.aload_n 0, 1) := by decide +kernel
theorem dX11_pull_19 : decode cX11_pull 19 = .ok (.iload_n 2, 1) := by decide +kernel
theorem dX11_pull_20 : decode cX11_pull 20 = .ok (.invokevirtual 207, 3) := by decide +kernel
theorem dX11_pull_23 : decode cX11_pull 23 = .ok (.ireturn, 1) := by decide +kernel
theorem dX11_pull_24 : decode cX11_pull 24 = .ok (.aload_n 0, 1) := by decide +kernel
theorem dX11_pull_25 : decode cX11_pull 25 = .ok (.getfield 58, 3) := by decide +kernel
theorem dX11_pull_28 : decode cX11_pull 28 = .ok (.aload_n 0, 1) := by decide +kernel
theorem dX11_pull_29 : decode cX11_pull 29 = .ok (.getfield 51, 3) := by decide +kernel
theorem dX11_pull_32 : decode cX11_pull 32 = .ok (.invokevirtual 210, 3) := by decide +kernel
theorem dX11_pull_35 : decode cX11_pull 35 = .ok (.aload_n 0, 1) := by decide +kernel
theorem dX11_pull_36 : decode cX11_pull 36 = .ok (.getfield 51, 3) := by decide +kernel
theorem dX11_pull_39 : decode cX11_pull 39 = .ok (.iload_n 1, 1) := by decide +kernel
theorem dX11_pull_40 : decode cX11_pull 40 = .ok (.invokevirtual 222, 3) := by decide +kernel
theorem dX11_pull_43 : decode cX11_pull 43 = .ok (.ireturn, 1) := by decide +kernel
theorem dX11_sell_0 : decode cX11_sell 0 = .ok (.aload_n 0, 1) := by decide +kernel
theorem dX11_sell_1 : decode cX11_sell 1 = .ok (.iload_n 1, 1) := by decide +kernel
theorem dX11_sell_2 : decode cX11_sell 2 = .ok (.invokevirtual 225, 3) := by decide +kernel
theorem dX11_sell_5 : decode cX11_sell 5 = .ok (.istore_n 2, 1) := by decide +kernel
theorem dX11_sell_6 : decode cX11_sell 6 = .ok (.iload_n 2, 1) := by decide +kernel
theorem dX11_sell_7 : decode cX11_sell 7 = .ok (.iconst (-1), 1) := by decide +kernel
theorem dX11_sell_8 : decode cX11_sell 8 = .ok (.if_icmp .eq 9, 3) := by decide +kernel
theorem dX11_sell_11 : decode cX11_sell 11 = .ok (.aload_n 0, 1) := by decide +kernel
theorem dX11_sell_12 : decode cX11_sell 12 = .ok (.iload_n 2, 1) := by decide +kernel
theorem dX11_sell_13 : decode cX11_sell 13 = .ok (.invokevirtual 207, 3) := by decide +kernel
theorem dX11_sell_16 : decode cX11_sell 16 = .ok (.ireturn, 1) := by decide +kernel
theorem dX11_sell_17 : decode cX11_sell 17 = .ok (.aload_n 0, 1) := by decide +kernel
theorem dX11_sell_18 : decode cX11_sell 18 = .ok (.getfield 58, 3) := by decide +kernel
theorem dX11_sell_21 : decode cX11_sell 21 = .ok (.aload_n 0, 1) := by decide +kernel
theorem dX11_sell_22 : decode cX11_sell 22 = .ok (.getfield 51, 3) := by decide +kernel
theorem dX11_sell_25 : decode cX11_sell 25 = .ok (.invokevirtual 210, 3) := by decide +kernel
theorem dX11_sell_28 : decode cX11_sell 28 = .ok (.aload_n 0, 1) := by decide +kernel
theorem dX11_sell_29 : decode cX11_sell 29 = .ok (.getfield 51, 3) := by decide +kernel
theorem dX11_sell_32 : decode cX11_sell 32 = .ok (.iload_n 1, 1) := by decide +kernel
theorem dX11_sell_33 : decode cX11_sell 33 = .ok (.invokevirtual 228, 3) := by decide +kernel
theorem dX11_sell_36 : decode cX11_sell 36 = .ok (.istore_n 3, 1) := by decide +kernel
theorem dX11_sell_37 : decode cX11_sell 37 = .ok (.aload_n 0, 1) := by decide +kernel
theorem dX11_sell_38 : decode cX11_sell 38 = .ok (.getfield 51, 3) := by decide +kernel
theorem dX11_sell_41 : decode cX11_sell 41 = .ok (.sipush 9999, 3) := by decide +kernel
theorem dX11_sell_44 : decode cX11_sell 44 = .ok (.aload_n 0, 1) := by decide +kernel
theorem dX11_sell_45 : decode cX11_sell 45 = .ok (.getfield 51, 3) := by decide +kernel
theorem dX11_sell_48 : decode cX11_sell 48 = .ok (.getfield 168, 3) := by decide +kernel
theorem dX11_sell_51 : decode cX11_sell 51 = .ok (.aload_n 0, 1) := by decide +kernel
theorem dX11_sell_52 : decode cX11_sell 52 = .ok (.getfield 51, 3) := by decide +kernel
theorem dX11_sell_55 : decode cX11_sell 55 = .ok (.iload_n 3, 1) := by decide +kernel
theorem dX11_sell_56 : decode cX11_sell 56 = .ok (.invokevirtual 231, 3) := by decide +kernel
theorem dX11_sell_59 : decode cX11_sell 59 = .ok (.iadd, 1) := by decide +kernel
theorem dX11_sell_60 : decode cX11_sell 60 = .ok (.invokestatic 234, 3) := by decide +kernel
theorem dX11_sell_63 : decode cX11_sell 63 = .ok (.putfield 168, 3) := by decide +kernel
theorem dX11_sell_66 : decode cX11_sell 66 = .ok (.aload_n 0, 1) := by decide +kernel
theorem dX11_sell_67 : decode cX11_sell 67 = .ok (.getfield 51, 3) := by decide +kernel
theorem dX11_sell_70 : decode cX11_sell 70 = .ok (.dup, 1) := by decide +kernel
theorem dX11_sell_71 : decode cX11_sell 71 = .ok (.getfield 240, 3) := by decide +kernel
theorem dX11_sell_74 : decode cX11_sell 74 = .ok (.iload_n 3, 1) := by decide +kernel
theorem dX11_sell_75 : decode cX11_sell 75 = .ok (.ior, 1) := by decide +kernel
theorem dX11_sell_76 : decode cX11_sell 76 = .ok (.putfield 240, 3) := by decide +kernel
theorem dX11_sell_79 : decode cX11_sell 79 = .ok (.aload_n 0, 1) := by decide +kernel
theorem dX11_sell_80 : decode cX11_sell 80 = .ok (.getfield 51, 3) := by decide +kernel
theorem dX11_sell_83 : decode cX11_sell 83 = .ok (.getfield 168, 3) := by decide +kernel
theorem dX11_sell_86 : decode cX11_sell 86 = .ok (.ireturn, 1) := by decide +kernel
theorem dX11_sellRefusal_0 : decode cX11_sellRefusal 0 = .ok (.aload_n 0, 1) := by decide +kernel
theorem dX11_sellRefusal_1 : decode cX11_sellRefusal 1 = .ok (.getfield 19, 3) := by decide +kernel
theorem dX11_sellRefusal_4 : decode cX11_sellRefusal 4 = .ok (.iload_n 1, 1) := by decide +kernel
theorem dX11_sellRefusal_5 : decode cX11_sellRefusal 5 = .ok (.invokevirtual 171, 3) := by decide +kernel
theorem dX11_sellRefusal_8 : decode cX11_sellRefusal 8 = .ok (.ifCond .ne 5, 3) := by decide +kernel
theorem dX11_sellRefusal_11 : decode cX11_sellRefusal 11 = .ok (.iconst 0, 1) := by decide +kernel
theorem dX11_sellRefusal_12 : decode cX11_sellRefusal 12 = .ok (.ireturn, 1) := by decide +kernel
theorem dX11_sellRefusal_13 : decode cX11_sellRefusal 13 = .ok (.aload_n 0, 1) := by decide +kernel
theorem dX11_sellRefusal_14 : decode cX11_sellRefusal 14 = .ok (.getfield 51, 3) := by decide +kernel
theorem dX11_sellRefusal_17 : decode cX11_sellRefusal 17 = .ok (.getfield 197, 3) := by decide +kernel
theorem dX11_sellRefusal_20 : decode cX11_sellRefusal 20 = .ok (.iload_n 1, 1) := by decide +kernel
theorem dX11_sellRefusal_21 : decode cX11_sellRefusal 21 = .ok (.iaload, 1) := by decide +kernel
theorem dX11_sellRefusal_22 : decode cX11_sellRefusal 22 = .ok (.iconst (-1), 1) := by decide +kernel
theorem dX11_sellRefusal_23 : decode cX11_sellRefusal 23 = .ok (.if_icmp .eq 5, 3) := by decide +kernel
theorem dX11_sellRefusal_26 : decode cX11_sellRefusal 26 = .ok (.iconst 1, 1) := by decide +kernel
theorem dX11_sellRefusal_27 : decode cX11_sellRefusal 27 = .ok (.ireturn, 1) := by decide +kernel
theorem dX11_sellRefusal_28 : decode cX11_sellRefusal 28 = .ok (.aload_n 0, 1) := by decide +kernel
theorem dX11_sellRefusal_29 : decode cX11_sellRefusal 29 = .ok (.getfield 51, 3) := by decide +kernel
theorem dX11_sellRefusal_32 : decode cX11_sellRefusal 32 = .ok (.iload_n 1, 1) := by decide +kernel
theorem dX11_sellRefusal_33 : decode cX11_sellRefusal 33 = .ok (.invokevirtual 191, 3) := by decide +kernel
theorem dX11_sellRefusal_36 : decode cX11_sellRefusal 36 = .ok (.ifCond .eq 5, 3) := by decide +kernel
theorem dX11_sellRefusal_39 : decode cX11_sellRefusal 39 = .ok (.iconst 2, 1) := by decide +kernel
theorem dX11_sellRefusal_40 : decode cX11_sellRefusal 40 = .ok (.ireturn, 1) := by decide +kernel
theorem dX11_sellRefusal_41 : decode cX11_sellRefusal 41 = .ok (.aload_n 0, 1) := by decide +kernel
theorem dX11_sellRefusal_42 : decode cX11_sellRefusal 42 = .ok (.getfield 51, 3) := by decide +kernel
theorem dX11_sellRefusal_45 : decode cX11_sellRefusal 45 = .ok (.getfield 194, 3) := by decide +kernel
theorem dX11_sellRefusal_48 : decode cX11_sellRefusal 48 = .ok (.iload_n 1, 1) := by decide +kernel
theorem dX11_sellRefusal_49 : decode cX11_sellRefusal 49 = .ok (.iaload, 1) := by decide +kernel
theorem dX11_sellRefusal_50 : decode cX11_sellRefusal 50 = .ok (.iconst (-1), 1) := by decide +kernel
theorem dX11_sellRefusal_51 : decode cX11_sellRefusal 51 = .ok (.if_icmp .ne 7, 3) := by decide +kernel
theorem dX11_sellRefusal_54 : decode cX11_sellRefusal 54 = .ok (.iconst 3, 1) := by decide +kernel
theorem dX11_sellRefusal_55 : decode cX11_sellRefusal 55 = .ok (.goto 4, 3) := by decide +kernel
theorem dX11_sellRefusal_58 : decode cX11_sellRefusal 58 = .ok (.iconst (-1), 1) := by decide +kernel
theorem dX11_sellRefusal_59 : decode cX11_sellRefusal 59 = .ok (.ireturn, 1) := by decide +kernel
theorem dX11_dye_0 : decode cX11_dye 0 = .ok (.aload_n 0, 1) := by decide +kernel
theorem dX11_dye_1 : decode cX11_dye 1 = .ok (.iload_n 1, 1) := by decide +kernel
theorem dX11_dye_2 : decode cX11_dye 2 = .ok (.iload_n 2, 1) := by decide +kernel
theorem dX11_dye_3 : decode cX11_dye 3 = .ok (.invokevirtual 243, 3) := by decide +kernel
theorem dX11_dye_6 : decode cX11_dye 6 = .ok (.istore_n 3, 1) := by decide +kernel
theorem dX11_dye_7 : decode cX11_dye 7 = .ok (.iload_n 3, 1) := by decide +kernel
theorem dX11_dye_8 : decode cX11_dye 8 = .ok (.iconst (-1), 1) := by decide +kernel
theorem dX11_dye_9 : decode cX11_dye 9 = .ok (.if_icmp .eq 9, 3) := by decide +kernel
theorem dX11_dye_12 : decode cX11_dye 12 = .ok (.aload_n 0, 1) := by decide +kernel
theorem dX11_dye_13 : decode cX11_dye 13 = .ok (.iload_n 3, 1) := by decide +kernel
theorem dX11_dye_14 : decode cX11_dye 14 = .ok (.invokevirtual 207, 3) := by decide +kernel
theorem dX11_dye_17 : decode cX11_dye 17 = .ok (.ireturn, 1) := by decide +kernel
theorem dX11_dye_18 : decode cX11_dye 18 = .ok (.aload_n 0, 1) := by decide +kernel
theorem dX11_dye_19 : decode cX11_dye 19 = .ok (.getfield 58, 3) := by decide +kernel
theorem dX11_dye_22 : decode cX11_dye 22 = .ok (.aload_n 0, 1) := by decide +kernel
theorem dX11_dye_23 : decode cX11_dye 23 = .ok (.getfield 51, 3) := by decide +kernel
theorem dX11_dye_26 : decode cX11_dye 26 = .ok (.invokevirtual 210, 3) := by decide +kernel
theorem dX11_dye_29 : decode cX11_dye 29 = .ok (.aload_n 0, 1) := by decide +kernel
theorem dX11_dye_30 : decode cX11_dye 30 = .ok (.getfield 51, 3) := by decide +kernel
theorem dX11_dye_33 : decode cX11_dye 33 = .ok (.getfield 182, 3) := by decide +kernel
theorem dX11_dye_36 : decode cX11_dye 36 = .ok (.iload_n 1, 1) := by decide +kernel
theorem dX11_dye_37 : decode cX11_dye 37 = .ok (.iaload, 1) := by decide +kernel
theorem dX11_dye_38 : decode cX11_dye 38 = .ok (.istore 4, 2) := by decide +kernel
theorem dX11_dye_40 : decode cX11_dye 40 = .ok (.aload_n 0, 1) := by decide +kernel
theorem dX11_dye_41 : decode cX11_dye 41 = .ok (.getfield 51, 3) := by decide +kernel
theorem dX11_dye_44 : decode cX11_dye 44 = .ok (.getfield 182, 3) := by decide +kernel
theorem dX11_dye_47 : decode cX11_dye 47 = .ok (.iload_n 1, 1) := by decide +kernel
theorem dX11_dye_48 : decode cX11_dye 48 = .ok (.iload_n 2, 1) := by decide +kernel
theorem dX11_dye_49 : decode cX11_dye 49 = .ok (.iastore, 1) := by decide +kernel
theorem dX11_dye_50 : decode cX11_dye 50 = .ok (.aload_n 0, 1) := by decide +kernel
theorem dX11_dye_51 : decode cX11_dye 51 = .ok (.getfield 51, 3) := by decide +kernel
theorem dX11_dye_54 : decode cX11_dye 54 = .ok (.dup, 1) := by decide +kernel
theorem dX11_dye_55 : decode cX11_dye 55 = .ok (.getfield 168, 3) := by decide +kernel
theorem dX11_dye_58 : decode cX11_dye 58 = .ok (.iconst 2, 1) := by decide +kernel
theorem dX11_dye_59 : decode cX11_dye 59 = .ok (.isub, 1) := by decide +kernel
theorem dX11_dye_60 : decode cX11_dye 60 = .ok (.putfield 168, 3) := by decide +kernel
theorem dX11_dye_63 : decode cX11_dye 63 = .ok (.iload 4, 2) := by decide +kernel
theorem dX11_dye_65 : decode cX11_dye 65 = .ok (.ireturn, 1) := by decide +kernel
theorem dX11_dyeRefusal_0 : decode cX11_dyeRefusal 0 = .ok (.aload_n 0, 1) := by decide +kernel
theorem dX11_dyeRefusal_1 : decode cX11_dyeRefusal 1 = .ok (.getfield 19, 3) := by decide +kernel
theorem dX11_dyeRefusal_4 : decode cX11_dyeRefusal 4 = .ok (.iload_n 1, 1) := by decide +kernel
theorem dX11_dyeRefusal_5 : decode cX11_dyeRefusal 5 = .ok (.invokevirtual 171, 3) := by decide +kernel
theorem dX11_dyeRefusal_8 : decode cX11_dyeRefusal 8 = .ok (.ifCond .ne 5, 3) := by decide +kernel
theorem dX11_dyeRefusal_11 : decode cX11_dyeRefusal 11 = .ok (.iconst 0, 1) := by decide +kernel
theorem dX11_dyeRefusal_12 : decode cX11_dyeRefusal 12 = .ok (.ireturn, 1) := by decide +kernel
theorem dX11_dyeRefusal_13 : decode cX11_dyeRefusal 13 = .ok (.iload_n 2, 1) := by decide +kernel
theorem dX11_dyeRefusal_14 : decode cX11_dyeRefusal 14 = .ok (.ifCond .lt 9, 3) := by decide +kernel
theorem dX11_dyeRefusal_17 : decode cX11_dyeRefusal 17 = .ok (.iload_n 2, 1) := by decide +kernel
theorem dX11_dyeRefusal_18 : decode cX11_dyeRefusal 18 = .ok (.bipush 20, 2) := by decide +kernel
theorem dX11_dyeRefusal_20 : decode cX11_dyeRefusal 20 = .ok (.if_icmp .le 5, 3) := by decide +kernel
theorem dX11_dyeRefusal_23 : decode cX11_dyeRefusal 23 = .ok (.iconst 1, 1) := by decide +kernel
theorem dX11_dyeRefusal_24 : decode cX11_dyeRefusal 24 = .ok (.ireturn, 1) := by decide +kernel
theorem dX11_dyeRefusal_25 : decode cX11_dyeRefusal 25 = .ok (.aload_n 0, 1) := by decide +kernel
theorem dX11_dyeRefusal_26 : decode cX11_dyeRefusal 26 = .ok (.getfield 51, 3) := by decide +kernel
theorem dX11_dyeRefusal_29 : decode cX11_dyeRefusal 29 = .ok (.iload_n 1, 1) := by decide +kernel
theorem dX11_dyeRefusal_30 : decode cX11_dyeRefusal 30 = .ok (.invokevirtual 246, 3) := by decide +kernel
theorem dX11_dyeRefusal_33 : decode cX11_dyeRefusal 33 = .ok (.ifCond .eq 16, 3) := by decide +kernel
theorem dX11_dyeRefusal_36 : decode cX11_dyeRefusal 36 = .ok (.aload_n 0, 1) := by decide +kernel
theorem dX11_dyeRefusal_37 : decode cX11_dyeRefusal 37 = .ok (.getfield 51, 3) := by decide +kernel
theorem dX11_dyeRefusal_40 : decode cX11_dyeRefusal 40 = .ok (.getfield 182, 3) := by decide +kernel
theorem dX11_dyeRefusal_43 : decode cX11_dyeRefusal 43 = .ok (.iload_n 1, 1) := by decide +kernel
theorem dX11_dyeRefusal_44 : decode cX11_dyeRefusal 44 = .ok (.iaload, 1) := by decide +kernel
theorem dX11_dyeRefusal_45 : decode cX11_dyeRefusal 45 = .ok (.iload_n 2, 1) := by decide +kernel
theorem dX11_dyeRefusal_46 : decode cX11_dyeRefusal 46 = .ok (.if_icmp .ne 5, 3) := by decide +kernel
theorem dX11_dyeRefusal_49 : decode cX11_dyeRefusal 49 = .ok (.iconst 2, 1) := by decide +kernel
theorem dX11_dyeRefusal_50 : decode cX11_dyeRefusal 50 = .ok (.ireturn, 1) := by decide +kernel
theorem dX11_dyeRefusal_51 : decode cX11_dyeRefusal 51 = .ok (.aload_n 0, 1) := by decide +kernel
theorem dX11_dyeRefusal_52 : decode cX11_dyeRefusal 52 = .ok (.getfield 51, 3) := by decide +kernel
theorem dX11_dyeRefusal_55 : decode cX11_dyeRefusal 55 = .ok (.getfield 168, 3) := by decide +kernel
theorem dX11_dyeRefusal_58 : decode cX11_dyeRefusal 58 = .ok (.iconst 2, 1) := by decide +kernel
theorem dX11_dyeRefusal_59 : decode cX11_dyeRefusal 59 = .ok (.if_icmp .ge 7, 3) := by decide +kernel
theorem dX11_dyeRefusal_62 : decode cX11_dyeRefusal 62 = .ok (.iconst 3, 1) := by decide +kernel
theorem dX11_dyeRefusal_63 : decode cX11_dyeRefusal 63 = .ok (.goto 4, 3) := by decide +kernel
theorem dX11_dyeRefusal_66 : decode cX11_dyeRefusal 66 = .ok (.iconst (-1), 1) := by decide +kernel
theorem dX11_dyeRefusal_67 : decode cX11_dyeRefusal 67 = .ok (.ireturn, 1) := by decide +kernel
theorem dX11_give_0 : decode cX11_give 0 = .ok (.aload_n 0, 1) := by decide +kernel
theorem dX11_give_1 : decode cX11_give 1 = .ok (.getfield 19, 3) := by decide +kernel
theorem dX11_give_4 : decode cX11_give 4 = .ok (.invokevirtual 155, 3) := by decide +kernel
theorem dX11_give_7 : decode cX11_give 7 = .ok (.ifCond .ne 9, 3) := by decide +kernel
theorem dX11_give_10 : decode cX11_give 10 = .ok (.aload_n 0, 1) := by decide +kernel
theorem dX11_give_11 : decode cX11_give 11 = .ok (.iconst 0, 1) := by decide +kernel
theorem dX11_give_12 : decode cX11_give 12 = .ok (.invokevirtual 207, 3) := by decide +kernel
theorem dX11_give_15 : decode cX11_give 15 = .ok (.ireturn, 1) := by decide +kernel
theorem dX11_give_16 : decode cX11_give 16 = .ok (.iload_n 1, 1) := by decide +kernel
theorem dX11_give_17 : decode cX11_give 17 = .ok (.iconst 1, 1) := by decide +kernel
theorem dX11_give_18 : decode cX11_give 18 = .ok (.if_icmp .lt 24, 3) := by decide +kernel
theorem dX11_give_21 : decode cX11_give 21 = .ok (.iload_n 1, 1) := by decide +kernel
theorem dX11_give_22 : decode cX11_give 22 = .ok (.bipush 50, 2) := by decide +kernel
theorem dX11_give_24 : decode cX11_give 24 = .ok (.if_icmp .gt 18, 3) := by decide +kernel
theorem dX11_give_27 : decode cX11_give 27 = .ok (.aload_n 0, 1) := by decide +kernel
theorem dX11_give_28 : decode cX11_give 28 = .ok (.getfield 51, 3) := by decide +kernel
theorem dX11_give_31 : decode cX11_give 31 = .ok (.getfield 168, 3) := by decide +kernel
theorem dX11_give_34 : decode cX11_give 34 = .ok (.iload_n 1, 1) := by decide +kernel
theorem dX11_give_35 : decode cX11_give 35 = .ok (.iadd, 1) := by decide +kernel
theorem dX11_give_36 : decode cX11_give 36 = .ok (.sipush 9999, 3) := by decide +kernel
theorem dX11_give_39 : decode cX11_give 39 = .ok (.if_icmp .le 9, 3) := by decide +kernel
theorem dX11_give_42 : decode cX11_give 42 = .ok (.aload_n 0, 1) := by decide +kernel
theorem dX11_give_43 : decode cX11_give 43 = .ok (.iconst 1, 1) := by decide +kernel
theorem dX11_give_44 : decode cX11_give 44 = .ok (.invokevirtual 207, 3) := by decide +kernel
theorem dX11_give_47 : decode cX11_give 47 = .ok (.ireturn, 1) := by decide +kernel
theorem dX11_give_48 : decode cX11_give 48 = .ok (.aload_n 0, 1) := by decide +kernel
theorem dX11_give_49 : decode cX11_give 49 = .ok (.getfield 58, 3) := by decide +kernel
theorem dX11_give_52 : decode cX11_give 52 = .ok (.aload_n 0, 1) := by decide +kernel
theorem dX11_give_53 : decode cX11_give 53 = .ok (.getfield 51, 3) := by decide +kernel
theorem dX11_give_56 : decode cX11_give 56 = .ok (.invokevirtual 210, 3) := by decide +kernel
theorem dX11_give_59 : decode cX11_give 59 = .ok (.aload_n 0, 1) := by decide +kernel
theorem dX11_give_60 : decode cX11_give 60 = .ok (.getfield 51, 3) := by decide +kernel
theorem dX11_give_63 : decode cX11_give 63 = .ok (.dup, 1) := by decide +kernel
theorem dX11_give_64 : decode cX11_give 64 = .ok (.getfield 168, 3) := by decide +kernel
theorem dX11_give_67 : decode cX11_give 67 = .ok (.iload_n 1, 1) := by decide +kernel
theorem dX11_give_68 : decode cX11_give 68 = .ok (.iadd, 1) := by decide +kernel
theorem dX11_give_69 : decode cX11_give 69 = .ok (.putfield 168, 3) := by decide +kernel
theorem dX11_give_72 : decode cX11_give 72 = .ok (.aload_n 0, 1) := by decide +kernel
theorem dX11_give_73 : decode cX11_give 73 = .ok (.getfield 51, 3) := by decide +kernel
theorem dX11_give_76 : decode cX11_give 76 = .ok (.getfield 168, 3) := by decide +kernel
theorem dX11_give_79 : decode cX11_give 79 = .ok (.ireturn, 1) := by decide +kernel
theorem dX11_days_0 : decode cX11_days 0 = .ok (.aload_n 0, 1) := by decide +kernel
theorem dX11_days_1 : decode cX11_days 1 = .ok (.getfield 19, 3) := by decide +kernel
theorem dX11_days_4 : decode cX11_days 4 = .ok (.invokevirtual 155, 3) := by decide +kernel
theorem dX11_days_7 : decode cX11_days 7 = .ok (.ifCond .ne 9, 3) := by decide +kernel
theorem dX11_days_10 : decode cX11_days 10 = .ok (.aload_n 0, 1) := by decide +kernel
theorem dX11_days_11 : decode cX11_days 11 = .ok (.iconst 0, 1) := by decide +kernel
theorem dX11_days_12 : decode cX11_days 12 = .ok (.invokevirtual 207, 3) := by decide +kernel
theorem dX11_days_15 : decode cX11_days 15 = .ok (.ireturn, 1) := by decide +kernel
theorem dX11_days_16 : decode cX11_days 16 = .ok (.iload_n 1, 1) := by decide +kernel
theorem dX11_days_17 : decode cX11_days 17 = .ok (.iconst 1, 1) := by decide +kernel
theorem dX11_days_18 : decode cX11_days 18 = .ok (.if_icmp .lt 9, 3) := by decide +kernel
theorem dX11_days_21 : decode cX11_days 21 = .ok (.iload_n 1, 1) := by decide +kernel
theorem dX11_days_22 : decode cX11_days 22 = .ok (.bipush 60, 2) := by decide +kernel
theorem dX11_days_24 : decode cX11_days 24 = .ok (.if_icmp .le 9, 3) := by decide +kernel
theorem dX11_days_27 : decode cX11_days 27 = .ok (.aload_n 0, 1) := by decide +kernel
theorem dX11_days_28 : decode cX11_days 28 = .ok (.iconst 1, 1) := by decide +kernel
theorem dX11_days_29 : decode cX11_days 29 = .ok (.invokevirtual 207, 3) := by decide +kernel
theorem dX11_days_32 : decode cX11_days 32 = .ok (.ireturn, 1) := by decide +kernel
theorem dX11_days_33 : decode cX11_days 33 = .ok (.aload_n 0, 1) := by decide +kernel
theorem dX11_days_34 : decode cX11_days 34 = .ok (.getfield 51, 3) := by decide +kernel
theorem dX11_days_37 : decode cX11_days 37 = .ok (.getfield 249, 3) := by decide +kernel
theorem dX11_days_40 : decode cX11_days 40 = .ok (.iload_n 1, 1) := by decide +kernel
theorem dX11_days_41 : decode cX11_days 41 = .ok (.iadd, 1) := by decide +kernel
theorem dX11_days_42 : decode cX11_days 42 = .ok (.sipush 999, 3) := by decide +kernel
theorem dX11_days_45 : decode cX11_days 45 = .ok (.if_icmp .le 9, 3) := by decide +kernel
theorem dX11_days_48 : decode cX11_days 48 = .ok (.aload_n 0, 1) := by decide +kernel
theorem dX11_days_49 : decode cX11_days 49 = .ok (.iconst 4, 1) := by decide +kernel
theorem dX11_days_50 : decode cX11_days 50 = .ok (.invokevirtual 207, 3) := by decide +kernel
theorem dX11_days_53 : decode cX11_days 53 = .ok (.ireturn, 1) := by decide +kernel
theorem dX11_days_54 : decode cX11_days 54 = .ok (.iconst 0, 1) := by decide +kernel
theorem dX11_days_55 : decode cX11_days 55 = .ok (.istore_n 2, 1) := by decide +kernel
theorem dX11_days_56 : decode cX11_days 56 = .ok (.iload_n 2, 1) := by decide +kernel
theorem dX11_days_57 : decode cX11_days 57 = .ok (.iload_n 1, 1) := by decide +kernel
theorem dX11_days_58 : decode cX11_days 58 = .ok (.if_icmp .ge 31, 3) := by decide +kernel
theorem dX11_days_61 : decode cX11_days 61 = .ok (.aload_n 0, 1) := by decide +kernel
theorem dX11_days_62 : decode cX11_days 62 = .ok (.getfield 58, 3) := by decide +kernel
theorem dX11_days_65 : decode cX11_days 65 = .ok (.aload_n 0, 1) := by decide +kernel
theorem dX11_days_66 : decode cX11_days 66 = .ok (.getfield 51, 3) := by decide +kernel
theorem dX11_days_69 : decode cX11_days 69 = .ok (.invokevirtual 210, 3) := by decide +kernel
theorem dX11_days_72 : decode cX11_days 72 = .ok (.aload_n 0, 1) := by decide +kernel
theorem dX11_days_73 : decode cX11_days 73 = .ok (.getfield 67, 3) := by decide +kernel
theorem dX11_days_76 : decode cX11_days 76 = .ok (.aload_n 0, 1) := by decide +kernel
theorem dX11_days_77 : decode cX11_days 77 = .ok (.getfield 51, 3) := by decide +kernel
theorem dX11_days_80 : decode cX11_days 80 = .ok (.invokevirtual 252, 3) := by decide +kernel
theorem dX11_days_83 : decode cX11_days 83 = .ok (.iinc 2 1, 3) := by decide +kernel
theorem dX11_days_86 : decode cX11_days 86 = .ok (.goto (-30), 3) := by decide +kernel
theorem dX11_days_89 : decode cX11_days 89 = .ok (.aload_n 0, 1) := by decide +kernel
theorem dX11_days_90 : decode cX11_days 90 = .ok (.getfield 51, 3) := by decide +kernel
theorem dX11_days_93 : decode cX11_days 93 = .ok (.getfield 249, 3) := by decide +kernel
theorem dX11_days_96 : decode cX11_days 96 = .ok (.ireturn, 1) := by decide +kernel
theorem dX11_refuse_0 : decode cX11_refuse 0 = .ok (.iload_n 1, 1) := by decide +kernel
theorem dX11_refuse_1 : decode cX11_refuse 1 = .ok (.ifCond .lt 18, 3) := by decide +kernel
theorem dX11_refuse_4 : decode cX11_refuse 4 = .ok (.iload_n 1, 1) := by decide +kernel
theorem dX11_refuse_5 : decode cX11_refuse 5 = .ok (.iconst 5, 1) := by decide +kernel
theorem dX11_refuse_6 : decode cX11_refuse 6 = .ok (.if_icmp .ge 13, 3) := by decide +kernel
theorem dX11_refuse_9 : decode cX11_refuse 9 = .ok (.aload_n 0, 1) := by decide +kernel
theorem dX11_refuse_10 : decode cX11_refuse 10 = .ok (.getfield 98, 3) := by decide +kernel
theorem dX11_refuse_13 : decode cX11_refuse 13 = .ok (.iload_n 1, 1) := by decide +kernel
theorem dX11_refuse_14 : decode cX11_refuse 14 = .ok (.dup2, 1) := by decide +kernel
theorem dX11_refuse_15 : decode cX11_refuse 15 = .ok (.iaload, 1) := by decide +kernel
theorem dX11_refuse_16 : decode cX11_refuse 16 = .ok (.iconst 1, 1) := by decide +kernel
theorem dX11_refuse_17 : decode cX11_refuse 17 = .ok (.iadd, 1) := by decide +kernel
theorem dX11_refuse_18 : decode cX11_refuse 18 = .ok (.iastore, 1) := by decide +kernel
theorem dX11_refuse_19 : decode cX11_refuse 19 = .ok (.iconst (-1), 1) := by decide +kernel
theorem dX11_refuse_20 : decode cX11_refuse 20 = .ok (.ireturn, 1) := by decide +kernel
theorem dX11_wakes_0 : decode cX11_wakes 0 = .ok (.iload_n 1, 1) := by decide +kernel
theorem dX11_wakes_1 : decode cX11_wakes 1 = .ok (.ifCond .lt 17, 3) := by decide +kernel
theorem dX11_wakes_4 : decode cX11_wakes 4 = .ok (.iload_n 1, 1) := by decide +kernel
theorem dX11_wakes_5 : decode cX11_wakes 5 = .ok (.bipush 9, 2) := by decide +kernel
theorem dX11_wakes_7 : decode cX11_wakes 7 = .ok (.if_icmp .gt 11, 3) := by decide +kernel
theorem dX11_wakes_10 : decode cX11_wakes 10 = .ok (.iload_n 1, 1) := by decide +kernel
theorem dX11_wakes_11 : decode cX11_wakes 11 = .ok (.aload_n 0, 1) := by decide +kernel
theorem dX11_wakes_12 : decode cX11_wakes 12 = .ok (.getfield 102, 3) := by decide +kernel
theorem dX11_wakes_15 : decode cX11_wakes 15 = .ok (.if_icmp .ne 5, 3) := by decide +kernel
theorem dX11_wakes_18 : decode cX11_wakes 18 = .ok (.iconst 0, 1) := by decide +kernel
theorem dX11_wakes_19 : decode cX11_wakes 19 = .ok (.ireturn, 1) := by decide +kernel
theorem dX11_wakes_20 : decode cX11_wakes 20 = .ok (.aload_n 0, 1) := by decide +kernel
theorem dX11_wakes_21 : decode cX11_wakes 21 = .ok (.iload_n 1, 1) := by decide +kernel
theorem dX11_wakes_22 : decode cX11_wakes 22 = .ok (.putfield 102, 3) := by decide +kernel
theorem dX11_wakes_25 : decode cX11_wakes 25 = .ok (.iconst 1, 1) := by decide +kernel
theorem dX11_wakes_26 : decode cX11_wakes 26 = .ok (.ireturn, 1) := by decide +kernel
theorem dX11_years_0 : decode cX11_years 0 = .ok (.aload_n 0, 1) := by decide +kernel
theorem dX11_years_1 : decode cX11_years 1 = .ok (.getfield 19, 3) := by decide +kernel
theorem dX11_years_4 : decode cX11_years 4 = .ok (.invokevirtual 155, 3) := by decide +kernel
theorem dX11_years_7 : decode cX11_years 7 = .ok (.ifCond .eq 29, 3) := by decide +kernel
theorem dX11_years_10 : decode cX11_years 10 = .ok (.iload_n 1, 1) := by decide +kernel
theorem dX11_years_11 : decode cX11_years 11 = .ok (.iconst 1, 1) := by decide +kernel
theorem dX11_years_12 : decode cX11_years 12 = .ok (.if_icmp .lt 24, 3) := by decide +kernel
theorem dX11_years_15 : decode cX11_years 15 = .ok (.iload_n 1, 1) := by decide +kernel
theorem dX11_years_16 : decode cX11_years 16 = .ok (.bipush 60, 2) := by decide +kernel
theorem dX11_years_18 : decode cX11_years 18 = .ok (.if_icmp .gt 18, 3) := by decide +kernel
theorem dX11_years_21 : decode cX11_years 21 = .ok (.aload_n 0, 1) := by decide +kernel
theorem dX11_years_22 : decode cX11_years 22 = .ok (.getfield 51, 3) := by decide +kernel
theorem dX11_years_25 : decode cX11_years 25 = .ok (.getfield 249, 3) := by decide +kernel
theorem dX11_years_28 : decode cX11_years 28 = .ok (.iload_n 1, 1) := by decide +kernel
theorem dX11_years_29 : decode cX11_years 29 = .ok (.iadd, 1) := by decide +kernel
theorem dX11_years_30 : decode cX11_years 30 = .ok (.sipush 999, 3) := by decide +kernel
theorem dX11_years_33 : decode cX11_years 33 = .ok (.if_icmp .le 5, 3) := by decide +kernel
theorem dX11_years_36 : decode cX11_years 36 = .ok (.iconst (-1), 1) := by decide +kernel
theorem dX11_years_37 : decode cX11_years 37 = .ok (.ireturn, 1) := by decide +kernel
theorem dX11_years_38 : decode cX11_years 38 = .ok (.aload_n 0, 1) := by decide +kernel
theorem dX11_years_39 : decode cX11_years 39 = .ok (.getfield 67, 3) := by decide +kernel
theorem dX11_years_42 : decode cX11_years 42 = .ok (.lload_n 2, 1) := by decide +kernel
theorem dX11_years_43 : decode cX11_years 43 = .ok (.putfield 255, 3) := by decide +kernel
theorem dX11_years_46 : decode cX11_years 46 = .ok (.iconst 0, 1) := by decide +kernel
theorem dX11_years_47 : decode cX11_years 47 = .ok (.istore 4, 2) := by decide +kernel
theorem dX11_years_49 : decode cX11_years 49 = .ok (.iload 4, 2) := by decide +kernel
theorem dX11_years_51 : decode cX11_years 51 = .ok (.iload_n 1, 1) := by decide +kernel
theorem dX11_years_52 : decode cX11_years 52 = .ok (.if_icmp .ge 35, 3) := by decide +kernel
theorem dX11_years_55 : decode cX11_years 55 = .ok (.aload_n 0, 1) := by decide +kernel
theorem dX11_years_56 : decode cX11_years 56 = .ok (.getfield 58, 3) := by decide +kernel
theorem dX11_years_59 : decode cX11_years 59 = .ok (.aload_n 0, 1) := by decide +kernel
theorem dX11_years_60 : decode cX11_years 60 = .ok (.getfield 51, 3) := by decide +kernel
theorem dX11_years_63 : decode cX11_years 63 = .ok (.invokevirtual 210, 3) := by decide +kernel
theorem dX11_years_66 : decode cX11_years 66 = .ok (.aload_n 0, 1) := by decide +kernel
theorem dX11_years_67 : decode cX11_years 67 = .ok (.getfield 67, 3) := by decide +kernel
theorem dX11_years_70 : decode cX11_years 70 = .ok (.aload_n 0, 1) := by decide +kernel
theorem dX11_years_71 : decode cX11_years 71 = .ok (.getfield 51, 3) := by decide +kernel
theorem dX11_years_74 : decode cX11_years 74 = .ok (.aload_n 0, 1) := by decide +kernel
theorem dX11_years_75 : decode cX11_years 75 = .ok (.getfield 102, 3) := by decide +kernel
theorem dX11_years_78 : decode cX11_years 78 = .ok (.invokevirtual 259, 3) := by decide +kernel
theorem dX11_years_81 : decode cX11_years 81 = .ok (.iinc 4 1, 3) := by decide +kernel
theorem dX11_years_84 : decode cX11_years 84 = .ok (.goto (-35), 3) := by decide +kernel
theorem dX11_years_87 : decode cX11_years 87 = .ok (.aload_n 0, 1) := by decide +kernel
theorem dX11_years_88 : decode cX11_years 88 = .ok (.getfield 51, 3) := by decide +kernel
theorem dX11_years_91 : decode cX11_years 91 = .ok (.getfield 249, 3) := by decide +kernel
theorem dX11_years_94 : decode cX11_years 94 = .ok (.ireturn, 1) := by decide +kernel
theorem dX11_status_0 : decode cX11_status 0 = .ok (.iload_n 1, 1) := by decide +kernel
theorem dX11_status_1 : decode cX11_status 1 = .ok (.ifCond .lt 17, 3) := by decide +kernel
theorem dX11_status_4 : decode cX11_status 4 = .ok (.iload_n 1, 1) := by decide +kernel
theorem dX11_status_5 : decode cX11_status 5 = .ok (.iconst 5, 1) := by decide +kernel
theorem dX11_status_6 : decode cX11_status 6 = .ok (.if_icmp .ge 12, 3) := by decide +kernel
theorem dX11_status_9 : decode cX11_status 9 = .ok (.aload_n 0, 1) := by decide +kernel
theorem dX11_status_10 : decode cX11_status 10 = .ok (.getfield 98, 3) := by decide +kernel
theorem dX11_status_13 : decode cX11_status 13 = .ok (.iload_n 1, 1) := by decide +kernel
theorem dX11_status_14 : decode cX11_status 14 = .ok (.iaload, 1) := by decide +kernel
theorem dX11_status_15 : decode cX11_status 15 = .ok (.goto 4, 3) := by decide +kernel
theorem dX11_status_18 : decode cX11_status 18 = .ok (.iconst (-1), 1) := by decide +kernel
theorem dX11_status_19 : decode cX11_status 19 = .ok (.ireturn, 1) := by decide +kernel
theorem dX11_undo_0 : decode cX11_undo 0 = .ok (.aload_n 0, 1) := by decide +kernel
theorem dX11_undo_1 : decode cX11_undo 1 = .ok (.getfield 58, 3) := by decide +kernel
theorem dX11_undo_4 : decode cX11_undo 4 = .ok (.aload_n 0, 1) := by decide +kernel
theorem dX11_undo_5 : decode cX11_undo 5 = .ok (.getfield 51, 3) := by decide +kernel
theorem dX11_undo_8 : decode cX11_undo 8 = .ok (.invokevirtual 263, 3) := by decide +kernel
theorem dX11_undo_11 : decode cX11_undo 11 = .ok (.ifCond .eq 13, 3) := by decide +kernel
theorem dX11_undo_14 : decode cX11_undo 14 = .ok (.aload_n 0, 1) := by decide +kernel
theorem dX11_undo_15 : decode cX11_undo 15 = .ok (.getfield 58, 3) := by decide +kernel
theorem dX11_undo_18 : decode cX11_undo 18 = .ok (.getfield 267, 3) := by decide +kernel
theorem dX11_undo_21 : decode cX11_undo 21 = .ok (.goto 4, 3) := by decide +kernel
theorem dX11_undo_24 : decode cX11_undo 24 = .ok (.iconst (-1), 1) := by decide +kernel
theorem dX11_undo_25 : decode cX11_undo 25 = .ok (.ireturn, 1) := by decide +kernel
theorem dX11_log_0 : decode cX11_log 0 = .ok (.aload_n 0, 1) := by decide +kernel
theorem dX11_log_1 : decode cX11_log 1 = .ok (.getfield 58, 3) := by decide +kernel
theorem dX11_log_4 : decode cX11_log 4 = .ok (.aload_n 0, 1) := by decide +kernel
theorem dX11_log_5 : decode cX11_log 5 = .ok (.getfield 51, 3) := by decide +kernel
theorem dX11_log_8 : decode cX11_log 8 = .ok (.getfield 249, 3) := by decide +kernel
theorem dX11_log_11 : decode cX11_log 11 = .ok (.iload_n 1, 1) := by decide +kernel
theorem dX11_log_12 : decode cX11_log 12 = .ok (.iload_n 2, 1) := by decide +kernel
theorem dX11_log_13 : decode cX11_log 13 = .ok (.invokevirtual 268, 3) := by decide +kernel
theorem dX11_log_16 : decode cX11_log 16 = .ok (.ireturn, 1) := by decide +kernel
theorem dX11_fits_0 : decode cX11_fits 0 = .ok (.aload_n 0, 1) := by decide +kernel
theorem dX11_fits_1 : decode cX11_fits 1 = .ok (.getfield 19, 3) := by decide +kernel
theorem dX11_fits_4 : decode cX11_fits 4 = .ok (.iload_n 1, 1) := by decide +kernel
theorem dX11_fits_5 : decode cX11_fits 5 = .ok (.invokevirtual 171, 3) := by decide +kernel
theorem dX11_fits_8 : decode cX11_fits 8 = .ok (.ifCond .eq 19, 3) := by decide +kernel
theorem dX11_fits_11 : decode cX11_fits 11 = .ok (.aload_n 0, 1) := by decide +kernel
theorem dX11_fits_12 : decode cX11_fits 12 = .ok (.getfield 19, 3) := by decide +kernel
theorem dX11_fits_15 : decode cX11_fits 15 = .ok (.iload_n 2, 1) := by decide +kernel
theorem dX11_fits_16 : decode cX11_fits 16 = .ok (.invokevirtual 171, 3) := by decide +kernel
theorem dX11_fits_19 : decode cX11_fits 19 = .ok (.ifCond .eq 8, 3) := by decide +kernel
theorem dX11_fits_22 : decode cX11_fits 22 = .ok (.iload_n 1, 1) := by decide +kernel
theorem dX11_fits_23 : decode cX11_fits 23 = .ok (.iload_n 2, 1) := by decide +kernel
theorem dX11_fits_24 : decode cX11_fits 24 = .ok (.if_icmp .ne 5, 3) := by decide +kernel
theorem dX11_fits_27 : decode cX11_fits 27 = .ok (.iconst (-1), 1) := by decide +kernel
theorem dX11_fits_28 : decode cX11_fits 28 = .ok (.ireturn, 1) := by decide +kernel
theorem dX11_fits_29 : decode cX11_fits 29 = .ok (.aload_n 0, 1) := by decide +kernel
theorem dX11_fits_30 : decode cX11_fits 30 = .ok (.getfield 67, 3) := by decide +kernel
theorem dX11_fits_33 : decode cX11_fits 33 = .ok (.aload_n 0, 1) := by decide +kernel
theorem dX11_fits_34 : decode cX11_fits 34 = .ok (.getfield 51, 3) := by decide +kernel
theorem dX11_fits_37 : decode cX11_fits 37 = .ok (.iload_n 1, 1) := by decide +kernel
theorem dX11_fits_38 : decode cX11_fits 38 = .ok (.iload_n 2, 1) := by decide +kernel
theorem dX11_fits_39 : decode cX11_fits 39 = .ok (.aload_n 0, 1) := by decide +kernel
theorem dX11_fits_40 : decode cX11_fits 40 = .ok (.getfield 51, 3) := by decide +kernel
theorem dX11_fits_43 : decode cX11_fits 43 = .ok (.iload_n 1, 1) := by decide +kernel
theorem dX11_fits_44 : decode cX11_fits 44 = .ok (.invokevirtual 272, 3) := by decide +kernel
theorem dX11_fits_47 : decode cX11_fits 47 = .ok (.invokevirtual 275, 3) := by decide +kernel
theorem dX11_fits_50 : decode cX11_fits 50 = .ok (.ifCond .eq 7, 3) := by decide +kernel
theorem dX11_fits_53 : decode cX11_fits 53 = .ok (.iconst 1, 1) := by decide +kernel
theorem dX11_fits_54 : decode cX11_fits 54 = .ok (.goto 4, 3) := by decide +kernel
theorem dX11_fits_57 : decode cX11_fits 57 = .ok (.iconst 0, 1) := by decide +kernel
theorem dX11_fits_58 : decode cX11_fits 58 = .ok (.ireturn, 1) := by decide +kernel
theorem dX11_could_0 : decode cX11_could 0 = .ok (.aload_n 0, 1) := by decide +kernel
theorem dX11_could_1 : decode cX11_could 1 = .ok (.getfield 19, 3) := by decide +kernel
theorem dX11_could_4 : decode cX11_could 4 = .ok (.iload_n 1, 1) := by decide +kernel
theorem dX11_could_5 : decode cX11_could 5 = .ok (.invokevirtual 171, 3) := by decide +kernel
theorem dX11_could_8 : decode cX11_could 8 = .ok (.ifCond .eq 14, 3) := by decide +kernel
theorem dX11_could_11 : decode cX11_could 11 = .ok (.aload_n 0, 1) := by decide +kernel
theorem dX11_could_12 : decode cX11_could 12 = .ok (.getfield 76, 3) := by decide +kernel
theorem dX11_could_15 : decode cX11_could 15 = .ok (.iload_n 1, 1) := by decide +kernel
theorem dX11_could_16 : decode cX11_could 16 = .ok (.invokevirtual 279, 3) := by decide +kernel
theorem dX11_could_19 : decode cX11_could 19 = .ok (.goto 4, 3) := by decide +kernel
theorem dX11_could_22 : decode cX11_could 22 = .ok (.iconst (-1), 1) := by decide +kernel
theorem dX11_could_23 : decode cX11_could 23 = .ok (.ireturn, 1) := by decide +kernel
theorem dX11_knots_0 : decode cX11_knots 0 = .ok (.aload_n 0, 1) := by decide +kernel
theorem dX11_knots_1 : decode cX11_knots 1 = .ok (.getfield 19, 3) := by decide +kernel
theorem dX11_knots_4 : decode cX11_knots 4 = .ok (.invokevirtual 155, 3) := by decide +kernel
theorem dX11_knots_7 : decode cX11_knots 7 = .ok (.ifCond .eq 12, 3) := by decide +kernel
theorem dX11_knots_10 : decode cX11_knots 10 = .ok (.iload_n 1, 1) := by decide +kernel
theorem dX11_knots_11 : decode cX11_knots 11 = .ok (.ifCond .lt 8, 3) := by decide +kernel
theorem dX11_knots_14 : decode cX11_knots 14 = .ok (.iload_n 1, 1) := by decide +kernel
theorem dX11_knots_15 : decode cX11_knots 15 = .ok (.iconst 1, 1) := by decide +kernel
theorem dX11_knots_16 : decode cX11_knots 16 = .ok (.if_icmp .le 5, 3) := by decide +kernel
theorem dX11_knots_19 : decode cX11_knots 19 = .ok (.iconst (-1), 1) := by decide +kernel
theorem dX11_knots_20 : decode cX11_knots 20 = .ok (.ireturn, 1) := by decide +kernel
theorem dX11_knots_21 : decode cX11_knots 21 = .ok (.aload_n 0, 1) := by decide +kernel
theorem dX11_knots_22 : decode cX11_knots 22 = .ok (.getfield 76, 3) := by decide +kernel
theorem dX11_knots_25 : decode cX11_knots 25 = .ok (.invokevirtual 282, 3) := by decide +kernel
theorem dX11_knots_28 : decode cX11_knots 28 = .ok (.iload_n 1, 1) := by decide +kernel
theorem dX11_knots_29 : decode cX11_knots 29 = .ok (.ifCond .ne 13, 3) := by decide +kernel
theorem dX11_knots_32 : decode cX11_knots 32 = .ok (.aload_n 0, 1) := by decide +kernel
theorem dX11_knots_33 : decode cX11_knots 33 = .ok (.getfield 76, 3) := by decide +kernel
theorem dX11_knots_36 : decode cX11_knots 36 = .ok (.getfield 285, 3) := by decide +kernel
theorem dX11_knots_39 : decode cX11_knots 39 = .ok (.goto 10, 3) := by decide +kernel
theorem dX11_knots_42 : decode cX11_knots 42 = .ok (.aload_n 0, 1) := by decide +kernel
theorem dX11_knots_43 : decode cX11_knots 43 = .ok (.getfield 76, 3) := by decide +kernel
theorem dX11_knots_46 : decode cX11_knots 46 = .ok (.getfield 288, 3) := by decide +kernel
theorem dX11_knots_49 : decode cX11_knots 49 = .ok (.ireturn, 1) := by decide +kernel
theorem dX11_tale_0 : decode cX11_tale 0 = .ok (.aload_n 0, 1) := by decide +kernel
theorem dX11_tale_1 : decode cX11_tale 1 = .ok (.getfield 19, 3) := by decide +kernel
theorem dX11_tale_4 : decode cX11_tale 4 = .ok (.invokevirtual 155, 3) := by decide +kernel
theorem dX11_tale_7 : decode cX11_tale 7 = .ok (.ifCond .eq 12, 3) := by decide +kernel
theorem dX11_tale_10 : decode cX11_tale 10 = .ok (.iload_n 1, 1) := by decide +kernel
theorem dX11_tale_11 : decode cX11_tale 11 = .ok (.ifCond .lt 8, 3) := by decide +kernel
theorem dX11_tale_14 : decode cX11_tale 14 = .ok (.iload_n 1, 1) := by decide +kernel
theorem dX11_tale_15 : decode cX11_tale 15 = .ok (.iconst 1, 1) := by decide +kernel
theorem dX11_tale_16 : decode cX11_tale 16 = .ok (.if_icmp .le 5, 3) := by decide +kernel
theorem dX11_tale_19 : decode cX11_tale 19 = .ok (.iconst (-1), 1) := by decide +kernel
theorem dX11_tale_20 : decode cX11_tale 20 = .ok (.ireturn, 1) := by decide +kernel
theorem dX11_tale_21 : decode cX11_tale 21 = .ok (.aload_n 0, 1) := by decide +kernel
theorem dX11_tale_22 : decode cX11_tale 22 = .ok (.getfield 76, 3) := by decide +kernel
theorem dX11_tale_25 : decode cX11_tale 25 = .ok (.invokevirtual 291, 3) := by decide +kernel
theorem dX11_tale_28 : decode cX11_tale 28 = .ok (.iload_n 1, 1) := by decide +kernel
theorem dX11_tale_29 : decode cX11_tale 29 = .ok (.ifCond .ne 13, 3) := by decide +kernel
theorem dX11_tale_32 : decode cX11_tale 32 = .ok (.aload_n 0, 1) := by decide +kernel
theorem dX11_tale_33 : decode cX11_tale 33 = .ok (.getfield 76, 3) := by decide +kernel
theorem dX11_tale_36 : decode cX11_tale 36 = .ok (.getfield 285, 3) := by decide +kernel
theorem dX11_tale_39 : decode cX11_tale 39 = .ok (.goto 10, 3) := by decide +kernel
theorem dX11_tale_42 : decode cX11_tale 42 = .ok (.aload_n 0, 1) := by decide +kernel
theorem dX11_tale_43 : decode cX11_tale 43 = .ok (.getfield 76, 3) := by decide +kernel
theorem dX11_tale_46 : decode cX11_tale 46 = .ok (.getfield 288, 3) := by decide +kernel
theorem dX11_tale_49 : decode cX11_tale 49 = .ok (.ireturn, 1) := by decide +kernel
theorem dX11_plan_0 : decode cX11_plan 0 = .ok (.aload_n 0, 1) := by decide +kernel
theorem dX11_plan_1 : decode cX11_plan 1 = .ok (.getfield 19, 3) := by decide +kernel
theorem dX11_plan_4 : decode cX11_plan 4 = .ok (.invokevirtual 155, 3) := by decide +kernel
theorem dX11_plan_7 : decode cX11_plan 7 = .ok (.ifCond .eq 22, 3) := by decide +kernel
theorem dX11_plan_10 : decode cX11_plan 10 = .ok (.iload_n 1, 1) := by decide +kernel
theorem dX11_plan_11 : decode cX11_plan 11 = .ok (.iconst 1, 1) := by decide +kernel
theorem dX11_plan_12 : decode cX11_plan 12 = .ok (.if_icmp .lt 17, 3) := by decide +kernel
theorem dX11_plan_15 : decode cX11_plan 15 = .ok (.iload_n 1, 1) := by decide +kernel
theorem dX11_plan_16 : decode cX11_plan 16 = .ok (.iconst 2, 1) := by decide +kernel
theorem dX11_plan_17 : decode cX11_plan 17 = .ok (.if_icmp .gt 12, 3) := by decide +kernel
theorem dX11_plan_20 : decode cX11_plan 20 = .ok (.iload_n 2, 1) := by decide +kernel
theorem dX11_plan_21 : decode cX11_plan 21 = .ok (.ifCond .lt 8, 3) := by decide +kernel
theorem dX11_plan_24 : decode cX11_plan 24 = .ok (.iload_n 2, 1) := by decide +kernel
theorem dX11_plan_25 : decode cX11_plan 25 = .ok (.iconst 1, 1) := by decide +kernel
theorem dX11_plan_26 : decode cX11_plan 26 = .ok (.if_icmp .le 5, 3) := by decide +kernel
theorem dX11_plan_29 : decode cX11_plan 29 = .ok (.iconst (-1), 1) := by decide +kernel
theorem dX11_plan_30 : decode cX11_plan 30 = .ok (.ireturn, 1) := by decide +kernel
theorem dX11_plan_31 : decode cX11_plan 31 = .ok (.iload_n 1, 1) := by decide +kernel
theorem dX11_plan_32 : decode cX11_plan 32 = .ok (.iconst 1, 1) := by decide +kernel
theorem dX11_plan_33 : decode cX11_plan 33 = .ok (.if_icmp .ne 17, 3) := by decide +kernel
theorem dX11_plan_36 : decode cX11_plan 36 = .ok (.aload_n 0, 1) := by decide +kernel
theorem dX11_plan_37 : decode cX11_plan 37 = .ok (.getfield 76, 3) := by decide +kernel
theorem dX11_plan_40 : decode cX11_plan 40 = .ok (.aload_n 0, 1) := by decide +kernel
theorem dX11_plan_41 : decode cX11_plan 41 = .ok (.getfield 51, 3) := by decide +kernel
theorem dX11_plan_44 : decode cX11_plan 44 = .ok (.invokevirtual 294, 3) := by decide +kernel
theorem dX11_plan_47 : decode cX11_plan 47 = .ok (.goto 10, 3) := by decide +kernel
theorem dX11_plan_50 : decode cX11_plan 50 = .ok (.aload_n 0, 1) := by decide +kernel
theorem dX11_plan_51 : decode cX11_plan 51 = .ok (.getfield 76, 3) := by decide +kernel
theorem dX11_plan_54 : decode cX11_plan 54 = .ok (.invokevirtual 297, 3) := by decide +kernel
theorem dX11_plan_57 : decode cX11_plan 57 = .ok (.iload_n 2, 1) := by decide +kernel
theorem dX11_plan_58 : decode cX11_plan 58 = .ok (.ifCond .ne 13, 3) := by decide +kernel
theorem dX11_plan_61 : decode cX11_plan 61 = .ok (.aload_n 0, 1) := by decide +kernel
theorem dX11_plan_62 : decode cX11_plan 62 = .ok (.getfield 76, 3) := by decide +kernel
theorem dX11_plan_65 : decode cX11_plan 65 = .ok (.getfield 285, 3) := by decide +kernel
theorem dX11_plan_68 : decode cX11_plan 68 = .ok (.goto 10, 3) := by decide +kernel
theorem dX11_plan_71 : decode cX11_plan 71 = .ok (.aload_n 0, 1) := by decide +kernel
theorem dX11_plan_72 : decode cX11_plan 72 = .ok (.getfield 76, 3) := by decide +kernel
theorem dX11_plan_75 : decode cX11_plan 75 = .ok (.getfield 288, 3) := by decide +kernel
theorem dX11_plan_78 : decode cX11_plan 78 = .ok (.ireturn, 1) := by decide +kernel
theorem dX11_blankets_0 : decode cX11_blankets 0 = .ok (.aload_n 0, 1) := by decide +kernel
theorem dX11_blankets_1 : decode cX11_blankets 1 = .ok (.getfield 19, 3) := by decide +kernel
theorem dX11_blankets_4 : decode cX11_blankets 4 = .ok (.invokevirtual 155, 3) := by decide +kernel
theorem dX11_blankets_7 : decode cX11_blankets 7 = .ok (.ifCond .eq 15, 3) := by decide +kernel
theorem dX11_blankets_10 : decode cX11_blankets 10 = .ok (.iload_n 1, 1) := by decide +kernel
theorem dX11_blankets_11 : decode cX11_blankets 11 = .ok (.iconst 1, 1) := by decide +kernel
theorem dX11_blankets_12 : decode cX11_blankets 12 = .ok (.if_icmp .lt 10, 3) := by decide +kernel
theorem dX11_blankets_15 : decode cX11_blankets 15 = .ok (.iload_n 1, 1) := by decide +kernel
theorem dX11_blankets_16 : decode cX11_blankets 16 = .ok (.sipush 140, 3) := by decide +kernel
theorem dX11_blankets_19 : decode cX11_blankets 19 = .ok (.if_icmp .le 5, 3) := by decide +kernel
theorem dX11_blankets_22 : decode cX11_blankets 22 = .ok (.iconst (-1), 1) := by decide +kernel
theorem dX11_blankets_23 : decode cX11_blankets 23 = .ok (.ireturn, 1) := by decide +kernel
theorem dX11_blankets_24 : decode cX11_blankets 24 = .ok (.aload_n 0, 1) := by decide +kernel
theorem dX11_blankets_25 : decode cX11_blankets 25 = .ok (.getfield 76, 3) := by decide +kernel
theorem dX11_blankets_28 : decode cX11_blankets 28 = .ok (.iload_n 1, 1) := by decide +kernel
theorem dX11_blankets_29 : decode cX11_blankets 29 = .ok (.invokevirtual 300, 3) := by decide +kernel
theorem dX11_blankets_32 : decode cX11_blankets 32 = .ok (.ireturn, 1) := by decide +kernel
theorem dX11_seen_0 : decode cX11_seen 0 = .ok (.aload_n 0, 1) := by decide +kernel
theorem dX11_seen_1 : decode cX11_seen 1 = .ok (.getfield 19, 3) := by decide +kernel
theorem dX11_seen_4 : decode cX11_seen 4 = .ok (.iload_n 1, 1) := by decide +kernel
theorem dX11_seen_5 : decode cX11_seen 5 = .ok (.invokevirtual 171, 3) := by decide +kernel
theorem dX11_seen_8 : decode cX11_seen 8 = .ok (.ifCond .eq 19, 3) := by decide +kernel
theorem dX11_seen_11 : decode cX11_seen 11 = .ok (.aload_n 0, 1) := by decide +kernel
theorem dX11_seen_12 : decode cX11_seen 12 = .ok (.getfield 19, 3) := by decide +kernel
theorem dX11_seen_15 : decode cX11_seen 15 = .ok (.iload_n 2, 1) := by decide +kernel
theorem dX11_seen_16 : decode cX11_seen 16 = .ok (.invokevirtual 171, 3) := by decide +kernel
theorem dX11_seen_19 : decode cX11_seen 19 = .ok (.ifCond .eq 8, 3) := by decide +kernel
theorem dX11_seen_22 : decode cX11_seen 22 = .ok (.iload_n 1, 1) := by decide +kernel
theorem dX11_seen_23 : decode cX11_seen 23 = .ok (.iload_n 2, 1) := by decide +kernel
theorem dX11_seen_24 : decode cX11_seen 24 = .ok (.if_icmp .ne 5, 3) := by decide +kernel
theorem dX11_seen_27 : decode cX11_seen 27 = .ok (.iconst (-1), 1) := by decide +kernel
theorem dX11_seen_28 : decode cX11_seen 28 = .ok (.ireturn, 1) := by decide +kernel
theorem dX11_seen_29 : decode cX11_seen 29 = .ok (.aload_n 0, 1) := by decide +kernel
theorem dX11_seen_30 : decode cX11_seen 30 = .ok (.getfield 85, 3) := by decide +kernel
theorem dX11_seen_33 : decode cX11_seen 33 = .ok (.iload_n 1, 1) := by decide +kernel
theorem dX11_seen_34 : decode cX11_seen 34 = .ok (.iload_n 2, 1) := by decide +kernel
theorem dX11_seen_35 : decode cX11_seen 35 = .ok (.iload_n 3, 1) := by decide +kernel
theorem dX11_seen_36 : decode cX11_seen 36 = .ok (.invokevirtual 303, 3) := by decide +kernel
theorem dX11_seen_39 : decode cX11_seen 39 = .ok (.ireturn, 1) := by decide +kernel
theorem dX11_plies_0 : decode cX11_plies 0 = .ok (.aload_n 0, 1) := by decide +kernel
theorem dX11_plies_1 : decode cX11_plies 1 = .ok (.getfield 19, 3) := by decide +kernel
theorem dX11_plies_4 : decode cX11_plies 4 = .ok (.iload_n 1, 1) := by decide +kernel
theorem dX11_plies_5 : decode cX11_plies 5 = .ok (.invokevirtual 171, 3) := by decide +kernel
theorem dX11_plies_8 : decode cX11_plies 8 = .ok (.ifCond .ne 5, 3) := by decide +kernel
theorem dX11_plies_11 : decode cX11_plies 11 = .ok (.iconst (-1), 1) := by decide +kernel
theorem dX11_plies_12 : decode cX11_plies 12 = .ok (.ireturn, 1) := by decide +kernel
theorem dX11_plies_13 : decode cX11_plies 13 = .ok (.aload_n 0, 1) := by decide +kernel
theorem dX11_plies_14 : decode cX11_plies 14 = .ok (.getfield 85, 3) := by decide +kernel
theorem dX11_plies_17 : decode cX11_plies 17 = .ok (.iload_n 1, 1) := by decide +kernel
theorem dX11_plies_18 : decode cX11_plies 18 = .ok (.invokevirtual 306, 3) := by decide +kernel
theorem dX11_plies_21 : decode cX11_plies 21 = .ok (.istore_n 3, 1) := by decide +kernel
theorem dX11_plies_22 : decode cX11_plies 22 = .ok (.iload_n 2, 1) := by decide +kernel
theorem dX11_plies_23 : decode cX11_plies 23 = .ok (.iconst (-1), 1) := by decide +kernel
theorem dX11_plies_24 : decode cX11_plies 24 = .ok (.if_icmp .ne 10, 3) := by decide +kernel
theorem dX11_plies_27 : decode cX11_plies 27 = .ok (.iload_n 3, 1) := by decide +kernel
theorem dX11_plies_28 : decode cX11_plies 28 = .ok (.invokestatic 309, 3) := by decide +kernel
theorem dX11_plies_31 : decode cX11_plies 31 = .ok (.goto 8, 3) := by decide +kernel
theorem dX11_plies_34 : decode cX11_plies 34 = .ok (.iload_n 3, 1) := by decide +kernel
theorem dX11_plies_35 : decode cX11_plies 35 = .ok (.iload_n 2, 1) := by decide +kernel
theorem dX11_plies_36 : decode cX11_plies 36 = .ok (.invokestatic 314, 3) := by decide +kernel
theorem dX11_plies_39 : decode cX11_plies 39 = .ok (.ireturn, 1) := by decide +kernel
theorem dX11_bitAt_0 : decode cX11_bitAt 0 = .ok (.iload_n 1, 1) := by decide +kernel
theorem dX11_bitAt_1 : decode cX11_bitAt 1 = .ok (.istore_n 2, 1) := by decide +kernel
theorem dX11_bitAt_2 : decode cX11_bitAt 2 = .ok (.iconst 0, 1) := by decide +kernel
theorem dX11_bitAt_3 : decode cX11_bitAt 3 = .ok (.istore_n 3, 1) := by decide +kernel
theorem dX11_bitAt_4 : decode cX11_bitAt 4 = .ok (.iload_n 3, 1) := by decide +kernel
theorem dX11_bitAt_5 : decode cX11_bitAt 5 = .ok (.bipush 6, 2) := by decide +kernel
theorem dX11_bitAt_7 : decode cX11_bitAt 7 = .ok (.if_icmp .gt 31, 3) := by decide +kernel
theorem dX11_bitAt_10 : decode cX11_bitAt 10 = .ok (.iload_n 2, 1) := by decide +kernel
theorem dX11_bitAt_11 : decode cX11_bitAt 11 = .ok (.ifCond .lt 27, 3) := by decide +kernel
theorem dX11_bitAt_14 : decode cX11_bitAt 14 = .ok (.iload_n 0, 1) := by decide +kernel
theorem dX11_bitAt_15 : decode cX11_bitAt 15 = .ok (.iload_n 3, 1) := by decide +kernel
theorem dX11_bitAt_16 : decode cX11_bitAt 16 = .ok (.ishr, 1) := by decide +kernel
theorem dX11_bitAt_17 : decode cX11_bitAt 17 = .ok (.iconst 1, 1) := by decide +kernel
theorem dX11_bitAt_18 : decode cX11_bitAt 18 = .ok (.iand, 1) := by decide +kernel
theorem dX11_bitAt_19 : decode cX11_bitAt 19 = .ok (.iconst 1, 1) := by decide +kernel
theorem dX11_bitAt_20 : decode cX11_bitAt 20 = .ok (.if_icmp .ne 12, 3) := by decide +kernel
theorem dX11_bitAt_23 : decode cX11_bitAt 23 = .ok (.iload_n 2, 1) := by decide +kernel
theorem dX11_bitAt_24 : decode cX11_bitAt 24 = .ok (.ifCond .ne 5, 3) := by decide +kernel
theorem dX11_bitAt_27 : decode cX11_bitAt 27 = .ok (.iload_n 3, 1) := by decide +kernel
theorem dX11_bitAt_28 : decode cX11_bitAt 28 = .ok (.ireturn, 1) := by decide +kernel
theorem dX11_bitAt_29 : decode cX11_bitAt 29 = .ok (.iinc 2 (-1), 3) := by decide +kernel
theorem dX11_bitAt_32 : decode cX11_bitAt 32 = .ok (.iinc 3 1, 3) := by decide +kernel
theorem dX11_bitAt_35 : decode cX11_bitAt 35 = .ok (.goto (-31), 3) := by decide +kernel
theorem dX11_bitAt_38 : decode cX11_bitAt 38 = .ok (.iconst (-1), 1) := by decide +kernel
theorem dX11_bitAt_39 : decode cX11_bitAt 39 = .ok (.ireturn, 1) := by decide +kernel
theorem dX11_ask_0 : decode cX11_ask 0 = .ok (.aload_n 0, 1) := by decide +kernel
theorem dX11_ask_1 : decode cX11_ask 1 = .ok (.getfield 19, 3) := by decide +kernel
theorem dX11_ask_4 : decode cX11_ask 4 = .ok (.iload_n 1, 1) := by decide +kernel
theorem dX11_ask_5 : decode cX11_ask 5 = .ok (.invokevirtual 171, 3) := by decide +kernel
theorem dX11_ask_8 : decode cX11_ask 8 = .ok (.ifCond .eq 22, 3) := by decide +kernel
theorem dX11_ask_11 : decode cX11_ask 11 = .ok (.aload_n 0, 1) := by decide +kernel
theorem dX11_ask_12 : decode cX11_ask 12 = .ok (.getfield 85, 3) := by decide +kernel
theorem dX11_ask_15 : decode cX11_ask 15 = .ok (.iload_n 1, 1) := by decide +kernel
theorem dX11_ask_16 : decode cX11_ask 16 = .ok (.aload_n 0, 1) := by decide +kernel
theorem dX11_ask_17 : decode cX11_ask 17 = .ok (.getfield 85, 3) := by decide +kernel
theorem dX11_ask_20 : decode cX11_ask 20 = .ok (.iload_n 1, 1) := by decide +kernel
theorem dX11_ask_21 : decode cX11_ask 21 = .ok (.invokevirtual 306, 3) := by decide +kernel
theorem dX11_ask_24 : decode cX11_ask 24 = .ok (.invokevirtual 317, 3) := by decide +kernel
theorem dX11_ask_27 : decode cX11_ask 27 = .ok (.goto 4, 3) := by decide +kernel
theorem dX11_ask_30 : decode cX11_ask 30 = .ok (.iconst (-1), 1) := by decide +kernel
theorem dX11_ask_31 : decode cX11_ask 31 = .ok (.ireturn, 1) := by decide +kernel
theorem dX11_game_0 : decode cX11_game 0 = .ok (.aload_n 0, 1) := by decide +kernel
theorem dX11_game_1 : decode cX11_game 1 = .ok (.getfield 19, 3) := by decide +kernel
theorem dX11_game_4 : decode cX11_game 4 = .ok (.iload_n 1, 1) := by decide +kernel
theorem dX11_game_5 : decode cX11_game 5 = .ok (.invokevirtual 171, 3) := by decide +kernel
theorem dX11_game_8 : decode cX11_game 8 = .ok (.ifCond .eq 30, 3) := by decide +kernel
theorem dX11_game_11 : decode cX11_game 11 = .ok (.aload_n 0, 1) := by decide +kernel
theorem dX11_game_12 : decode cX11_game 12 = .ok (.getfield 19, 3) := by decide +kernel
theorem dX11_game_15 : decode cX11_game 15 = .ok (.iload_n 2, 1) := by decide +kernel
theorem dX11_game_16 : decode cX11_game 16 = .ok (.invokevirtual 171, 3) := by decide +kernel
theorem dX11_game_19 : decode cX11_game 19 = .ok (.ifCond .eq 19, 3) := by decide +kernel
theorem dX11_game_22 : decode cX11_game 22 = .ok (.iload_n 1, 1) := by decide +kernel
theorem dX11_game_23 : decode cX11_game 23 = .ok (.iload_n 2, 1) := by decide +kernel
theorem dX11_game_24 : decode cX11_game 24 = .ok (.if_icmp .eq 14, 3) := by decide +kernel
theorem dX11_game_27 : decode cX11_game 27 = .ok (.iload 5, 2) := by decide +kernel
theorem dX11_game_29 : decode cX11_game 29 = .ok (.ifCond .lt 9, 3) := by decide +kernel
theorem dX11_game_32 : decode cX11_game 32 = .ok (.iload 5, 2) := by decide +kernel
theorem dX11_game_34 : decode cX11_game 34 = .ok (.iconst 1, 1) := by decide +kernel
theorem dX11_game_35 : decode cX11_game 35 = .ok (.if_icmp .le 7, 3) := by decide +kernel
theorem dX11_game_38 : decode cX11_game 38 = .ok (.ldc_w 320, 3) := by decide +kernel
theorem dX11_game_41 : decode cX11_game 41 = .ok (.ireturn, 1) := by decide +kernel
theorem dX11_game_42 : decode cX11_game 42 = .ok (.iload_n 3, 1) := by decide +kernel
theorem dX11_game_43 : decode cX11_game 43 = .ok (.invokestatic 321, 3) := by decide +kernel
theorem dX11_game_46 : decode cX11_game 46 = .ok (.ifCond .eq 11, 3) := by decide +kernel
theorem dX11_game_49 : decode cX11_game 49 = .ok (.iload 4, 2) := by decide +kernel
theorem dX11_game_51 : decode cX11_game 51 = .ok (.invokestatic 321, 3) := by decide +kernel
theorem dX11_game_54 : decode cX11_game 54 = .ok (.ifCond .ne 7, 3) := by decide +kernel
theorem dX11_game_57 : decode cX11_game 57 = .ok (.ldc_w 320, 3) := by decide +kernel
theorem dX11_game_60 : decode cX11_game 60 = .ok (.ireturn, 1) := by decide +kernel
theorem dX11_game_61 : decode cX11_game 61 = .ok (.iload 5, 2) := by decide +kernel
theorem dX11_game_63 : decode cX11_game 63 = .ok (.ifCond .ne 18, 3) := by decide +kernel
theorem dX11_game_66 : decode cX11_game 66 = .ok (.aload_n 0, 1) := by decide +kernel
theorem dX11_game_67 : decode cX11_game 67 = .ok (.getfield 94, 3) := by decide +kernel
theorem dX11_game_70 : decode cX11_game 70 = .ok (.iload_n 1, 1) := by decide +kernel
theorem dX11_game_71 : decode cX11_game 71 = .ok (.iload_n 2, 1) := by decide +kernel
theorem dX11_game_72 : decode cX11_game 72 = .ok (.iload_n 3, 1) := by decide +kernel
theorem dX11_game_73 : decode cX11_game 73 = .ok (.iload 4, 2) := by decide +kernel
theorem dX11_game_75 : decode cX11_game 75 = .ok (.invokevirtual 324, 3) := by decide +kernel
theorem dX11_game_78 : decode cX11_game 78 = .ok (.goto 15, 3) := by decide +kernel
theorem dX11_game_81 : decode cX11_game 81 = .ok (.aload_n 0, 1) := by decide +kernel
theorem dX11_game_82 : decode cX11_game 82 = .ok (.getfield 94, 3) := by decide +kernel
theorem dX11_game_85 : decode cX11_game 85 = .ok (.iload_n 2, 1) := by decide +kernel
theorem dX11_game_86 : decode cX11_game 86 = .ok (.iload_n 1, 1) := by decide +kernel
theorem dX11_game_87 : decode cX11_game 87 = .ok (.iload 4, 2) := by decide +kernel
theorem dX11_game_89 : decode cX11_game 89 = .ok (.iload_n 3, 1) := by decide +kernel
theorem dX11_game_90 : decode cX11_game 90 = .ok (.invokevirtual 324, 3) := by decide +kernel
theorem dX11_game_93 : decode cX11_game 93 = .ok (.ireturn, 1) := by decide +kernel
theorem dX11_rests_0 : decode cX11_rests 0 = .ok (.aload_n 0, 1) := by decide +kernel
theorem dX11_rests_1 : decode cX11_rests 1 = .ok (.getfield 19, 3) := by decide +kernel
theorem dX11_rests_4 : decode cX11_rests 4 = .ok (.iload_n 1, 1) := by decide +kernel
theorem dX11_rests_5 : decode cX11_rests 5 = .ok (.invokevirtual 171, 3) := by decide +kernel
theorem dX11_rests_8 : decode cX11_rests 8 = .ok (.ifCond .eq 19, 3) := by decide +kernel
theorem dX11_rests_11 : decode cX11_rests 11 = .ok (.aload_n 0, 1) := by decide +kernel
theorem dX11_rests_12 : decode cX11_rests 12 = .ok (.getfield 19, 3) := by decide +kernel
theorem dX11_rests_15 : decode cX11_rests 15 = .ok (.iload_n 2, 1) := by decide +kernel
theorem dX11_rests_16 : decode cX11_rests 16 = .ok (.invokevirtual 171, 3) := by decide +kernel
theorem dX11_rests_19 : decode cX11_rests 19 = .ok (.ifCond .eq 8, 3) := by decide +kernel
theorem dX11_rests_22 : decode cX11_rests 22 = .ok (.iload_n 1, 1) := by decide +kernel
theorem dX11_rests_23 : decode cX11_rests 23 = .ok (.iload_n 2, 1) := by decide +kernel
theorem dX11_rests_24 : decode cX11_rests 24 = .ok (.if_icmp .ne 5, 3) := by decide +kernel
theorem dX11_rests_27 : decode cX11_rests 27 = .ok (.iconst (-1), 1) := by decide +kernel
theorem dX11_rests_28 : decode cX11_rests 28 = .ok (.ireturn, 1) := by decide +kernel
theorem dX11_rests_29 : decode cX11_rests 29 = .ok (.aload_n 0, 1) := by decide +kernel
theorem dX11_rests_30 : decode cX11_rests 30 = .ok (.getfield 94, 3) := by decide +kernel
theorem dX11_rests_33 : decode cX11_rests 33 = .ok (.iload_n 1, 1) := by decide +kernel
theorem dX11_rests_34 : decode cX11_rests 34 = .ok (.iload_n 2, 1) := by decide +kernel
theorem dX11_rests_35 : decode cX11_rests 35 = .ok (.invokevirtual 327, 3) := by decide +kernel
theorem dX11_rests_38 : decode cX11_rests 38 = .ok (.iload_n 3, 1) := by decide +kernel
theorem dX11_rests_39 : decode cX11_rests 39 = .ok (.iconst (-1), 1) := by decide +kernel
theorem dX11_rests_40 : decode cX11_rests 40 = .ok (.if_icmp .ne 13, 3) := by decide +kernel
theorem dX11_rests_43 : decode cX11_rests 43 = .ok (.aload_n 0, 1) := by decide +kernel
theorem dX11_rests_44 : decode cX11_rests 44 = .ok (.getfield 94, 3) := by decide +kernel
theorem dX11_rests_47 : decode cX11_rests 47 = .ok (.invokevirtual 331, 3) := by decide +kernel
theorem dX11_rests_50 : decode cX11_rests 50 = .ok (.goto 11, 3) := by decide +kernel
theorem dX11_rests_53 : decode cX11_rests 53 = .ok (.aload_n 0, 1) := by decide +kernel
theorem dX11_rests_54 : decode cX11_rests 54 = .ok (.getfield 94, 3) := by decide +kernel
theorem dX11_rests_57 : decode cX11_rests 57 = .ok (.iload_n 3, 1) := by decide +kernel
theorem dX11_rests_58 : decode cX11_rests 58 = .ok (.invokevirtual 334, 3) := by decide +kernel
theorem dX11_rests_61 : decode cX11_rests 61 = .ok (.ireturn, 1) := by decide +kernel
theorem dX11_odds_0 : decode cX11_odds 0 = .ok (.aload_n 0, 1) := by decide +kernel
theorem dX11_odds_1 : decode cX11_odds 1 = .ok (.getfield 19, 3) := by decide +kernel
theorem dX11_odds_4 : decode cX11_odds 4 = .ok (.iload_n 1, 1) := by decide +kernel
theorem dX11_odds_5 : decode cX11_odds 5 = .ok (.invokevirtual 171, 3) := by decide +kernel
theorem dX11_odds_8 : decode cX11_odds 8 = .ok (.ifCond .eq 13, 3) := by decide +kernel
theorem dX11_odds_11 : decode cX11_odds 11 = .ok (.iload_n 2, 1) := by decide +kernel
theorem dX11_odds_12 : decode cX11_odds 12 = .ok (.ifCond .lt 9, 3) := by decide +kernel
theorem dX11_odds_15 : decode cX11_odds 15 = .ok (.iload_n 2, 1) := by decide +kernel
theorem dX11_odds_16 : decode cX11_odds 16 = .ok (.bipush 100, 2) := by decide +kernel
theorem dX11_odds_18 : decode cX11_odds 18 = .ok (.if_icmp .le 5, 3) := by decide +kernel
theorem dX11_odds_21 : decode cX11_odds 21 = .ok (.iconst (-1), 1) := by decide +kernel
theorem dX11_odds_22 : decode cX11_odds 22 = .ok (.ireturn, 1) := by decide +kernel
theorem dX11_odds_23 : decode cX11_odds 23 = .ok (.aload_n 0, 1) := by decide +kernel
theorem dX11_odds_24 : decode cX11_odds 24 = .ok (.getfield 76, 3) := by decide +kernel
theorem dX11_odds_27 : decode cX11_odds 27 = .ok (.iload_n 1, 1) := by decide +kernel
theorem dX11_odds_28 : decode cX11_odds 28 = .ok (.iload_n 2, 1) := by decide +kernel
theorem dX11_odds_29 : decode cX11_odds 29 = .ok (.invokevirtual 337, 3) := by decide +kernel
theorem dX11_odds_32 : decode cX11_odds 32 = .ok (.ireturn, 1) := by decide +kernel
theorem dX11_story_0 : decode cX11_story 0 = .ok (.aload_n 0, 1) := by decide +kernel
theorem dX11_story_1 : decode cX11_story 1 = .ok (.getfield 19, 3) := by decide +kernel
theorem dX11_story_4 : decode cX11_story 4 = .ok (.iload_n 1, 1) := by decide +kernel
theorem dX11_story_5 : decode cX11_story 5 = .ok (.invokevirtual 171, 3) := by decide +kernel
theorem dX11_story_8 : decode cX11_story 8 = .ok (.ifCond .ne 5, 3) := by decide +kernel
theorem dX11_story_11 : decode cX11_story 11 = .ok (.iconst (-1), 1) := by decide +kernel
theorem dX11_story_12 : decode cX11_story 12 = .ok (.ireturn, 1) := by decide +kernel
theorem dX11_story_13 : decode cX11_story 13 = .ok (.iload_n 2, 1) := by decide +kernel
theorem dX11_story_14 : decode cX11_story 14 = .ok (.tableswitch 101 0 4 #[34, 43, 52, 61, 77], 34) := by decide +kernel
theorem dX11_story_48 : decode cX11_story 48 = .ok (.aload_n 0, 1) := by decide +kernel
theorem dX11_story_49 : decode cX11_story 49 = .ok (.getfield 51, 3) := by decide +kernel
theorem dX11_story_52 : decode cX11_story 52 = .ok (.iload_n 1, 1) := by decide +kernel
theorem dX11_story_53 : decode cX11_story 53 = .ok (.invokevirtual 340, 3) := by decide +kernel
theorem dX11_story_56 : decode cX11_story 56 = .ok (.ireturn, 1) := by decide +kernel
theorem dX11_story_57 : decode cX11_story 57 = .ok (.aload_n 0, 1) := by decide +kernel
theorem dX11_story_58 : decode cX11_story 58 = .ok (.getfield 51, 3) := by decide +kernel
theorem dX11_story_61 : decode cX11_story 61 = .ok (.iload_n 1, 1) := by decide +kernel
theorem dX11_story_62 : decode cX11_story 62 = .ok (.invokevirtual 343, 3) := by decide +kernel
theorem dX11_story_65 : decode cX11_story 65 = .ok (.ireturn, 1) := by decide +kernel
theorem dX11_story_66 : decode cX11_story 66 = .ok (.aload_n 0, 1) := by decide +kernel
theorem dX11_story_67 : decode cX11_story 67 = .ok (.getfield 51, 3) := by decide +kernel
theorem dX11_story_70 : decode cX11_story 70 = .ok (.iload_n 1, 1) := by decide +kernel
theorem dX11_story_71 : decode cX11_story 71 = .ok (.invokevirtual 272, 3) := by decide +kernel
theorem dX11_story_74 : decode cX11_story 74 = .ok (.ireturn, 1) := by decide +kernel
theorem dX11_story_75 : decode cX11_story 75 = .ok (.aload_n 0, 1) := by decide +kernel
theorem dX11_story_76 : decode cX11_story 76 = .ok (.getfield 51, 3) := by decide +kernel
theorem dX11_story_79 : decode cX11_story 79 = .ok (.aload_n 0, 1) := by decide +kernel
theorem dX11_story_80 : decode cX11_story 80 = .ok (.getfield 51, 3) := by decide +kernel
theorem dX11_story_83 : decode cX11_story 83 = .ok (.iload_n 1, 1) := by decide +kernel
theorem dX11_story_84 : decode cX11_story 84 = .ok (.invokevirtual 228, 3) := by decide +kernel
theorem dX11_story_87 : decode cX11_story 87 = .ok (.invokevirtual 346, 3) := by decide +kernel
theorem dX11_story_90 : decode cX11_story 90 = .ok (.ireturn, 1) := by decide +kernel
theorem dX11_story_91 : decode cX11_story 91 = .ok (.aload_n 0, 1) := by decide +kernel
theorem dX11_story_92 : decode cX11_story 92 = .ok (.getfield 51, 3) := by decide +kernel
theorem dX11_story_95 : decode cX11_story 95 = .ok (.iload_n 1, 1) := by decide +kernel
theorem dX11_story_96 : decode cX11_story 96 = .ok (.invokevirtual 191, 3) := by decide +kernel
theorem dX11_story_99 : decode cX11_story 99 = .ok (.ifCond .eq 7, 3) := by decide +kernel
theorem dX11_story_102 : decode cX11_story 102 = .ok (.iconst 0, 1) := by decide +kernel
theorem dX11_story_103 : decode cX11_story 103 = .ok (.goto 11, 3) := by decide +kernel
theorem dX11_story_106 : decode cX11_story 106 = .ok (.aload_n 0, 1) := by decide +kernel
theorem dX11_story_107 : decode cX11_story 107 = .ok (.getfield 51, 3) := by decide +kernel
theorem dX11_story_110 : decode cX11_story 110 = .ok (.iload_n 1, 1) := by decide +kernel
theorem dX11_story_111 : decode cX11_story 111 = .ok (.invokevirtual 349, 3) := by decide +kernel
theorem dX11_story_114 : decode cX11_story 114 = .ok (.ireturn, 1) := by decide +kernel
theorem dX11_story_115 : decode cX11_story 115 = .ok (.iconst (-1), 1) := by decide +kernel
theorem dX11_story_116 : decode cX11_story 116 = .ok (.ireturn, 1) := by decide +kernel
theorem dX11_shares_0 : decode cX11_shares 0 = .ok (.aload_n 0, 1) := by decide +kernel
theorem dX11_shares_1 : decode cX11_shares 1 = .ok (.getfield 19, 3) := by decide +kernel
theorem dX11_shares_4 : decode cX11_shares 4 = .ok (.iload_n 1, 1) := by decide +kernel
theorem dX11_shares_5 : decode cX11_shares 5 = .ok (.invokevirtual 171, 3) := by decide +kernel
theorem dX11_shares_8 : decode cX11_shares 8 = .ok (.ifCond .eq 14, 3) := by decide +kernel
theorem dX11_shares_11 : decode cX11_shares 11 = .ok (.iload_n 2, 1) := by decide +kernel
theorem dX11_shares_12 : decode cX11_shares 12 = .ok (.ifCond .lt 10, 3) := by decide +kernel
theorem dX11_shares_15 : decode cX11_shares 15 = .ok (.iload_n 2, 1) := by decide +kernel
theorem dX11_shares_16 : decode cX11_shares 16 = .ok (.sipush 999, 3) := by decide +kernel
theorem dX11_shares_19 : decode cX11_shares 19 = .ok (.if_icmp .le 5, 3) := by decide +kernel
theorem dX11_shares_22 : decode cX11_shares 22 = .ok (.iconst (-1), 1) := by decide +kernel
theorem dX11_shares_23 : decode cX11_shares 23 = .ok (.ireturn, 1) := by decide +kernel
theorem dX11_shares_24 : decode cX11_shares 24 = .ok (.aload_n 0, 1) := by decide +kernel
theorem dX11_shares_25 : decode cX11_shares 25 = .ok (.getfield 51, 3) := by decide +kernel
theorem dX11_shares_28 : decode cX11_shares 28 = .ok (.iconst 1, 1) := by decide +kernel
theorem dX11_shares_29 : decode cX11_shares 29 = .ok (.aload_n 0, 1) := by decide +kernel
theorem dX11_shares_30 : decode cX11_shares 30 = .ok (.getfield 19, 3) := by decide +kernel
theorem dX11_shares_33 : decode cX11_shares 33 = .ok (.getfield 143, 3) := by decide +kernel
theorem dX11_shares_36 : decode cX11_shares 36 = .ok (.ishl, 1) := by decide +kernel
theorem dX11_shares_37 : decode cX11_shares 37 = .ok (.iconst 1, 1) := by decide +kernel
theorem dX11_shares_38 : decode cX11_shares 38 = .ok (.isub, 1) := by decide +kernel
theorem dX11_shares_39 : decode cX11_shares 39 = .ok (.invokevirtual 346, 3) := by decide +kernel
theorem dX11_shares_42 : decode cX11_shares 42 = .ok (.istore_n 3, 1) := by decide +kernel
theorem dX11_shares_43 : decode cX11_shares 43 = .ok (.iload_n 3, 1) := by decide +kernel
theorem dX11_shares_44 : decode cX11_shares 44 = .ok (.ifCond .le 19, 3) := by decide +kernel
theorem dX11_shares_47 : decode cX11_shares 47 = .ok (.iload_n 2, 1) := by decide +kernel
theorem dX11_shares_48 : decode cX11_shares 48 = .ok (.aload_n 0, 1) := by decide +kernel
theorem dX11_shares_49 : decode cX11_shares 49 = .ok (.getfield 51, 3) := by decide +kernel
theorem dX11_shares_52 : decode cX11_shares 52 = .ok (.getfield 188, 3) := by decide +kernel
theorem dX11_shares_55 : decode cX11_shares 55 = .ok (.iload_n 1, 1) := by decide +kernel
theorem dX11_shares_56 : decode cX11_shares 56 = .ok (.iaload, 1) := by decide +kernel
theorem dX11_shares_57 : decode cX11_shares 57 = .ok (.imul, 1) := by decide +kernel
theorem dX11_shares_58 : decode cX11_shares 58 = .ok (.iload_n 3, 1) := by decide +kernel
theorem dX11_shares_59 : decode cX11_shares 59 = .ok (.idiv, 1) := by decide +kernel
theorem dX11_shares_60 : decode cX11_shares 60 = .ok (.goto 4, 3) := by decide +kernel
theorem dX11_shares_63 : decode cX11_shares 63 = .ok (.iconst (-1), 1) := by decide +kernel
theorem dX11_shares_64 : decode cX11_shares 64 = .ok (.ireturn, 1) := by decide +kernel
theorem dX11_most_0 : decode cX11_most 0 = .ok (.aload_n 0, 1) := by decide +kernel
theorem dX11_most_1 : decode cX11_most 1 = .ok (.getfield 19, 3) := by decide +kernel
theorem dX11_most_4 : decode cX11_most 4 = .ok (.invokevirtual 155, 3) := by decide +kernel
theorem dX11_most_7 : decode cX11_most 7 = .ok (.ifCond .ne 5, 3) := by decide +kernel
theorem dX11_most_10 : decode cX11_most 10 = .ok (.iconst (-1), 1) := by decide +kernel
theorem dX11_most_11 : decode cX11_most 11 = .ok (.ireturn, 1) := by decide +kernel
theorem dX11_most_12 : decode cX11_most 12 = .ok (.iload_n 1, 1) := by decide +kernel
theorem dX11_most_13 : decode cX11_most 13 = .ok (.tableswitch 123 0 7 #[47, 59, 71, 83, 91, 99, 107, 115], 47) := by decide +kernel
theorem dX11_most_60 : decode cX11_most 60 = .ok (.aload_n 0, 1) := by decide +kernel
theorem dX11_most_61 : decode cX11_most 61 = .ok (.aload_n 0, 1) := by decide +kernel
theorem dX11_most_62 : decode cX11_most 62 = .ok (.getfield 51, 3) := by decide +kernel
theorem dX11_most_65 : decode cX11_most 65 = .ok (.getfield 188, 3) := by decide +kernel
theorem dX11_most_68 : decode cX11_most 68 = .ok (.invokevirtual 352, 3) := by decide +kernel
theorem dX11_most_71 : decode cX11_most 71 = .ok (.ireturn, 1) := by decide +kernel
theorem dX11_most_72 : decode cX11_most 72 = .ok (.aload_n 0, 1) := by decide +kernel
theorem dX11_most_73 : decode cX11_most 73 = .ok (.aload_n 0, 1) := by decide +kernel
theorem dX11_most_74 : decode cX11_most 74 = .ok (.getfield 51, 3) := by decide +kernel
theorem dX11_most_77 : decode cX11_most 77 = .ok (.getfield 182, 3) := by decide +kernel
theorem dX11_most_80 : decode cX11_most 80 = .ok (.invokevirtual 352, 3) := by decide +kernel
theorem dX11_most_83 : decode cX11_most 83 = .ok (.ireturn, 1) := by decide +kernel
theorem dX11_most_84 : decode cX11_most 84 = .ok (.aload_n 0, 1) := by decide +kernel
theorem dX11_most_85 : decode cX11_most 85 = .ok (.aload_n 0, 1) := by decide +kernel
theorem dX11_most_86 : decode cX11_most 86 = .ok (.getfield 19, 3) := by decide +kernel
theorem dX11_most_89 : decode cX11_most 89 = .ok (.getfield 185, 3) := by decide +kernel
theorem dX11_most_92 : decode cX11_most 92 = .ok (.invokevirtual 352, 3) := by decide +kernel
theorem dX11_most_95 : decode cX11_most 95 = .ok (.ireturn, 1) := by decide +kernel
theorem dX11_most_96 : decode cX11_most 96 = .ok (.aload_n 0, 1) := by decide +kernel
theorem dX11_most_97 : decode cX11_most 97 = .ok (.getfield 51, 3) := by decide +kernel
theorem dX11_most_100 : decode cX11_most 100 = .ok (.invokevirtual 356, 3) := by decide +kernel
theorem dX11_most_103 : decode cX11_most 103 = .ok (.ireturn, 1) := by decide +kernel
theorem dX11_most_104 : decode cX11_most 104 = .ok (.aload_n 0, 1) := by decide +kernel
theorem dX11_most_105 : decode cX11_most 105 = .ok (.getfield 51, 3) := by decide +kernel
theorem dX11_most_108 : decode cX11_most 108 = .ok (.getfield 240, 3) := by decide +kernel
theorem dX11_most_111 : decode cX11_most 111 = .ok (.ireturn, 1) := by decide +kernel
theorem dX11_most_112 : decode cX11_most 112 = .ok (.aload_n 0, 1) := by decide +kernel
theorem dX11_most_113 : decode cX11_most 113 = .ok (.getfield 76, 3) := by decide +kernel
theorem dX11_most_116 : decode cX11_most 116 = .ok (.invokevirtual 359, 3) := by decide +kernel
theorem dX11_most_119 : decode cX11_most 119 = .ok (.ireturn, 1) := by decide +kernel
theorem dX11_most_120 : decode cX11_most 120 = .ok (.aload_n 0, 1) := by decide +kernel
theorem dX11_most_121 : decode cX11_most 121 = .ok (.getfield 76, 3) := by decide +kernel
theorem dX11_most_124 : decode cX11_most 124 = .ok (.invokevirtual 362, 3) := by decide +kernel
theorem dX11_most_127 : decode cX11_most 127 = .ok (.ireturn, 1) := by decide +kernel
theorem dX11_most_128 : decode cX11_most 128 = .ok (.aload_n 0, 1) := by decide +kernel
theorem dX11_most_129 : decode cX11_most 129 = .ok (.getfield 76, 3) := by decide +kernel
theorem dX11_most_132 : decode cX11_most 132 = .ok (.invokevirtual 365, 3) := by decide +kernel
theorem dX11_most_135 : decode cX11_most 135 = .ok (.ireturn, 1) := by decide +kernel
theorem dX11_most_136 : decode cX11_most 136 = .ok (.iconst (-1), 1) := by decide +kernel
theorem dX11_most_137 : decode cX11_most 137 = .ok (.ireturn, 1) := by decide +kernel
theorem dX11_highest_0 : decode cX11_highest 0 = .ok (.iconst 0, 1) := by decide +kernel
theorem dX11_highest_1 : decode cX11_highest 1 = .ok (.istore_n 2, 1) := by decide +kernel
theorem dX11_highest_2 : decode cX11_highest 2 = .ok (.iconst 1, 1) := by decide +kernel
theorem dX11_highest_3 : decode cX11_highest 3 = .ok (.istore_n 3, 1) := by decide +kernel
theorem dX11_highest_4 : decode cX11_highest 4 = .ok (.iload_n 3, 1) := by decide +kernel
theorem dX11_highest_5 : decode cX11_highest 5 = .ok (.aload_n 0, 1) := by decide +kernel
theorem dX11_highest_6 : decode cX11_highest 6 = .ok (.getfield 19, 3) := by decide +kernel
theorem dX11_highest_9 : decode cX11_highest 9 = .ok (.getfield 143, 3) := by decide +kernel
theorem dX11_highest_12 : decode cX11_highest 12 = .ok (.if_icmp .ge 26, 3) := by decide +kernel
theorem dX11_highest_15 : decode cX11_highest 15 = .ok (.iload_n 3, 1) := by decide +kernel
theorem dX11_highest_16 : decode cX11_highest 16 = .ok (.aload_n 1, 1) := by decide +kernel
theorem dX11_highest_17 : decode cX11_highest 17 = .ok (.arraylength, 1) := by decide +kernel
theorem dX11_highest_18 : decode cX11_highest 18 = .ok (.if_icmp .ge 20, 3) := by decide +kernel
theorem dX11_highest_21 : decode cX11_highest 21 = .ok (.aload_n 1, 1) := by decide +kernel
theorem dX11_highest_22 : decode cX11_highest 22 = .ok (.iload_n 3, 1) := by decide +kernel
theorem dX11_highest_23 : decode cX11_highest 23 = .ok (.iaload, 1) := by decide +kernel
theorem dX11_highest_24 : decode cX11_highest 24 = .ok (.aload_n 1, 1) := by decide +kernel
theorem dX11_highest_25 : decode cX11_highest 25 = .ok (.iload_n 2, 1) := by decide +kernel
theorem dX11_highest_26 : decode cX11_highest 26 = .ok (.iaload, 1) := by decide +kernel
theorem dX11_highest_27 : decode cX11_highest 27 = .ok (.if_icmp .le 5, 3) := by decide +kernel
theorem dX11_highest_30 : decode cX11_highest 30 = .ok (.iload_n 3, 1) := by decide +kernel
theorem dX11_highest_31 : decode cX11_highest 31 = .ok (.istore_n 2, 1) := by decide +kernel
theorem dX11_highest_32 : decode cX11_highest 32 = .ok (.iinc 3 1, 3) := by decide +kernel
theorem dX11_highest_35 : decode cX11_highest 35 = .ok (.goto (-31), 3) := by decide +kernel
theorem dX11_highest_38 : decode cX11_highest 38 = .ok (.iload_n 2, 1) := by decide +kernel
theorem dX11_highest_39 : decode cX11_highest 39 = .ok (.ireturn, 1) := by decide +kernel
theorem dX11_image_0 : decode cX11_image 0 = .ok (.aload_n 0, 1) := by decide +kernel
theorem dX11_image_1 : decode cX11_image 1 = .ok (.getfield 19, 3) := by decide +kernel
theorem dX11_image_4 : decode cX11_image 4 = .ok (.invokevirtual 155, 3) := by decide +kernel
theorem dX11_image_7 : decode cX11_image 7 = .ok (.ifCond .ne 5, 3) := by decide +kernel
theorem dX11_image_10 : decode cX11_image 10 = .ok (.iconst (-1), 1) := by decide +kernel
theorem dX11_image_11 : decode cX11_image 11 = .ok (.ireturn, 1) := by decide +kernel
theorem dX11_image_12 : decode cX11_image 12 = .ok (.aload_n 0, 1) := by decide +kernel
theorem dX11_image_13 : decode cX11_image 13 = .ok (.getfield 58, 3) := by decide +kernel
theorem dX11_image_16 : decode cX11_image 16 = .ok (.aload_n 0, 1) := by decide +kernel
theorem dX11_image_17 : decode cX11_image 17 = .ok (.getfield 51, 3) := by decide +kernel
theorem dX11_image_20 : decode cX11_image 20 = .ok (.invokevirtual 368, 3) := by decide +kernel
theorem dX11_image_23 : decode cX11_image 23 = .ok (.aload_n 0, 1) := by decide +kernel
theorem dX11_image_24 : decode cX11_image 24 = .ok (.getfield 51, 3) := by decide +kernel
theorem dX11_image_27 : decode cX11_image 27 = .ok (.getfield 249, 3) := by decide +kernel
theorem dX11_image_30 : decode cX11_image 30 = .ok (.ireturn, 1) := by decide +kernel
theorem dX11_back_0 : decode cX11_back 0 = .ok (.aload_n 0, 1) := by decide +kernel
theorem dX11_back_1 : decode cX11_back 1 = .ok (.getfield 58, 3) := by decide +kernel
theorem dX11_back_4 : decode cX11_back 4 = .ok (.aload_n 0, 1) := by decide +kernel
theorem dX11_back_5 : decode cX11_back 5 = .ok (.getfield 51, 3) := by decide +kernel
theorem dX11_back_8 : decode cX11_back 8 = .ok (.invokevirtual 371, 3) := by decide +kernel
theorem dX11_back_11 : decode cX11_back 11 = .ok (.ifCond .eq 13, 3) := by decide +kernel
theorem dX11_back_14 : decode cX11_back 14 = .ok (.aload_n 0, 1) := by decide +kernel
theorem dX11_back_15 : decode cX11_back 15 = .ok (.getfield 51, 3) := by decide +kernel
theorem dX11_back_18 : decode cX11_back 18 = .ok (.getfield 249, 3) := by decide +kernel
theorem dX11_back_21 : decode cX11_back 21 = .ok (.goto 4, 3) := by decide +kernel
theorem dX11_back_24 : decode cX11_back 24 = .ok (.iconst (-1), 1) := by decide +kernel
theorem dX11_back_25 : decode cX11_back 25 = .ok (.ireturn, 1) := by decide +kernel
theorem dX11_count_0 : decode cX11_count 0 = .ok (.iload_n 1, 1) := by decide +kernel
theorem dX11_count_1 : decode cX11_count 1 = .ok (.tableswitch 135 0 9 #[55, 63, 71, 79, 87, 95, 103, 108, 116, 127], 55) := by decide +kernel
theorem dX11_count_56 : decode cX11_count 56 = .ok (.aload_n 0, 1) := by decide +kernel
theorem dX11_count_57 : decode cX11_count 57 = .ok (.getfield 19, 3) := by decide +kernel
theorem dX11_count_60 : decode cX11_count 60 = .ok (.getfield 143, 3) := by decide +kernel
theorem dX11_count_63 : decode cX11_count 63 = .ok (.ireturn, 1) := by decide +kernel
theorem dX11_count_64 : decode cX11_count 64 = .ok (.aload_n 0, 1) := by decide +kernel
theorem dX11_count_65 : decode cX11_count 65 = .ok (.getfield 44, 3) := by decide +kernel
theorem dX11_count_68 : decode cX11_count 68 = .ok (.getfield 146, 3) := by decide +kernel
theorem dX11_count_71 : decode cX11_count 71 = .ok (.ireturn, 1) := by decide +kernel
theorem dX11_count_72 : decode cX11_count 72 = .ok (.aload_n 0, 1) := by decide +kernel
theorem dX11_count_73 : decode cX11_count 73 = .ok (.getfield 10, 3) := by decide +kernel
theorem dX11_count_76 : decode cX11_count 76 = .ok (.getfield 110, 3) := by decide +kernel
theorem dX11_count_79 : decode cX11_count 79 = .ok (.ireturn, 1) := by decide +kernel
theorem dX11_count_80 : decode cX11_count 80 = .ok (.aload_n 0, 1) := by decide +kernel
theorem dX11_count_81 : decode cX11_count 81 = .ok (.getfield 44, 3) := by decide +kernel
theorem dX11_count_84 : decode cX11_count 84 = .ok (.getfield 200, 3) := by decide +kernel
theorem dX11_count_87 : decode cX11_count 87 = .ok (.ireturn, 1) := by decide +kernel
theorem dX11_count_88 : decode cX11_count 88 = .ok (.aload_n 0, 1) := by decide +kernel
theorem dX11_count_89 : decode cX11_count 89 = .ok (.getfield 51, 3) := by decide +kernel
theorem dX11_count_92 : decode cX11_count 92 = .ok (.getfield 249, 3) := by decide +kernel
theorem dX11_count_95 : decode cX11_count 95 = .ok (.ireturn, 1) := by decide +kernel
theorem dX11_count_96 : decode cX11_count 96 = .ok (.aload_n 0, 1) := by decide +kernel
theorem dX11_count_97 : decode cX11_count 97 = .ok (.getfield 51, 3) := by decide +kernel
theorem dX11_count_100 : decode cX11_count 100 = .ok (.getfield 374, 3) := by decide +kernel
theorem dX11_count_103 : decode cX11_count 103 = .ok (.ireturn, 1) := by decide +kernel
theorem dX11_count_104 : decode cX11_count 104 = .ok (.aload_n 0, 1) := by decide +kernel
theorem dX11_count_105 : decode cX11_count 105 = .ok (.getfield 102, 3) := by decide +kernel
theorem dX11_count_108 : decode cX11_count 108 = .ok (.ireturn, 1) := by decide +kernel
theorem dX11_count_109 : decode cX11_count 109 = .ok (.aload_n 0, 1) := by decide +kernel
theorem dX11_count_110 : decode cX11_count 110 = .ok (.getfield 85, 3) := by decide +kernel
theorem dX11_count_113 : decode cX11_count 113 = .ok (.getfield 140, 3) := by decide +kernel
theorem dX11_count_116 : decode cX11_count 116 = .ok (.ireturn, 1) := by decide +kernel
theorem dX11_count_117 : decode cX11_count 117 = .ok (.aload_n 0, 1) := by decide +kernel
theorem dX11_count_118 : decode cX11_count 118 = .ok (.getfield 51, 3) := by decide +kernel
theorem dX11_count_121 : decode cX11_count 121 = .ok (.getfield 249, 3) := by decide +kernel
theorem dX11_count_124 : decode cX11_count 124 = .ok (.invokestatic 377, 3) := by decide +kernel
theorem dX11_count_127 : decode cX11_count 127 = .ok (.ireturn, 1) := by decide +kernel
theorem dX11_count_128 : decode cX11_count 128 = .ok (.aload_n 0, 1) := by decide +kernel
theorem dX11_count_129 : decode cX11_count 129 = .ok (.getfield 58, 3) := by decide +kernel
theorem dX11_count_132 : decode cX11_count 132 = .ok (.getfield 267, 3) := by decide +kernel
theorem dX11_count_135 : decode cX11_count 135 = .ok (.ireturn, 1) := by decide +kernel
theorem dX11_count_136 : decode cX11_count 136 = .ok (.ldc_w 320, 3) := by decide +kernel
theorem dX11_count_139 : decode cX11_count 139 = .ok (.ireturn, 1) := by decide +kernel
theorem dJ6_bitCount_0f7a4_0 : decode cJ6_bitCount_0f7a4 0 = .ok (.iload_n 0, 1) := by decide +kernel
theorem dJ6_bitCount_0f7a4_1 : decode cJ6_bitCount_0f7a4 1 = .ok (.iload_n 0, 1) := by decide +kernel
theorem dJ6_bitCount_0f7a4_2 : decode cJ6_bitCount_0f7a4 2 = .ok (.iconst 1, 1) := by decide +kernel
theorem dJ6_bitCount_0f7a4_3 : decode cJ6_bitCount_0f7a4 3 = .ok (.iushr, 1) := by decide +kernel
theorem dJ6_bitCount_0f7a4_4 : decode cJ6_bitCount_0f7a4 4 = .ok (.ldc_w 265, 3) := by decide +kernel
theorem dJ6_bitCount_0f7a4_7 : decode cJ6_bitCount_0f7a4 7 = .ok (.iand, 1) := by decide +kernel
theorem dJ6_bitCount_0f7a4_8 : decode cJ6_bitCount_0f7a4 8 = .ok (.isub, 1) := by decide +kernel
theorem dJ6_bitCount_0f7a4_9 : decode cJ6_bitCount_0f7a4 9 = .ok (.istore_n 0, 1) := by decide +kernel
theorem dJ6_bitCount_0f7a4_10 : decode cJ6_bitCount_0f7a4 10 = .ok (.iload_n 0, 1) := by decide +kernel
theorem dJ6_bitCount_0f7a4_11 : decode cJ6_bitCount_0f7a4 11 = .ok (.ldc_w 266, 3) := by decide +kernel
theorem dJ6_bitCount_0f7a4_14 : decode cJ6_bitCount_0f7a4 14 = .ok (.iand, 1) := by decide +kernel
theorem dJ6_bitCount_0f7a4_15 : decode cJ6_bitCount_0f7a4 15 = .ok (.iload_n 0, 1) := by decide +kernel
theorem dJ6_bitCount_0f7a4_16 : decode cJ6_bitCount_0f7a4 16 = .ok (.iconst 2, 1) := by decide +kernel
theorem dJ6_bitCount_0f7a4_17 : decode cJ6_bitCount_0f7a4 17 = .ok (.iushr, 1) := by decide +kernel
theorem dJ6_bitCount_0f7a4_18 : decode cJ6_bitCount_0f7a4 18 = .ok (.ldc_w 266, 3) := by decide +kernel
theorem dJ6_bitCount_0f7a4_21 : decode cJ6_bitCount_0f7a4 21 = .ok (.iand, 1) := by decide +kernel
theorem dJ6_bitCount_0f7a4_22 : decode cJ6_bitCount_0f7a4 22 = .ok (.iadd, 1) := by decide +kernel
theorem dJ6_bitCount_0f7a4_23 : decode cJ6_bitCount_0f7a4 23 = .ok (.istore_n 0, 1) := by decide +kernel
theorem dJ6_bitCount_0f7a4_24 : decode cJ6_bitCount_0f7a4 24 = .ok (.iload_n 0, 1) := by decide +kernel
theorem dJ6_bitCount_0f7a4_25 : decode cJ6_bitCount_0f7a4 25 = .ok (.iload_n 0, 1) := by decide +kernel
theorem dJ6_bitCount_0f7a4_26 : decode cJ6_bitCount_0f7a4 26 = .ok (.iconst 4, 1) := by decide +kernel
theorem dJ6_bitCount_0f7a4_27 : decode cJ6_bitCount_0f7a4 27 = .ok (.iushr, 1) := by decide +kernel
theorem dJ6_bitCount_0f7a4_28 : decode cJ6_bitCount_0f7a4 28 = .ok (.iadd, 1) := by decide +kernel
theorem dJ6_bitCount_0f7a4_29 : decode cJ6_bitCount_0f7a4 29 = .ok (.ldc_w 267, 3) := by decide +kernel
theorem dJ6_bitCount_0f7a4_32 : decode cJ6_bitCount_0f7a4 32 = .ok (.iand, 1) := by decide +kernel
theorem dJ6_bitCount_0f7a4_33 : decode cJ6_bitCount_0f7a4 33 = .ok (.istore_n 0, 1) := by decide +kernel
theorem dJ6_bitCount_0f7a4_34 : decode cJ6_bitCount_0f7a4 34 = .ok (.iload_n 0, 1) := by decide +kernel
theorem dJ6_bitCount_0f7a4_35 : decode cJ6_bitCount_0f7a4 35 = .ok (.iload_n 0, 1) := by decide +kernel
theorem dJ6_bitCount_0f7a4_36 : decode cJ6_bitCount_0f7a4 36 = .ok (.bipush 8, 2) := by decide +kernel
theorem dJ6_bitCount_0f7a4_38 : decode cJ6_bitCount_0f7a4 38 = .ok (.iushr, 1) := by decide +kernel
theorem dJ6_bitCount_0f7a4_39 : decode cJ6_bitCount_0f7a4 39 = .ok (.iadd, 1) := by decide +kernel
theorem dJ6_bitCount_0f7a4_40 : decode cJ6_bitCount_0f7a4 40 = .ok (.istore_n 0, 1) := by decide +kernel
theorem dJ6_bitCount_0f7a4_41 : decode cJ6_bitCount_0f7a4 41 = .ok (.iload_n 0, 1) := by decide +kernel
theorem dJ6_bitCount_0f7a4_42 : decode cJ6_bitCount_0f7a4 42 = .ok (.iload_n 0, 1) := by decide +kernel
theorem dJ6_bitCount_0f7a4_43 : decode cJ6_bitCount_0f7a4 43 = .ok (.bipush 16, 2) := by decide +kernel
theorem dJ6_bitCount_0f7a4_45 : decode cJ6_bitCount_0f7a4 45 = .ok (.iushr, 1) := by decide +kernel
theorem dJ6_bitCount_0f7a4_46 : decode cJ6_bitCount_0f7a4 46 = .ok (.iadd, 1) := by decide +kernel
theorem dJ6_bitCount_0f7a4_47 : decode cJ6_bitCount_0f7a4 47 = .ok (.istore_n 0, 1) := by decide +kernel
theorem dJ6_bitCount_0f7a4_48 : decode cJ6_bitCount_0f7a4 48 = .ok (.iload_n 0, 1) := by decide +kernel
theorem dJ6_bitCount_0f7a4_49 : decode cJ6_bitCount_0f7a4 49 = .ok (.bipush 63, 2) := by decide +kernel
theorem dJ6_bitCount_0f7a4_51 : decode cJ6_bitCount_0f7a4 51 = .ok (.iand, 1) := by decide +kernel
theorem dJ6_bitCount_0f7a4_52 : decode cJ6_bitCount_0f7a4 52 = .ok (.ireturn, 1) := by decide +kernel
theorem dJ9_floorMod_7cf53_0 : decode cJ9_floorMod_7cf53 0 = .ok (.iload_n 0, 1) := by decide +kernel
theorem dJ9_floorMod_7cf53_1 : decode cJ9_floorMod_7cf53 1 = .ok (.iload_n 1, 1) := by decide +kernel
theorem dJ9_floorMod_7cf53_2 : decode cJ9_floorMod_7cf53 2 = .ok (.irem, 1) := by decide +kernel
theorem dJ9_floorMod_7cf53_3 : decode cJ9_floorMod_7cf53 3 = .ok (.istore_n 2, 1) := by decide +kernel
theorem dJ9_floorMod_7cf53_4 : decode cJ9_floorMod_7cf53 4 = .ok (.iload_n 0, 1) := by decide +kernel
theorem dJ9_floorMod_7cf53_5 : decode cJ9_floorMod_7cf53 5 = .ok (.iload_n 1, 1) := by decide +kernel
theorem dJ9_floorMod_7cf53_6 : decode cJ9_floorMod_7cf53 6 = .ok (.ixor, 1) := by decide +kernel
theorem dJ9_floorMod_7cf53_7 : decode cJ9_floorMod_7cf53 7 = .ok (.ifCond .ge 11, 3) := by decide +kernel
theorem dJ9_floorMod_7cf53_10 : decode cJ9_floorMod_7cf53 10 = .ok (.iload_n 2, 1) := by decide +kernel
theorem dJ9_floorMod_7cf53_11 : decode cJ9_floorMod_7cf53 11 = .ok (.ifCond .eq 7, 3) := by decide +kernel
theorem dJ9_floorMod_7cf53_14 : decode cJ9_floorMod_7cf53 14 = .ok (.iload_n 2, 1) := by decide +kernel
theorem dJ9_floorMod_7cf53_15 : decode cJ9_floorMod_7cf53 15 = .ok (.iload_n 1, 1) := by decide +kernel
theorem dJ9_floorMod_7cf53_16 : decode cJ9_floorMod_7cf53 16 = .ok (.iadd, 1) := by decide +kernel
theorem dJ9_floorMod_7cf53_17 : decode cJ9_floorMod_7cf53 17 = .ok (.ireturn, 1) := by decide +kernel
theorem dJ9_floorMod_7cf53_18 : decode cJ9_floorMod_7cf53 18 = .ok (.iload_n 2, 1) := by decide +kernel
theorem dJ9_floorMod_7cf53_19 : decode cJ9_floorMod_7cf53 19 = .ok (.ireturn, 1) := by decide +kernel
theorem dJ9_abs_0f7a4_0 : decode cJ9_abs_0f7a4 0 = .ok (.iload_n 0, 1) := by decide +kernel
theorem dJ9_abs_0f7a4_1 : decode cJ9_abs_0f7a4 1 = .ok (.ifCond .ge 8, 3) := by decide +kernel
theorem dJ9_abs_0f7a4_4 : decode cJ9_abs_0f7a4 4 = .ok (.iload_n 0, 1) := by decide +kernel
theorem dJ9_abs_0f7a4_5 : decode cJ9_abs_0f7a4 5 = .ok (.ineg, 1) := by decide +kernel
theorem dJ9_abs_0f7a4_6 : decode cJ9_abs_0f7a4 6 = .ok (.goto 4, 3) := by decide +kernel
theorem dJ9_abs_0f7a4_9 : decode cJ9_abs_0f7a4 9 = .ok (.iload_n 0, 1) := by decide +kernel
theorem dJ9_abs_0f7a4_10 : decode cJ9_abs_0f7a4 10 = .ok (.ireturn, 1) := by decide +kernel
theorem dJ9_max_7cf53_0 : decode cJ9_max_7cf53 0 = .ok (.iload_n 0, 1) := by decide +kernel
theorem dJ9_max_7cf53_1 : decode cJ9_max_7cf53 1 = .ok (.iload_n 1, 1) := by decide +kernel
theorem dJ9_max_7cf53_2 : decode cJ9_max_7cf53 2 = .ok (.if_icmp .lt 7, 3) := by decide +kernel
theorem dJ9_max_7cf53_5 : decode cJ9_max_7cf53 5 = .ok (.iload_n 0, 1) := by decide +kernel
theorem dJ9_max_7cf53_6 : decode cJ9_max_7cf53 6 = .ok (.goto 4, 3) := by decide +kernel
theorem dJ9_max_7cf53_9 : decode cJ9_max_7cf53 9 = .ok (.iload_n 1, 1) := by decide +kernel
theorem dJ9_max_7cf53_10 : decode cJ9_max_7cf53 10 = .ok (.ireturn, 1) := by decide +kernel
theorem dJ9_max_f86c9_0 : decode cJ9_max_f86c9 0 = .ok (.lload_n 0, 1) := by decide +kernel
theorem dJ9_max_f86c9_1 : decode cJ9_max_f86c9 1 = .ok (.lload_n 2, 1) := by decide +kernel
theorem dJ9_max_f86c9_2 : decode cJ9_max_f86c9 2 = .ok (.lcmp, 1) := by decide +kernel
theorem dJ9_max_f86c9_3 : decode cJ9_max_f86c9 3 = .ok (.ifCond .lt 7, 3) := by decide +kernel
theorem dJ9_max_f86c9_6 : decode cJ9_max_f86c9 6 = .ok (.lload_n 0, 1) := by decide +kernel
theorem dJ9_max_f86c9_7 : decode cJ9_max_f86c9 7 = .ok (.goto 4, 3) := by decide +kernel
theorem dJ9_max_f86c9_10 : decode cJ9_max_f86c9 10 = .ok (.lload_n 2, 1) := by decide +kernel
theorem dJ9_max_f86c9_11 : decode cJ9_max_f86c9 11 = .ok (.lreturn, 1) := by decide +kernel
theorem dJ9_min_7cf53_0 : decode cJ9_min_7cf53 0 = .ok (.iload_n 0, 1) := by decide +kernel
theorem dJ9_min_7cf53_1 : decode cJ9_min_7cf53 1 = .ok (.iload_n 1, 1) := by decide +kernel
theorem dJ9_min_7cf53_2 : decode cJ9_min_7cf53 2 = .ok (.if_icmp .gt 7, 3) := by decide +kernel
theorem dJ9_min_7cf53_5 : decode cJ9_min_7cf53 5 = .ok (.iload_n 0, 1) := by decide +kernel
theorem dJ9_min_7cf53_6 : decode cJ9_min_7cf53 6 = .ok (.goto 4, 3) := by decide +kernel
theorem dJ9_min_7cf53_9 : decode cJ9_min_7cf53 9 = .ok (.iload_n 1, 1) := by decide +kernel
theorem dJ9_min_7cf53_10 : decode cJ9_min_7cf53 10 = .ok (.ireturn, 1) := by decide +kernel
theorem dJ9_min_f86c9_0 : decode cJ9_min_f86c9 0 = .ok (.lload_n 0, 1) := by decide +kernel
theorem dJ9_min_f86c9_1 : decode cJ9_min_f86c9 1 = .ok (.lload_n 2, 1) := by decide +kernel
theorem dJ9_min_f86c9_2 : decode cJ9_min_f86c9 2 = .ok (.lcmp, 1) := by decide +kernel
theorem dJ9_min_f86c9_3 : decode cJ9_min_f86c9 3 = .ok (.ifCond .gt 7, 3) := by decide +kernel
theorem dJ9_min_f86c9_6 : decode cJ9_min_f86c9 6 = .ok (.lload_n 0, 1) := by decide +kernel
theorem dJ9_min_f86c9_7 : decode cJ9_min_f86c9 7 = .ok (.goto 4, 3) := by decide +kernel
theorem dJ9_min_f86c9_10 : decode cJ9_min_f86c9 10 = .ok (.lload_n 2, 1) := by decide +kernel
theorem dJ9_min_f86c9_11 : decode cJ9_min_f86c9 11 = .ok (.lreturn, 1) := by decide +kernel
theorem dJ7_fill_53178_0 : decode cJ7_fill_53178 0 = .ok (.iconst 0, 1) := by decide +kernel
theorem dJ7_fill_53178_1 : decode cJ7_fill_53178 1 = .ok (.istore_n 2, 1) := by decide +kernel
theorem dJ7_fill_53178_2 : decode cJ7_fill_53178 2 = .ok (.aload_n 0, 1) := by decide +kernel
theorem dJ7_fill_53178_3 : decode cJ7_fill_53178 3 = .ok (.arraylength, 1) := by decide +kernel
theorem dJ7_fill_53178_4 : decode cJ7_fill_53178 4 = .ok (.istore_n 3, 1) := by decide +kernel
theorem dJ7_fill_53178_5 : decode cJ7_fill_53178 5 = .ok (.iload_n 2, 1) := by decide +kernel
theorem dJ7_fill_53178_6 : decode cJ7_fill_53178 6 = .ok (.iload_n 3, 1) := by decide +kernel
theorem dJ7_fill_53178_7 : decode cJ7_fill_53178 7 = .ok (.if_icmp .ge 13, 3) := by decide +kernel
theorem dJ7_fill_53178_10 : decode cJ7_fill_53178 10 = .ok (.aload_n 0, 1) := by decide +kernel
theorem dJ7_fill_53178_11 : decode cJ7_fill_53178 11 = .ok (.iload_n 2, 1) := by decide +kernel
theorem dJ7_fill_53178_12 : decode cJ7_fill_53178 12 = .ok (.iload_n 1, 1) := by decide +kernel
theorem dJ7_fill_53178_13 : decode cJ7_fill_53178 13 = .ok (.iastore, 1) := by decide +kernel
theorem dJ7_fill_53178_14 : decode cJ7_fill_53178 14 = .ok (.iinc 2 1, 3) := by decide +kernel
theorem dJ7_fill_53178_17 : decode cJ7_fill_53178 17 = .ok (.goto (-12), 3) := by decide +kernel
theorem dJ7_fill_53178_20 : decode cJ7_fill_53178 20 = .ok (.return_, 1) := by decide +kernel
theorem dJ7_copyOf_59c91_0 : decode cJ7_copyOf_59c91 0 = .ok (.iload_n 1, 1) := by decide +kernel
theorem dJ7_copyOf_59c91_1 : decode cJ7_copyOf_59c91 1 = .ok (.aload_n 0, 1) := by decide +kernel
theorem dJ7_copyOf_59c91_2 : decode cJ7_copyOf_59c91 2 = .ok (.arraylength, 1) := by decide +kernel
theorem dJ7_copyOf_59c91_3 : decode cJ7_copyOf_59c91 3 = .ok (.if_icmp .ne 11, 3) := by decide +kernel
theorem dJ7_copyOf_59c91_6 : decode cJ7_copyOf_59c91 6 = .ok (.aload_n 0, 1) := by decide +kernel
theorem dJ7_copyOf_59c91_7 : decode cJ7_copyOf_59c91 7 = .ok (.invokevirtual 316, 3) := by decide +kernel
theorem dJ7_copyOf_59c91_10 : decode cJ7_copyOf_59c91 10 = .ok (.checkcast 317, 3) := by decide +kernel
theorem dJ7_copyOf_59c91_13 : decode cJ7_copyOf_59c91 13 = .ok (.areturn, 1) := by decide +kernel
theorem dJ7_copyOf_59c91_14 : decode cJ7_copyOf_59c91 14 = .ok (.iload_n 1, 1) := by decide +kernel
theorem dJ7_copyOf_59c91_15 : decode cJ7_copyOf_59c91 15 = .ok (.newarray .int, 2) := by decide +kernel
theorem dJ7_copyOf_59c91_17 : decode cJ7_copyOf_59c91 17 = .ok (.astore_n 2, 1) := by decide +kernel
theorem dJ7_copyOf_59c91_18 : decode cJ7_copyOf_59c91 18 = .ok (.aload_n 0, 1) := by decide +kernel
theorem dJ7_copyOf_59c91_19 : decode cJ7_copyOf_59c91 19 = .ok (.iconst 0, 1) := by decide +kernel
theorem dJ7_copyOf_59c91_20 : decode cJ7_copyOf_59c91 20 = .ok (.aload_n 2, 1) := by decide +kernel
theorem dJ7_copyOf_59c91_21 : decode cJ7_copyOf_59c91 21 = .ok (.iconst 0, 1) := by decide +kernel
theorem dJ7_copyOf_59c91_22 : decode cJ7_copyOf_59c91 22 = .ok (.aload_n 0, 1) := by decide +kernel
theorem dJ7_copyOf_59c91_23 : decode cJ7_copyOf_59c91 23 = .ok (.arraylength, 1) := by decide +kernel
theorem dJ7_copyOf_59c91_24 : decode cJ7_copyOf_59c91 24 = .ok (.iload_n 1, 1) := by decide +kernel
theorem dJ7_copyOf_59c91_25 : decode cJ7_copyOf_59c91 25 = .ok (.invokestatic 304, 3) := by decide +kernel
theorem dJ7_copyOf_59c91_28 : decode cJ7_copyOf_59c91 28 = .ok (.invokestatic 150, 3) := by decide +kernel
theorem dJ7_copyOf_59c91_31 : decode cJ7_copyOf_59c91 31 = .ok (.aload_n 2, 1) := by decide +kernel
theorem dJ7_copyOf_59c91_32 : decode cJ7_copyOf_59c91 32 = .ok (.areturn, 1) := by decide +kernel
