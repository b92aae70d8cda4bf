theorem dX12_in_0 : decode cX12_in 0 = .ok (.iload_n 0, 1) := by decide +kernel
theorem dX12_in_1 : decode cX12_in 1 = .ok (.iload_n 1, 1) := by decide +kernel
theorem dX12_in_2 : decode cX12_in 2 = .ok (.if_icmp .lt 12, 3) := by decide +kernel
theorem dX12_in_5 : decode cX12_in 5 = .ok (.iload_n 0, 1) := by decide +kernel
theorem dX12_in_6 : decode cX12_in 6 = .ok (.iload_n 2, 1) := by decide +kernel
theorem dX12_in_7 : decode cX12_in 7 = .ok (.if_icmp .gt 7, 3) := by decide +kernel
theorem dX12_in_10 : decode cX12_in 10 = .ok (.iconst 1, 1) := by decide +kernel
theorem dX12_in_11 : decode cX12_in 11 = .ok (.goto 4, 3) := by decide +kernel
theorem dX12_in_14 : decode cX12_in 14 = .ok (.iconst 0, 1) := by decide +kernel
theorem dX12_in_15 : decode cX12_in 15 = .ok (.ireturn, 1) := by decide +kernel
theorem dX12_has_0 : decode cX12_has 0 = .ok (.iload_n 0, 1) := by decide +kernel
theorem dX12_has_1 : decode cX12_has 1 = .ok (.iload_n 1, 1) := by decide +kernel
theorem dX12_has_2 : decode cX12_has 2 = .ok (.ishr, 1) := by decide +kernel
theorem dX12_has_3 : decode cX12_has 3 = .ok (.iconst 1, 1) := by decide +kernel
theorem dX12_has_4 : decode cX12_has 4 = .ok (.iand, 1) := by decide +kernel
theorem dX12_has_5 : decode cX12_has 5 = .ok (.iconst 1, 1) := by decide +kernel
theorem dX12_has_6 : decode cX12_has 6 = .ok (.if_icmp .ne 7, 3) := by decide +kernel
theorem dX12_has_9 : decode cX12_has 9 = .ok (.iconst 1, 1) := by decide +kernel
theorem dX12_has_10 : decode cX12_has 10 = .ok (.goto 4, 3) := by decide +kernel
theorem dX12_has_13 : decode cX12_has 13 = .ok (.iconst 0, 1) := by decide +kernel
theorem dX12_has_14 : decode cX12_has 14 = .ok (.ireturn, 1) := by decide +kernel
theorem dX12_init_0 : decode cX12_init 0 = .ok (.aload_n 0, 1) := by decide +kernel
theorem dX12_init_1 : decode cX12_init 1 = .ok (.invokespecial 3, 3) := by decide +kernel
theorem dX12_init_4 : decode cX12_init 4 = .ok (.aload_n 0, 1) := by decide +kernel
theorem dX12_init_5 : decode cX12_init 5 = .ok (.sipush 240, 3) := by decide +kernel
theorem dX12_init_8 : decode cX12_init 8 = .ok (.newarray .int, 2) := by decide +kernel
theorem dX12_init_10 : decode cX12_init 10 = .ok (.putfield 9, 3) := by decide +kernel
theorem dX12_init_13 : decode cX12_init 13 = .ok (.aload_n 0, 1) := by decide +kernel
theorem dX12_init_14 : decode cX12_init 14 = .ok (.sipush 2600, 3) := by decide +kernel
theorem dX12_init_17 : decode cX12_init 17 = .ok (.newarray .int, 2) := by decide +kernel
theorem dX12_init_19 : decode cX12_init 19 = .ok (.putfield 13, 3) := by decide +kernel
theorem dX12_init_22 : decode cX12_init 22 = .ok (.aload_n 0, 1) := by decide +kernel
theorem dX12_init_23 : decode cX12_init 23 = .ok (.sipush 2600, 3) := by decide +kernel
theorem dX12_init_26 : decode cX12_init 26 = .ok (.newarray .int, 2) := by decide +kernel
theorem dX12_init_28 : decode cX12_init 28 = .ok (.putfield 16, 3) := by decide +kernel
theorem dX12_init_31 : decode cX12_init 31 = .ok (.aload_n 0, 1) := by decide +kernel
theorem dX12_init_32 : decode cX12_init 32 = .ok (.iconst 5, 1) := by decide +kernel
theorem dX12_init_33 : decode cX12_init 33 = .ok (.newarray .int, 2) := by decide +kernel
theorem dX12_init_35 : decode cX12_init 35 = .ok (.putfield 19, 3) := by decide +kernel
theorem dX12_init_38 : decode cX12_init 38 = .ok (.aload_n 0, 1) := by decide +kernel
theorem dX12_init_39 : decode cX12_init 39 = .ok (.iconst 5, 1) := by decide +kernel
theorem dX12_init_40 : decode cX12_init 40 = .ok (.newarray .int, 2) := by decide +kernel
theorem dX12_init_42 : decode cX12_init 42 = .ok (.putfield 22, 3) := by decide +kernel
theorem dX12_init_45 : decode cX12_init 45 = .ok (.aload_n 0, 1) := by decide +kernel
theorem dX12_init_46 : decode cX12_init 46 = .ok (.sipush 700, 3) := by decide +kernel
theorem dX12_init_49 : decode cX12_init 49 = .ok (.newarray .int, 2) := by decide +kernel
theorem dX12_init_51 : decode cX12_init 51 = .ok (.putfield 25, 3) := by decide +kernel
theorem dX12_init_54 : decode cX12_init 54 = .ok (.aload_n 0, 1) := by decide +kernel
theorem dX12_init_55 : decode cX12_init 55 = .ok (.sipush 700, 3) := by decide +kernel
theorem dX12_init_58 : decode cX12_init 58 = .ok (.newarray .int, 2) := by decide +kernel
theorem dX12_init_60 : decode cX12_init 60 = .ok (.putfield 28, 3) := by decide +kernel
theorem dX12_init_63 : decode cX12_init 63 = .ok (.aload_n 0, 1) := by decide +kernel
theorem dX12_init_64 : decode cX12_init 64 = .ok (.sipush 700, 3) := by decide +kernel
theorem dX12_init_67 : decode cX12_init 67 = .ok (.newarray .int, 2) := by decide +kernel
theorem dX12_init_69 : decode cX12_init 69 = .ok (.putfield 31, 3) := by decide +kernel
theorem dX12_init_72 : decode cX12_init 72 = .ok (.aload_n 0, 1) := by decide +kernel
theorem dX12_init_73 : decode cX12_init 73 = .ok (.bipush 6, 2) := by decide +kernel
theorem dX12_init_75 : decode cX12_init 75 = .ok (.newarray .int, 2) := by decide +kernel
theorem dX12_init_77 : decode cX12_init 77 = .ok (.putfield 34, 3) := by decide +kernel
theorem dX12_init_80 : decode cX12_init 80 = .ok (.aload_n 0, 1) := by decide +kernel
theorem dX12_init_81 : decode cX12_init 81 = .ok (.bipush 80, 2) := by decide +kernel
theorem dX12_init_83 : decode cX12_init 83 = .ok (.newarray .int, 2) := by decide +kernel
theorem dX12_init_85 : decode cX12_init 85 = .ok (.putfield 37, 3) := by decide +kernel
theorem dX12_init_88 : decode cX12_init 88 = .ok (.aload_n 0, 1) := by decide +kernel
theorem dX12_init_89 : decode cX12_init 89 = .ok (.iconst 4, 1) := by decide +kernel
theorem dX12_init_90 : decode cX12_init 90 = .ok (.newarray .int, 2) := by decide +kernel
theorem dX12_init_92 : decode cX12_init 92 = .ok (.putfield 40, 3) := by decide +kernel
theorem dX12_init_95 : decode cX12_init 95 = .ok (.aload_n 0, 1) := by decide +kernel
theorem dX12_init_96 : decode cX12_init 96 = .ok (.bipush 21, 2) := by decide +kernel
theorem dX12_init_98 : decode cX12_init 98 = .ok (.newarray .int, 2) := by decide +kernel
theorem dX12_init_100 : decode cX12_init 100 = .ok (.putfield 43, 3) := by decide +kernel
theorem dX12_init_103 : decode cX12_init 103 = .ok (.aload_n 0, 1) := by decide +kernel
theorem dX12_init_104 : decode cX12_init 104 = .ok (.iconst 4, 1) := by decide +kernel
theorem dX12_init_105 : decode cX12_init 105 = .ok (.newarray .int, 2) := by decide +kernel
theorem dX12_init_107 : decode cX12_init 107 = .ok (.putfield 46, 3) := by decide +kernel
theorem dX12_init_110 : decode cX12_init 110 = .ok (.aload_n 0, 1) := by decide +kernel
theorem dX12_init_111 : decode cX12_init 111 = .ok (.bipush 21, 2) := by decide +kernel
theorem dX12_init_113 : decode cX12_init 113 = .ok (.newarray .int, 2) := by decide +kernel
theorem dX12_init_115 : decode cX12_init 115 = .ok (.putfield 49, 3) := by decide +kernel
theorem dX12_init_118 : decode cX12_init 118 = .ok (.aload_n 0, 1) := by decide +kernel
theorem dX12_init_119 : decode cX12_init 119 = .ok (.sipush 214, 3) := by decide +kernel
theorem dX12_init_122 : decode cX12_init 122 = .ok (.newarray .int, 2) := by decide +kernel
theorem dX12_init_124 : decode cX12_init 124 = .ok (.putfield 52, 3) := by decide +kernel
theorem dX12_init_127 : decode cX12_init 127 = .ok (.aload_n 0, 1) := by decide +kernel
theorem dX12_init_128 : decode cX12_init 128 = .ok (.iconst 5, 1) := by decide +kernel
theorem dX12_init_129 : decode cX12_init 129 = .ok (.newarray .int, 2) := by decide +kernel
theorem dX12_init_131 : decode cX12_init 131 = .ok (.putfield 55, 3) := by decide +kernel
theorem dX12_init_134 : decode cX12_init 134 = .ok (.aload_n 0, 1) := by decide +kernel
theorem dX12_init_135 : decode cX12_init 135 = .ok (.iconst (-1), 1) := by decide +kernel
theorem dX12_init_136 : decode cX12_init 136 = .ok (.putfield 58, 3) := by decide +kernel
theorem dX12_init_139 : decode cX12_init 139 = .ok (.aload_n 0, 1) := by decide +kernel
theorem dX12_init_140 : decode cX12_init 140 = .ok (.iconst 1, 1) := by decide +kernel
theorem dX12_init_141 : decode cX12_init 141 = .ok (.putfield 62, 3) := by decide +kernel
theorem dX12_init_144 : decode cX12_init 144 = .ok (.aload_n 0, 1) := by decide +kernel
theorem dX12_init_145 : decode cX12_init 145 = .ok (.sipush 8560, 3) := by decide +kernel
theorem dX12_init_148 : decode cX12_init 148 = .ok (.newarray .int, 2) := by decide +kernel
theorem dX12_init_150 : decode cX12_init 150 = .ok (.putfield 65, 3) := by decide +kernel
theorem dX12_init_153 : decode cX12_init 153 = .ok (.aload_n 0, 1) := by decide +kernel
theorem dX12_init_154 : decode cX12_init 154 = .ok (.bipush 7, 2) := by decide +kernel
theorem dX12_init_156 : decode cX12_init 156 = .ok (.newarray .int, 2) := by decide +kernel
theorem dX12_init_158 : decode cX12_init 158 = .ok (.putfield 68, 3) := by decide +kernel
theorem dX12_init_161 : decode cX12_init 161 = .ok (.aload_n 0, 1) := by decide +kernel
theorem dX12_init_162 : decode cX12_init 162 = .ok (.bipush 99, 2) := by decide +kernel
theorem dX12_init_164 : decode cX12_init 164 = .ok (.newarray .int, 2) := by decide +kernel
theorem dX12_init_166 : decode cX12_init 166 = .ok (.putfield 71, 3) := by decide +kernel
theorem dX12_init_169 : decode cX12_init 169 = .ok (.aload_n 0, 1) := by decide +kernel
theorem dX12_init_170 : decode cX12_init 170 = .ok (.bipush 7, 2) := by decide +kernel
theorem dX12_init_172 : decode cX12_init 172 = .ok (.newarray .int, 2) := by decide +kernel
theorem dX12_init_174 : decode cX12_init 174 = .ok (.putfield 74, 3) := by decide +kernel
theorem dX12_init_177 : decode cX12_init 177 = .ok (.aload_n 0, 1) := by decide +kernel
theorem dX12_init_178 : decode cX12_init 178 = .ok (.bipush 7, 2) := by decide +kernel
theorem dX12_init_180 : decode cX12_init 180 = .ok (.newarray .int, 2) := by decide +kernel
theorem dX12_init_182 : decode cX12_init 182 = .ok (.putfield 77, 3) := by decide +kernel
theorem dX12_init_185 : decode cX12_init 185 = .ok (.aload_n 0, 1) := by decide +kernel
theorem dX12_init_186 : decode cX12_init 186 = .ok (.bipush 10, 2) := by decide +kernel
theorem dX12_init_188 : decode cX12_init 188 = .ok (.newarray .int, 2) := by decide +kernel
theorem dX12_init_190 : decode cX12_init 190 = .ok (.putfield 80, 3) := by decide +kernel
theorem dX12_init_193 : decode cX12_init 193 = .ok (.aload_n 0, 1) := by decide +kernel
theorem dX12_init_194 : decode cX12_init 194 = .ok (.bipush 10, 2) := by decide +kernel
theorem dX12_init_196 : decode cX12_init 196 = .ok (.newarray .int, 2) := by decide +kernel
theorem dX12_init_198 : decode cX12_init 198 = .ok (.putfield 83, 3) := by decide +kernel
theorem dX12_init_201 : decode cX12_init 201 = .ok (.aload_n 0, 1) := by decide +kernel
theorem dX12_init_202 : decode cX12_init 202 = .ok (.bipush 10, 2) := by decide +kernel
theorem dX12_init_204 : decode cX12_init 204 = .ok (.newarray .boolean, 2) := by decide +kernel
theorem dX12_init_206 : decode cX12_init 206 = .ok (.putfield 86, 3) := by decide +kernel
theorem dX12_init_209 : decode cX12_init 209 = .ok (.aload_n 0, 1) := by decide +kernel
theorem dX12_init_210 : decode cX12_init 210 = .ok (.sipush 214, 3) := by decide +kernel
theorem dX12_init_213 : decode cX12_init 213 = .ok (.newarray .int, 2) := by decide +kernel
theorem dX12_init_215 : decode cX12_init 215 = .ok (.putfield 90, 3) := by decide +kernel
theorem dX12_init_218 : decode cX12_init 218 = .ok (.return_, 1) := by decide +kernel
theorem dX12_thrown_0 : decode cX12_thrown 0 = .ok (.aload_n 0, 1) := by decide +kernel
theorem dX12_thrown_1 : decode cX12_thrown 1 = .ok (.getfield 93, 3) := by decide +kernel
theorem dX12_thrown_4 : decode cX12_thrown 4 = .ok (.ireturn, 1) := by decide +kernel
theorem dX12_byteOf_0 : decode cX12_byteOf 0 = .ok (.iload 5, 2) := by decide +kernel
theorem dX12_byteOf_2 : decode cX12_byteOf 2 = .ok (.iconst 4, 1) := by decide +kernel
theorem dX12_byteOf_3 : decode cX12_byteOf 3 = .ok (.if_icmp .ge 7, 3) := by decide +kernel
theorem dX12_byteOf_6 : decode cX12_byteOf 6 = .ok (.iload_n 0, 1) := by decide +kernel
theorem dX12_byteOf_7 : decode cX12_byteOf 7 = .ok (.goto 38, 3) := by decide +kernel
theorem dX12_byteOf_10 : decode cX12_byteOf 10 = .ok (.iload 5, 2) := by decide +kernel
theorem dX12_byteOf_12 : decode cX12_byteOf 12 = .ok (.bipush 8, 2) := by decide +kernel
theorem dX12_byteOf_14 : decode cX12_byteOf 14 = .ok (.if_icmp .ge 7, 3) := by decide +kernel
theorem dX12_byteOf_17 : decode cX12_byteOf 17 = .ok (.iload_n 1, 1) := by decide +kernel
theorem dX12_byteOf_18 : decode cX12_byteOf 18 = .ok (.goto 27, 3) := by decide +kernel
theorem dX12_byteOf_21 : decode cX12_byteOf 21 = .ok (.iload 5, 2) := by decide +kernel
theorem dX12_byteOf_23 : decode cX12_byteOf 23 = .ok (.bipush 12, 2) := by decide +kernel
theorem dX12_byteOf_25 : decode cX12_byteOf 25 = .ok (.if_icmp .ge 7, 3) := by decide +kernel
theorem dX12_byteOf_28 : decode cX12_byteOf 28 = .ok (.iload_n 2, 1) := by decide +kernel
theorem dX12_byteOf_29 : decode cX12_byteOf 29 = .ok (.goto 16, 3) := by decide +kernel
theorem dX12_byteOf_32 : decode cX12_byteOf 32 = .ok (.iload 5, 2) := by decide +kernel
theorem dX12_byteOf_34 : decode cX12_byteOf 34 = .ok (.bipush 16, 2) := by decide +kernel
theorem dX12_byteOf_36 : decode cX12_byteOf 36 = .ok (.if_icmp .ge 7, 3) := by decide +kernel
theorem dX12_byteOf_39 : decode cX12_byteOf 39 = .ok (.iload_n 3, 1) := by decide +kernel
theorem dX12_byteOf_40 : decode cX12_byteOf 40 = .ok (.goto 5, 3) := by decide +kernel
theorem dX12_byteOf_43 : decode cX12_byteOf 43 = .ok (.iload 4, 2) := by decide +kernel
theorem dX12_byteOf_45 : decode cX12_byteOf 45 = .ok (.istore 6, 2) := by decide +kernel
theorem dX12_byteOf_47 : decode cX12_byteOf 47 = .ok (.iload 6, 2) := by decide +kernel
theorem dX12_byteOf_49 : decode cX12_byteOf 49 = .ok (.bipush 24, 2) := by decide +kernel
theorem dX12_byteOf_51 : decode cX12_byteOf 51 = .ok (.bipush 8, 2) := by decide +kernel
theorem dX12_byteOf_53 : decode cX12_byteOf 53 = .ok (.iload 5, 2) := by decide +kernel
theorem dX12_byteOf_55 : decode cX12_byteOf 55 = .ok (.iconst 4, 1) := by decide +kernel
theorem dX12_byteOf_56 : decode cX12_byteOf 56 = .ok (.irem, 1) := by decide +kernel
theorem dX12_byteOf_57 : decode cX12_byteOf 57 = .ok (.imul, 1) := by decide +kernel
theorem dX12_byteOf_58 : decode cX12_byteOf 58 = .ok (.isub, 1) := by decide +kernel
theorem dX12_byteOf_59 : decode cX12_byteOf 59 = .ok (.ishr, 1) := by decide +kernel
theorem dX12_byteOf_60 : decode cX12_byteOf 60 = .ok (.sipush 255, 3) := by decide +kernel
theorem dX12_byteOf_63 : decode cX12_byteOf 63 = .ok (.iand, 1) := by decide +kernel
theorem dX12_byteOf_64 : decode cX12_byteOf 64 = .ok (.ireturn, 1) := by decide +kernel
theorem dX12_feed_0 : decode cX12_feed 0 = .ok (.iconst 0, 1) := by decide +kernel
theorem dX12_feed_1 : decode cX12_feed 1 = .ok (.istore 6, 2) := by decide +kernel
theorem dX12_feed_3 : decode cX12_feed 3 = .ok (.iconst 0, 1) := by decide +kernel
theorem dX12_feed_4 : decode cX12_feed 4 = .ok (.istore 7, 2) := by decide +kernel
theorem dX12_feed_6 : decode cX12_feed 6 = .ok (.iload 7, 2) := by decide +kernel
theorem dX12_feed_8 : decode cX12_feed 8 = .ok (.bipush 20, 2) := by decide +kernel
theorem dX12_feed_10 : decode cX12_feed 10 = .ok (.if_icmp .ge 34, 3) := by decide +kernel
theorem dX12_feed_13 : decode cX12_feed 13 = .ok (.iload 6, 2) := by decide +kernel
theorem dX12_feed_15 : decode cX12_feed 15 = .ok (.iload_n 1, 1) := by decide +kernel
theorem dX12_feed_16 : decode cX12_feed 16 = .ok (.iload_n 2, 1) := by decide +kernel
theorem dX12_feed_17 : decode cX12_feed 17 = .ok (.iload_n 3, 1) := by decide +kernel
theorem dX12_feed_18 : decode cX12_feed 18 = .ok (.iload 4, 2) := by decide +kernel
theorem dX12_feed_20 : decode cX12_feed 20 = .ok (.iload 5, 2) := by decide +kernel
theorem dX12_feed_22 : decode cX12_feed 22 = .ok (.iload 7, 2) := by decide +kernel
theorem dX12_feed_24 : decode cX12_feed 24 = .ok (.invokestatic 96, 3) := by decide +kernel
theorem dX12_feed_27 : decode cX12_feed 27 = .ok (.ifCond .eq 7, 3) := by decide +kernel
theorem dX12_feed_30 : decode cX12_feed 30 = .ok (.iconst 1, 1) := by decide +kernel
theorem dX12_feed_31 : decode cX12_feed 31 = .ok (.goto 4, 3) := by decide +kernel
theorem dX12_feed_34 : decode cX12_feed 34 = .ok (.iconst 0, 1) := by decide +kernel
theorem dX12_feed_35 : decode cX12_feed 35 = .ok (.iadd, 1) := by decide +kernel
theorem dX12_feed_36 : decode cX12_feed 36 = .ok (.istore 6, 2) := by decide +kernel
theorem dX12_feed_38 : decode cX12_feed 38 = .ok (.iinc 7 1, 3) := by decide +kernel
theorem dX12_feed_41 : decode cX12_feed 41 = .ok (.goto (-35), 3) := by decide +kernel
theorem dX12_feed_44 : decode cX12_feed 44 = .ok (.aload_n 0, 1) := by decide +kernel
theorem dX12_feed_45 : decode cX12_feed 45 = .ok (.getfield 100, 3) := by decide +kernel
theorem dX12_feed_48 : decode cX12_feed 48 = .ok (.iload 6, 2) := by decide +kernel
theorem dX12_feed_50 : decode cX12_feed 50 = .ok (.iadd, 1) := by decide +kernel
theorem dX12_feed_51 : decode cX12_feed 51 = .ok (.sipush 240, 3) := by decide +kernel
theorem dX12_feed_54 : decode cX12_feed 54 = .ok (.if_icmp .le 5, 3) := by decide +kernel
theorem dX12_feed_57 : decode cX12_feed 57 = .ok (.iconst (-1), 1) := by decide +kernel
theorem dX12_feed_58 : decode cX12_feed 58 = .ok (.ireturn, 1) := by decide +kernel
theorem dX12_feed_59 : decode cX12_feed 59 = .ok (.iconst 0, 1) := by decide +kernel
theorem dX12_feed_60 : decode cX12_feed 60 = .ok (.istore 7, 2) := by decide +kernel
theorem dX12_feed_62 : decode cX12_feed 62 = .ok (.iload 7, 2) := by decide +kernel
theorem dX12_feed_64 : decode cX12_feed 64 = .ok (.bipush 20, 2) := by decide +kernel
theorem dX12_feed_66 : decode cX12_feed 66 = .ok (.if_icmp .ge 49, 3) := by decide +kernel
theorem dX12_feed_69 : decode cX12_feed 69 = .ok (.iload_n 1, 1) := by decide +kernel
theorem dX12_feed_70 : decode cX12_feed 70 = .ok (.iload_n 2, 1) := by decide +kernel
theorem dX12_feed_71 : decode cX12_feed 71 = .ok (.iload_n 3, 1) := by decide +kernel
theorem dX12_feed_72 : decode cX12_feed 72 = .ok (.iload 4, 2) := by decide +kernel
theorem dX12_feed_74 : decode cX12_feed 74 = .ok (.iload 5, 2) := by decide +kernel
theorem dX12_feed_76 : decode cX12_feed 76 = .ok (.iload 7, 2) := by decide +kernel
theorem dX12_feed_78 : decode cX12_feed 78 = .ok (.invokestatic 96, 3) := by decide +kernel
theorem dX12_feed_81 : decode cX12_feed 81 = .ok (.istore 8, 2) := by decide +kernel
theorem dX12_feed_83 : decode cX12_feed 83 = .ok (.iload 8, 2) := by decide +kernel
theorem dX12_feed_85 : decode cX12_feed 85 = .ok (.ifCond .eq 24, 3) := by decide +kernel
theorem dX12_feed_88 : decode cX12_feed 88 = .ok (.aload_n 0, 1) := by decide +kernel
theorem dX12_feed_89 : decode cX12_feed 89 = .ok (.getfield 9, 3) := by decide +kernel
theorem dX12_feed_92 : decode cX12_feed 92 = .ok (.aload_n 0, 1) := by decide +kernel
theorem dX12_feed_93 : decode cX12_feed 93 = .ok (.getfield 100, 3) := by decide +kernel
theorem dX12_feed_96 : decode cX12_feed 96 = .ok (.iload 8, 2) := by decide +kernel
theorem dX12_feed_98 : decode cX12_feed 98 = .ok (.iastore, 1) := by decide +kernel
theorem dX12_feed_99 : decode cX12_feed 99 = .ok (.aload_n 0, 1) := by decide +kernel
theorem dX12_feed_100 : decode cX12_feed 100 = .ok (.dup, 1) := by decide +kernel
theorem dX12_feed_101 : decode cX12_feed 101 = .ok (.getfield 100, 3) := by decide +kernel
theorem dX12_feed_104 : decode cX12_feed 104 = .ok (.iconst 1, 1) := by decide +kernel
theorem dX12_feed_105 : decode cX12_feed 105 = .ok (.iadd, 1) := by decide +kernel
theorem dX12_feed_106 : decode cX12_feed 106 = .ok (.putfield 100, 3) := by decide +kernel
theorem dX12_feed_109 : decode cX12_feed 109 = .ok (.iinc 7 1, 3) := by decide +kernel
theorem dX12_feed_112 : decode cX12_feed 112 = .ok (.goto (-50), 3) := by decide +kernel
theorem dX12_feed_115 : decode cX12_feed 115 = .ok (.aload_n 0, 1) := by decide +kernel
theorem dX12_feed_116 : decode cX12_feed 116 = .ok (.getfield 100, 3) := by decide +kernel
theorem dX12_feed_119 : decode cX12_feed 119 = .ok (.ireturn, 1) := by decide +kernel
theorem dX12_end_0 : decode cX12_end 0 = .ok (.iload_n 1, 1) := by decide +kernel
theorem dX12_end_1 : decode cX12_end 1 = .ok (.ifCond .lt 11, 3) := by decide +kernel
theorem dX12_end_4 : decode cX12_end 4 = .ok (.iload_n 1, 1) := by decide +kernel
theorem dX12_end_5 : decode cX12_end 5 = .ok (.aload_n 0, 1) := by decide +kernel
theorem dX12_end_6 : decode cX12_end 6 = .ok (.getfield 100, 3) := by decide +kernel
theorem dX12_end_9 : decode cX12_end 9 = .ok (.if_icmp .le 5, 3) := by decide +kernel
theorem dX12_end_12 : decode cX12_end 12 = .ok (.iconst 0, 1) := by decide +kernel
theorem dX12_end_13 : decode cX12_end 13 = .ok (.ireturn, 1) := by decide +kernel
theorem dX12_end_14 : decode cX12_end 14 = .ok (.aload_n 0, 1) := by decide +kernel
theorem dX12_end_15 : decode cX12_end 15 = .ok (.iload_n 1, 1) := by decide +kernel
theorem dX12_end_16 : decode cX12_end 16 = .ok (.putfield 100, 3) := by decide +kernel
theorem dX12_end_19 : decode cX12_end 19 = .ok (.iconst 1, 1) := by decide +kernel
theorem dX12_end_20 : decode cX12_end 20 = .ok (.ireturn, 1) := by decide +kernel
theorem dX12_here_0 : decode cX12_here 0 = .ok (.aload_n 0, 1) := by decide +kernel
theorem dX12_here_1 : decode cX12_here 1 = .ok (.getfield 103, 3) := by decide +kernel
theorem dX12_here_4 : decode cX12_here 4 = .ok (.aload_n 0, 1) := by decide +kernel
theorem dX12_here_5 : decode cX12_here 5 = .ok (.getfield 100, 3) := by decide +kernel
theorem dX12_here_8 : decode cX12_here 8 = .ok (.if_icmp .ge 15, 3) := by decide +kernel
theorem dX12_here_11 : decode cX12_here 11 = .ok (.aload_n 0, 1) := by decide +kernel
theorem dX12_here_12 : decode cX12_here 12 = .ok (.getfield 9, 3) := by decide +kernel
theorem dX12_here_15 : decode cX12_here 15 = .ok (.aload_n 0, 1) := by decide +kernel
theorem dX12_here_16 : decode cX12_here 16 = .ok (.getfield 103, 3) := by decide +kernel
theorem dX12_here_19 : decode cX12_here 19 = .ok (.iaload, 1) := by decide +kernel
theorem dX12_here_20 : decode cX12_here 20 = .ok (.goto 4, 3) := by decide +kernel
theorem dX12_here_23 : decode cX12_here 23 = .ok (.iconst (-1), 1) := by decide +kernel
theorem dX12_here_24 : decode cX12_here 24 = .ok (.ireturn, 1) := by decide +kernel
theorem dX12_look_0 : decode cX12_look 0 = .ok (.aload_n 0, 1) := by decide +kernel
theorem dX12_look_1 : decode cX12_look 1 = .ok (.invokevirtual 106, 3) := by decide +kernel
theorem dX12_look_4 : decode cX12_look 4 = .ok (.bipush 32, 2) := by decide +kernel
theorem dX12_look_6 : decode cX12_look 6 = .ok (.if_icmp .ne 16, 3) := by decide +kernel
theorem dX12_look_9 : decode cX12_look 9 = .ok (.aload_n 0, 1) := by decide +kernel
theorem dX12_look_10 : decode cX12_look 10 = .ok (.dup, 1) := by decide +kernel
theorem dX12_look_11 : decode cX12_look 11 = .ok (.getfield 103, 3) := by decide +kernel
theorem dX12_look_14 : decode cX12_look 14 = .ok (.iconst 1, 1) := by decide +kernel
theorem dX12_look_15 : decode cX12_look 15 = .ok (.iadd, 1) := by decide +kernel
theorem dX12_look_16 : decode cX12_look 16 = .ok (.putfield 103, 3) := by decide +kernel
theorem dX12_look_19 : decode cX12_look 19 = .ok (.goto (-19), 3) := by decide +kernel
theorem dX12_look_22 : decode cX12_look 22 = .ok (.aload_n 0, 1) := by decide +kernel
theorem dX12_look_23 : decode cX12_look 23 = .ok (.invokevirtual 106, 3) := by decide +kernel
theorem dX12_look_26 : decode cX12_look 26 = .ok (.ireturn, 1) := by decide +kernel
theorem dX12_bad_0 : decode cX12_bad 0 = .ok (.aload_n 0, 1) := by decide +kernel
theorem dX12_bad_1 : decode cX12_bad 1 = .ok (.aload_n 0, 1) := by decide +kernel
theorem dX12_bad_2 : decode cX12_bad 2 = .ok (.getfield 110, 3) := by decide +kernel
theorem dX12_bad_5 : decode cX12_bad 5 = .ok (.iconst (-1), 1) := by decide +kernel
theorem dX12_bad_6 : decode cX12_bad 6 = .ok (.if_icmp .ne 10, 3) := by decide +kernel
theorem dX12_bad_9 : decode cX12_bad 9 = .ok (.aload_n 0, 1) := by decide +kernel
theorem dX12_bad_10 : decode cX12_bad 10 = .ok (.getfield 103, 3) := by decide +kernel
theorem dX12_bad_13 : decode cX12_bad 13 = .ok (.goto 7, 3) := by decide +kernel
theorem dX12_bad_16 : decode cX12_bad 16 = .ok (.aload_n 0, 1) := by decide +kernel
theorem dX12_bad_17 : decode cX12_bad 17 = .ok (.getfield 110, 3) := by decide +kernel
theorem dX12_bad_20 : decode cX12_bad 20 = .ok (.putfield 110, 3) := by decide +kernel
theorem dX12_bad_23 : decode cX12_bad 23 = .ok (.return_, 1) := by decide +kernel
theorem dX12_isDigit_0 : decode cX12_isDigit 0 = .ok (.iload_n 0, 1) := by decide +kernel
theorem dX12_isDigit_1 : decode cX12_isDigit 1 = .ok (.bipush 48, 2) := by decide +kernel
theorem dX12_isDigit_3 : decode cX12_isDigit 3 = .ok (.if_icmp .lt 13, 3) := by decide +kernel
theorem dX12_isDigit_6 : decode cX12_isDigit 6 = .ok (.iload_n 0, 1) := by decide +kernel
theorem dX12_isDigit_7 : decode cX12_isDigit 7 = .ok (.bipush 57, 2) := by decide +kernel
theorem dX12_isDigit_9 : decode cX12_isDigit 9 = .ok (.if_icmp .gt 7, 3) := by decide +kernel
theorem dX12_isDigit_12 : decode cX12_isDigit 12 = .ok (.iconst 1, 1) := by decide +kernel
theorem dX12_isDigit_13 : decode cX12_isDigit 13 = .ok (.goto 4, 3) := by decide +kernel
theorem dX12_isDigit_16 : decode cX12_isDigit 16 = .ok (.iconst 0, 1) := by decide +kernel
theorem dX12_isDigit_17 : decode cX12_isDigit 17 = .ok (.ireturn, 1) := by decide +kernel
theorem dX12_put_0 : decode cX12_put 0 = .ok (.aload_n 0, 1) := by decide +kernel
theorem dX12_put_1 : decode cX12_put 1 = .ok (.getfield 13, 3) := by decide +kernel
theorem dX12_put_4 : decode cX12_put 4 = .ok (.sipush 520, 3) := by decide +kernel
theorem dX12_put_7 : decode cX12_put 7 = .ok (.aload_n 0, 1) := by decide +kernel
theorem dX12_put_8 : decode cX12_put 8 = .ok (.getfield 113, 3) := by decide +kernel
theorem dX12_put_11 : decode cX12_put 11 = .ok (.imul, 1) := by decide +kernel
theorem dX12_put_12 : decode cX12_put 12 = .ok (.aload_n 0, 1) := by decide +kernel
theorem dX12_put_13 : decode cX12_put 13 = .ok (.getfield 19, 3) := by decide +kernel
theorem dX12_put_16 : decode cX12_put 16 = .ok (.aload_n 0, 1) := by decide +kernel
theorem dX12_put_17 : decode cX12_put 17 = .ok (.getfield 113, 3) := by decide +kernel
theorem dX12_put_20 : decode cX12_put 20 = .ok (.iaload, 1) := by decide +kernel
theorem dX12_put_21 : decode cX12_put 21 = .ok (.iadd, 1) := by decide +kernel
theorem dX12_put_22 : decode cX12_put 22 = .ok (.iload_n 1, 1) := by decide +kernel
theorem dX12_put_23 : decode cX12_put 23 = .ok (.iastore, 1) := by decide +kernel
theorem dX12_put_24 : decode cX12_put 24 = .ok (.aload_n 0, 1) := by decide +kernel
theorem dX12_put_25 : decode cX12_put 25 = .ok (.getfield 16, 3) := by decide +kernel
theorem dX12_put_28 : decode cX12_put 28 = .ok (.sipush 520, 3) := by decide +kernel
theorem dX12_put_31 : decode cX12_put 31 = .ok (.aload_n 0, 1) := by decide +kernel
theorem dX12_put_32 : decode cX12_put 32 = .ok (.getfield 113, 3) := by decide +kernel
theorem dX12_put_35 : decode cX12_put 35 = .ok (.imul, 1) := by decide +kernel
theorem dX12_put_36 : decode cX12_put 36 = .ok (.aload_n 0, 1) := by decide +kernel
theorem dX12_put_37 : decode cX12_put 37 = .ok (.getfield 19, 3) := by decide +kernel
theorem dX12_put_40 : decode cX12_put 40 = .ok (.aload_n 0, 1) := by decide +kernel
theorem dX12_put_41 : decode cX12_put 41 = .ok (.getfield 113, 3) := by decide +kernel
theorem dX12_put_44 : decode cX12_put 44 = .ok (.iaload, 1) := by decide +kernel
theorem dX12_put_45 : decode cX12_put 45 = .ok (.iadd, 1) := by decide +kernel
theorem dX12_put_46 : decode cX12_put 46 = .ok (.iload_n 2, 1) := by decide +kernel
theorem dX12_put_47 : decode cX12_put 47 = .ok (.iastore, 1) := by decide +kernel
theorem dX12_put_48 : decode cX12_put 48 = .ok (.aload_n 0, 1) := by decide +kernel
theorem dX12_put_49 : decode cX12_put 49 = .ok (.getfield 19, 3) := by decide +kernel
theorem dX12_put_52 : decode cX12_put 52 = .ok (.aload_n 0, 1) := by decide +kernel
theorem dX12_put_53 : decode cX12_put 53 = .ok (.getfield 113, 3) := by decide +kernel
theorem dX12_put_56 : decode cX12_put 56 = .ok (.dup2, 1) := by decide +kernel
theorem dX12_put_57 : decode cX12_put 57 = .ok (.iaload, 1) := by decide +kernel
theorem dX12_put_58 : decode cX12_put 58 = .ok (.iconst 1, 1) := by decide +kernel
theorem dX12_put_59 : decode cX12_put 59 = .ok (.iadd, 1) := by decide +kernel
theorem dX12_put_60 : decode cX12_put 60 = .ok (.iastore, 1) := by decide +kernel
theorem dX12_put_61 : decode cX12_put 61 = .ok (.return_, 1) := by decide +kernel
theorem dX12_letterOf_0 : decode cX12_letterOf 0 = .ok (.iload_n 0, 1) := by decide +kernel
theorem dX12_letterOf_1 : decode cX12_letterOf 1 = .ok (.bipush 99, 2) := by decide +kernel
theorem dX12_letterOf_3 : decode cX12_letterOf 3 = .ok (.if_icmp .ne 7, 3) := by decide +kernel
theorem dX12_letterOf_6 : decode cX12_letterOf 6 = .ok (.iconst 0, 1) := by decide +kernel
theorem dX12_letterOf_7 : decode cX12_letterOf 7 = .ok (.goto 54, 3) := by decide +kernel
theorem dX12_letterOf_10 : decode cX12_letterOf 10 = .ok (.iload_n 0, 1) := by decide +kernel
theorem dX12_letterOf_11 : decode cX12_letterOf 11 = .ok (.bipush 112, 2) := by decide +kernel
theorem dX12_letterOf_13 : decode cX12_letterOf 13 = .ok (.if_icmp .ne 7, 3) := by decide +kernel
theorem dX12_letterOf_16 : decode cX12_letterOf 16 = .ok (.iconst 1, 1) := by decide +kernel
theorem dX12_letterOf_17 : decode cX12_letterOf 17 = .ok (.goto 44, 3) := by decide +kernel
theorem dX12_letterOf_20 : decode cX12_letterOf 20 = .ok (.iload_n 0, 1) := by decide +kernel
theorem dX12_letterOf_21 : decode cX12_letterOf 21 = .ok (.bipush 108, 2) := by decide +kernel
theorem dX12_letterOf_23 : decode cX12_letterOf 23 = .ok (.if_icmp .ne 7, 3) := by decide +kernel
theorem dX12_letterOf_26 : decode cX12_letterOf 26 = .ok (.iconst 2, 1) := by decide +kernel
theorem dX12_letterOf_27 : decode cX12_letterOf 27 = .ok (.goto 34, 3) := by decide +kernel
theorem dX12_letterOf_30 : decode cX12_letterOf 30 = .ok (.iload_n 0, 1) := by decide +kernel
theorem dX12_letterOf_31 : decode cX12_letterOf 31 = .ok (.bipush 101, 2) := by decide +kernel
theorem dX12_letterOf_33 : decode cX12_letterOf 33 = .ok (.if_icmp .ne 7, 3) := by decide +kernel
theorem dX12_letterOf_36 : decode cX12_letterOf 36 = .ok (.iconst 3, 1) := by decide +kernel
theorem dX12_letterOf_37 : decode cX12_letterOf 37 = .ok (.goto 24, 3) := by decide +kernel
theorem dX12_letterOf_40 : decode cX12_letterOf 40 = .ok (.iload_n 0, 1) := by decide +kernel
theorem dX12_letterOf_41 : decode cX12_letterOf 41 = .ok (.bipush 110, 2) := by decide +kernel
theorem dX12_letterOf_43 : decode cX12_letterOf 43 = .ok (.if_icmp .ne 7, 3) := by decide +kernel
theorem dX12_letterOf_46 : decode cX12_letterOf 46 = .ok (.iconst 4, 1) := by decide +kernel
theorem dX12_letterOf_47 : decode cX12_letterOf 47 = .ok (.goto 14, 3) := by decide +kernel
theorem dX12_letterOf_50 : decode cX12_letterOf 50 = .ok (.iload_n 0, 1) := by decide +kernel
theorem dX12_letterOf_51 : decode cX12_letterOf 51 = .ok (.bipush 116, 2) := by decide +kernel
theorem dX12_letterOf_53 : decode cX12_letterOf 53 = .ok (.if_icmp .ne 7, 3) := by decide +kernel
theorem dX12_letterOf_56 : decode cX12_letterOf 56 = .ok (.iconst 5, 1) := by decide +kernel
theorem dX12_letterOf_57 : decode cX12_letterOf 57 = .ok (.goto 4, 3) := by decide +kernel
theorem dX12_letterOf_60 : decode cX12_letterOf 60 = .ok (.iconst (-1), 1) := by decide +kernel
theorem dX12_letterOf_61 : decode cX12_letterOf 61 = .ok (.ireturn, 1) := by decide +kernel
theorem dX12_opens_0 : decode cX12_opens 0 = .ok (.aload_n 0, 1) := by decide +kernel
theorem dX12_opens_1 : decode cX12_opens 1 = .ok (.getfield 116, 3) := by decide +kernel
theorem dX12_opens_4 : decode cX12_opens 4 = .ok (.bipush 6, 2) := by decide +kernel
theorem dX12_opens_6 : decode cX12_opens 6 = .ok (.if_icmp .ne 7, 3) := by decide +kernel
theorem dX12_opens_9 : decode cX12_opens 9 = .ok (.aload_n 0, 1) := by decide +kernel
theorem dX12_opens_10 : decode cX12_opens 10 = .ok (.invokevirtual 119, 3) := by decide +kernel
theorem dX12_opens_13 : decode cX12_opens 13 = .ok (.aload_n 0, 1) := by decide +kernel
theorem dX12_opens_14 : decode cX12_opens 14 = .ok (.dup, 1) := by decide +kernel
theorem dX12_opens_15 : decode cX12_opens 15 = .ok (.getfield 116, 3) := by decide +kernel
theorem dX12_opens_18 : decode cX12_opens 18 = .ok (.iconst 1, 1) := by decide +kernel
theorem dX12_opens_19 : decode cX12_opens 19 = .ok (.iadd, 1) := by decide +kernel
theorem dX12_opens_20 : decode cX12_opens 20 = .ok (.putfield 116, 3) := by decide +kernel
theorem dX12_opens_23 : decode cX12_opens 23 = .ok (.aload_n 0, 1) := by decide +kernel
theorem dX12_opens_24 : decode cX12_opens 24 = .ok (.dup, 1) := by decide +kernel
theorem dX12_opens_25 : decode cX12_opens 25 = .ok (.getfield 103, 3) := by decide +kernel
theorem dX12_opens_28 : decode cX12_opens 28 = .ok (.iconst 1, 1) := by decide +kernel
theorem dX12_opens_29 : decode cX12_opens 29 = .ok (.iadd, 1) := by decide +kernel
theorem dX12_opens_30 : decode cX12_opens 30 = .ok (.putfield 103, 3) := by decide +kernel
theorem dX12_opens_33 : decode cX12_opens 33 = .ok (.return_, 1) := by decide +kernel
theorem dX12_closes_0 : decode cX12_closes 0 = .ok (.aload_n 0, 1) := by decide +kernel
theorem dX12_closes_1 : decode cX12_closes 1 = .ok (.getfield 110, 3) := by decide +kernel
theorem dX12_closes_4 : decode cX12_closes 4 = .ok (.iconst (-1), 1) := by decide +kernel
theorem dX12_closes_5 : decode cX12_closes 5 = .ok (.if_icmp .ne 15, 3) := by decide +kernel
theorem dX12_closes_8 : decode cX12_closes 8 = .ok (.aload_n 0, 1) := by decide +kernel
theorem dX12_closes_9 : decode cX12_closes 9 = .ok (.invokevirtual 122, 3) := by decide +kernel
theorem dX12_closes_12 : decode cX12_closes 12 = .ok (.iload_n 1, 1) := by decide +kernel
theorem dX12_closes_13 : decode cX12_closes 13 = .ok (.if_icmp .eq 7, 3) := by decide +kernel
theorem dX12_closes_16 : decode cX12_closes 16 = .ok (.aload_n 0, 1) := by decide +kernel
theorem dX12_closes_17 : decode cX12_closes 17 = .ok (.invokevirtual 119, 3) := by decide +kernel
theorem dX12_closes_20 : decode cX12_closes 20 = .ok (.aload_n 0, 1) := by decide +kernel
theorem dX12_closes_21 : decode cX12_closes 21 = .ok (.dup, 1) := by decide +kernel
theorem dX12_closes_22 : decode cX12_closes 22 = .ok (.getfield 103, 3) := by decide +kernel
theorem dX12_closes_25 : decode cX12_closes 25 = .ok (.iconst 1, 1) := by decide +kernel
theorem dX12_closes_26 : decode cX12_closes 26 = .ok (.iadd, 1) := by decide +kernel
theorem dX12_closes_27 : decode cX12_closes 27 = .ok (.putfield 103, 3) := by decide +kernel
theorem dX12_closes_30 : decode cX12_closes 30 = .ok (.aload_n 0, 1) := by decide +kernel
theorem dX12_closes_31 : decode cX12_closes 31 = .ok (.dup, 1) := by decide +kernel
theorem dX12_closes_32 : decode cX12_closes 32 = .ok (.getfield 116, 3) := by decide +kernel
theorem dX12_closes_35 : decode cX12_closes 35 = .ok (.iconst 1, 1) := by decide +kernel
theorem dX12_closes_36 : decode cX12_closes 36 = .ok (.isub, 1) := by decide +kernel
theorem dX12_closes_37 : decode cX12_closes 37 = .ok (.putfield 116, 3) := by decide +kernel
theorem dX12_closes_40 : decode cX12_closes 40 = .ok (.return_, 1) := by decide +kernel
theorem dX12_plainNumber_0 : decode cX12_plainNumber 0 = .ok (.iconst 0, 1) := by decide +kernel
theorem dX12_plainNumber_1 : decode cX12_plainNumber 1 = .ok (.istore_n 1, 1) := by decide +kernel
theorem dX12_plainNumber_2 : decode cX12_plainNumber 2 = .ok (.iconst 0, 1) := by decide +kernel
theorem dX12_plainNumber_3 : decode cX12_plainNumber 3 = .ok (.istore_n 2, 1) := by decide +kernel
theorem dX12_plainNumber_4 : decode cX12_plainNumber 4 = .ok (.iload_n 2, 1) := by decide +kernel
theorem dX12_plainNumber_5 : decode cX12_plainNumber 5 = .ok (.iconst 4, 1) := by decide +kernel
theorem dX12_plainNumber_6 : decode cX12_plainNumber 6 = .ok (.if_icmp .ge 42, 3) := by decide +kernel
theorem dX12_plainNumber_9 : decode cX12_plainNumber 9 = .ok (.aload_n 0, 1) := by decide +kernel
theorem dX12_plainNumber_10 : decode cX12_plainNumber 10 = .ok (.invokevirtual 106, 3) := by decide +kernel
theorem dX12_plainNumber_13 : decode cX12_plainNumber 13 = .ok (.invokestatic 125, 3) := by decide +kernel
theorem dX12_plainNumber_16 : decode cX12_plainNumber 16 = .ok (.ifCond .eq 32, 3) := by decide +kernel
theorem dX12_plainNumber_19 : decode cX12_plainNumber 19 = .ok (.bipush 10, 2) := by decide +kernel
theorem dX12_plainNumber_21 : decode cX12_plainNumber 21 = .ok (.iload_n 1, 1) := by decide +kernel
theorem dX12_plainNumber_22 : decode cX12_plainNumber 22 = .ok (.imul, 1) := by decide +kernel
theorem dX12_plainNumber_23 : decode cX12_plainNumber 23 = .ok (.aload_n 0, 1) := by decide +kernel
theorem dX12_plainNumber_24 : decode cX12_plainNumber 24 = .ok (.invokevirtual 106, 3) := by decide +kernel
theorem dX12_plainNumber_27 : decode cX12_plainNumber 27 = .ok (.iadd, 1) := by decide +kernel
theorem dX12_plainNumber_28 : decode cX12_plainNumber 28 = .ok (.bipush 48, 2) := by decide +kernel
theorem dX12_plainNumber_30 : decode cX12_plainNumber 30 = .ok (.isub, 1) := by decide +kernel
theorem dX12_plainNumber_31 : decode cX12_plainNumber 31 = .ok (.istore_n 1, 1) := by decide +kernel
theorem dX12_plainNumber_32 : decode cX12_plainNumber 32 = .ok (.aload_n 0, 1) := by decide +kernel
theorem dX12_plainNumber_33 : decode cX12_plainNumber 33 = .ok (.dup, 1) := by decide +kernel
theorem dX12_plainNumber_34 : decode cX12_plainNumber 34 = .ok (.getfield 103, 3) := by decide +kernel
theorem dX12_plainNumber_37 : decode cX12_plainNumber 37 = .ok (.iconst 1, 1) := by decide +kernel
theorem dX12_plainNumber_38 : decode cX12_plainNumber 38 = .ok (.iadd, 1) := by decide +kernel
theorem dX12_plainNumber_39 : decode cX12_plainNumber 39 = .ok (.putfield 103, 3) := by decide +kernel
theorem dX12_plainNumber_42 : decode cX12_plainNumber 42 = .ok (.iinc 2 1, 3) := by decide +kernel
theorem dX12_plainNumber_45 : decode cX12_plainNumber 45 = .ok (.goto (-41), 3) := by decide +kernel
theorem dX12_plainNumber_48 : decode cX12_plainNumber 48 = .ok (.aload_n 0, 1) := by decide +kernel
theorem dX12_plainNumber_49 : decode cX12_plainNumber 49 = .ok (.invokevirtual 106, 3) := by decide +kernel
theorem dX12_plainNumber_52 : decode cX12_plainNumber 52 = .ok (.invokestatic 125, 3) := by decide +kernel
theorem dX12_plainNumber_55 : decode cX12_plainNumber 55 = .ok (.ifCond .eq 7, 3) := by decide +kernel
theorem dX12_plainNumber_58 : decode cX12_plainNumber 58 = .ok (.aload_n 0, 1) := by decide +kernel
theorem dX12_plainNumber_59 : decode cX12_plainNumber 59 = .ok (.invokevirtual 119, 3) := by decide +kernel
theorem dX12_plainNumber_62 : decode cX12_plainNumber 62 = .ok (.iload_n 1, 1) := by decide +kernel
theorem dX12_plainNumber_63 : decode cX12_plainNumber 63 = .ok (.ireturn, 1) := by decide +kernel
theorem dX12_atom_0 : decode cX12_atom 0 = .ok (.aload_n 0, 1) := by decide +kernel
theorem dX12_atom_1 : decode cX12_atom 1 = .ok (.invokevirtual 122, 3) := by decide +kernel
theorem dX12_atom_4 : decode cX12_atom 4 = .ok (.istore_n 1, 1) := by decide +kernel
theorem dX12_atom_5 : decode cX12_atom 5 = .ok (.iload_n 1, 1) := by decide +kernel
theorem dX12_atom_6 : decode cX12_atom 6 = .ok (.invokestatic 125, 3) := by decide +kernel
theorem dX12_atom_9 : decode cX12_atom 9 = .ok (.ifCond .eq 15, 3) := by decide +kernel
theorem dX12_atom_12 : decode cX12_atom 12 = .ok (.aload_n 0, 1) := by decide +kernel
theorem dX12_atom_13 : decode cX12_atom 13 = .ok (.iconst 0, 1) := by decide +kernel
theorem dX12_atom_14 : decode cX12_atom 14 = .ok (.aload_n 0, 1) := by decide +kernel
theorem dX12_atom_15 : decode cX12_atom 15 = .ok (.invokevirtual 129, 3) := by decide +kernel
theorem dX12_atom_18 : decode cX12_atom 18 = .ok (.invokevirtual 132, 3) := by decide +kernel
theorem dX12_atom_21 : decode cX12_atom 21 = .ok (.goto 68, 3) := by decide +kernel
theorem dX12_atom_24 : decode cX12_atom 24 = .ok (.iload_n 1, 1) := by decide +kernel
theorem dX12_atom_25 : decode cX12_atom 25 = .ok (.invokestatic 136, 3) := by decide +kernel
theorem dX12_atom_28 : decode cX12_atom 28 = .ok (.iconst (-1), 1) := by decide +kernel
theorem dX12_atom_29 : decode cX12_atom 29 = .ok (.if_icmp .eq 25, 3) := by decide +kernel
theorem dX12_atom_32 : decode cX12_atom 32 = .ok (.aload_n 0, 1) := by decide +kernel
theorem dX12_atom_33 : decode cX12_atom 33 = .ok (.dup, 1) := by decide +kernel
theorem dX12_atom_34 : decode cX12_atom 34 = .ok (.getfield 103, 3) := by decide +kernel
theorem dX12_atom_37 : decode cX12_atom 37 = .ok (.iconst 1, 1) := by decide +kernel
theorem dX12_atom_38 : decode cX12_atom 38 = .ok (.iadd, 1) := by decide +kernel
theorem dX12_atom_39 : decode cX12_atom 39 = .ok (.putfield 103, 3) := by decide +kernel
theorem dX12_atom_42 : decode cX12_atom 42 = .ok (.aload_n 0, 1) := by decide +kernel
theorem dX12_atom_43 : decode cX12_atom 43 = .ok (.iconst 1, 1) := by decide +kernel
theorem dX12_atom_44 : decode cX12_atom 44 = .ok (.iload_n 1, 1) := by decide +kernel
theorem dX12_atom_45 : decode cX12_atom 45 = .ok (.invokestatic 136, 3) := by decide +kernel
theorem dX12_atom_48 : decode cX12_atom 48 = .ok (.invokevirtual 132, 3) := by decide +kernel
theorem dX12_atom_51 : decode cX12_atom 51 = .ok (.goto 38, 3) := by decide +kernel
theorem dX12_atom_54 : decode cX12_atom 54 = .ok (.iload_n 1, 1) := by decide +kernel
theorem dX12_atom_55 : decode cX12_atom 55 = .ok (.bipush 91, 2) := by decide +kernel
theorem dX12_atom_57 : decode cX12_atom 57 = .ok (.if_icmp .ne 28, 3) := by decide +kernel
theorem dX12_atom_60 : decode cX12_atom 60 = .ok (.aload_n 0, 1) := by decide +kernel
theorem dX12_atom_61 : decode cX12_atom 61 = .ok (.invokevirtual 140, 3) := by decide +kernel
theorem dX12_atom_64 : decode cX12_atom 64 = .ok (.aload_n 0, 1) := by decide +kernel
theorem dX12_atom_65 : decode cX12_atom 65 = .ok (.getfield 110, 3) := by decide +kernel
theorem dX12_atom_68 : decode cX12_atom 68 = .ok (.iconst (-1), 1) := by decide +kernel
theorem dX12_atom_69 : decode cX12_atom 69 = .ok (.if_icmp .ne 20, 3) := by decide +kernel
theorem dX12_atom_72 : decode cX12_atom 72 = .ok (.aload_n 0, 1) := by decide +kernel
theorem dX12_atom_73 : decode cX12_atom 73 = .ok (.invokevirtual 143, 3) := by decide +kernel
theorem dX12_atom_76 : decode cX12_atom 76 = .ok (.aload_n 0, 1) := by decide +kernel
theorem dX12_atom_77 : decode cX12_atom 77 = .ok (.bipush 93, 2) := by decide +kernel
theorem dX12_atom_79 : decode cX12_atom 79 = .ok (.invokevirtual 146, 3) := by decide +kernel
theorem dX12_atom_82 : decode cX12_atom 82 = .ok (.goto 7, 3) := by decide +kernel
theorem dX12_atom_85 : decode cX12_atom 85 = .ok (.aload_n 0, 1) := by decide +kernel
theorem dX12_atom_86 : decode cX12_atom 86 = .ok (.invokevirtual 119, 3) := by decide +kernel
theorem dX12_atom_89 : decode cX12_atom 89 = .ok (.return_, 1) := by decide +kernel
theorem dX12_term_0 : decode cX12_term 0 = .ok (.aload_n 0, 1) := by decide +kernel
theorem dX12_term_1 : decode cX12_term 1 = .ok (.invokevirtual 150, 3) := by decide +kernel
theorem dX12_term_4 : decode cX12_term 4 = .ok (.aload_n 0, 1) := by decide +kernel
theorem dX12_term_5 : decode cX12_term 5 = .ok (.getfield 110, 3) := by decide +kernel
theorem dX12_term_8 : decode cX12_term 8 = .ok (.iconst (-1), 1) := by decide +kernel
theorem dX12_term_9 : decode cX12_term 9 = .ok (.if_icmp .ne 10, 3) := by decide +kernel
theorem dX12_term_12 : decode cX12_term 12 = .ok (.aload_n 0, 1) := by decide +kernel
theorem dX12_term_13 : decode cX12_term 13 = .ok (.invokevirtual 122, 3) := by decide +kernel
theorem dX12_term_16 : decode cX12_term 16 = .ok (.goto 4, 3) := by decide +kernel
theorem dX12_term_19 : decode cX12_term 19 = .ok (.iconst (-1), 1) := by decide +kernel
theorem dX12_term_20 : decode cX12_term 20 = .ok (.istore_n 1, 1) := by decide +kernel
theorem dX12_term_21 : decode cX12_term 21 = .ok (.iload_n 1, 1) := by decide +kernel
theorem dX12_term_22 : decode cX12_term 22 = .ok (.bipush 42, 2) := by decide +kernel
theorem dX12_term_24 : decode cX12_term 24 = .ok (.if_icmp .eq 9, 3) := by decide +kernel
theorem dX12_term_27 : decode cX12_term 27 = .ok (.iload_n 1, 1) := by decide +kernel
theorem dX12_term_28 : decode cX12_term 28 = .ok (.bipush 47, 2) := by decide +kernel
theorem dX12_term_30 : decode cX12_term 30 = .ok (.if_icmp .ne 53, 3) := by decide +kernel
theorem dX12_term_33 : decode cX12_term 33 = .ok (.aload_n 0, 1) := by decide +kernel
theorem dX12_term_34 : decode cX12_term 34 = .ok (.dup, 1) := by decide +kernel
theorem dX12_term_35 : decode cX12_term 35 = .ok (.getfield 103, 3) := by decide +kernel
theorem dX12_term_38 : decode cX12_term 38 = .ok (.iconst 1, 1) := by decide +kernel
theorem dX12_term_39 : decode cX12_term 39 = .ok (.iadd, 1) := by decide +kernel
theorem dX12_term_40 : decode cX12_term 40 = .ok (.putfield 103, 3) := by decide +kernel
theorem dX12_term_43 : decode cX12_term 43 = .ok (.aload_n 0, 1) := by decide +kernel
theorem dX12_term_44 : decode cX12_term 44 = .ok (.invokevirtual 150, 3) := by decide +kernel
theorem dX12_term_47 : decode cX12_term 47 = .ok (.aload_n 0, 1) := by decide +kernel
theorem dX12_term_48 : decode cX12_term 48 = .ok (.iload_n 1, 1) := by decide +kernel
theorem dX12_term_49 : decode cX12_term 49 = .ok (.bipush 42, 2) := by decide +kernel
theorem dX12_term_51 : decode cX12_term 51 = .ok (.if_icmp .ne 7, 3) := by decide +kernel
theorem dX12_term_54 : decode cX12_term 54 = .ok (.iconst 4, 1) := by decide +kernel
theorem dX12_term_55 : decode cX12_term 55 = .ok (.goto 4, 3) := by decide +kernel
theorem dX12_term_58 : decode cX12_term 58 = .ok (.iconst 5, 1) := by decide +kernel
theorem dX12_term_59 : decode cX12_term 59 = .ok (.iconst 0, 1) := by decide +kernel
theorem dX12_term_60 : decode cX12_term 60 = .ok (.invokevirtual 132, 3) := by decide +kernel
theorem dX12_term_63 : decode cX12_term 63 = .ok (.aload_n 0, 1) := by decide +kernel
theorem dX12_term_64 : decode cX12_term 64 = .ok (.getfield 110, 3) := by decide +kernel
theorem dX12_term_67 : decode cX12_term 67 = .ok (.iconst (-1), 1) := by decide +kernel
theorem dX12_term_68 : decode cX12_term 68 = .ok (.if_icmp .ne 10, 3) := by decide +kernel
theorem dX12_term_71 : decode cX12_term 71 = .ok (.aload_n 0, 1) := by decide +kernel
theorem dX12_term_72 : decode cX12_term 72 = .ok (.invokevirtual 122, 3) := by decide +kernel
theorem dX12_term_75 : decode cX12_term 75 = .ok (.goto 4, 3) := by decide +kernel
theorem dX12_term_78 : decode cX12_term 78 = .ok (.iconst (-1), 1) := by decide +kernel
theorem dX12_term_79 : decode cX12_term 79 = .ok (.istore_n 1, 1) := by decide +kernel
theorem dX12_term_80 : decode cX12_term 80 = .ok (.goto (-59), 3) := by decide +kernel
theorem dX12_term_83 : decode cX12_term 83 = .ok (.return_, 1) := by decide +kernel
theorem dX12_sum_0 : decode cX12_sum 0 = .ok (.aload_n 0, 1) := by decide +kernel
theorem dX12_sum_1 : decode cX12_sum 1 = .ok (.invokevirtual 153, 3) := by decide +kernel
theorem dX12_sum_4 : decode cX12_sum 4 = .ok (.aload_n 0, 1) := by decide +kernel
theorem dX12_sum_5 : decode cX12_sum 5 = .ok (.getfield 110, 3) := by decide +kernel
theorem dX12_sum_8 : decode cX12_sum 8 = .ok (.iconst (-1), 1) := by decide +kernel
theorem dX12_sum_9 : decode cX12_sum 9 = .ok (.if_icmp .ne 10, 3) := by decide +kernel
theorem dX12_sum_12 : decode cX12_sum 12 = .ok (.aload_n 0, 1) := by decide +kernel
theorem dX12_sum_13 : decode cX12_sum 13 = .ok (.invokevirtual 122, 3) := by decide +kernel
theorem dX12_sum_16 : decode cX12_sum 16 = .ok (.goto 4, 3) := by decide +kernel
theorem dX12_sum_19 : decode cX12_sum 19 = .ok (.iconst (-1), 1) := by decide +kernel
theorem dX12_sum_20 : decode cX12_sum 20 = .ok (.istore_n 1, 1) := by decide +kernel
theorem dX12_sum_21 : decode cX12_sum 21 = .ok (.iload_n 1, 1) := by decide +kernel
theorem dX12_sum_22 : decode cX12_sum 22 = .ok (.bipush 43, 2) := by decide +kernel
theorem dX12_sum_24 : decode cX12_sum 24 = .ok (.if_icmp .eq 9, 3) := by decide +kernel
theorem dX12_sum_27 : decode cX12_sum 27 = .ok (.iload_n 1, 1) := by decide +kernel
theorem dX12_sum_28 : decode cX12_sum 28 = .ok (.bipush 45, 2) := by decide +kernel
theorem dX12_sum_30 : decode cX12_sum 30 = .ok (.if_icmp .ne 53, 3) := by decide +kernel
theorem dX12_sum_33 : decode cX12_sum 33 = .ok (.aload_n 0, 1) := by decide +kernel
theorem dX12_sum_34 : decode cX12_sum 34 = .ok (.dup, 1) := by decide +kernel
theorem dX12_sum_35 : decode cX12_sum 35 = .ok (.getfield 103, 3) := by decide +kernel
theorem dX12_sum_38 : decode cX12_sum 38 = .ok (.iconst 1, 1) := by decide +kernel
theorem dX12_sum_39 : decode cX12_sum 39 = .ok (.iadd, 1) := by decide +kernel
theorem dX12_sum_40 : decode cX12_sum 40 = .ok (.putfield 103, 3) := by decide +kernel
theorem dX12_sum_43 : decode cX12_sum 43 = .ok (.aload_n 0, 1) := by decide +kernel
theorem dX12_sum_44 : decode cX12_sum 44 = .ok (.invokevirtual 153, 3) := by decide +kernel
theorem dX12_sum_47 : decode cX12_sum 47 = .ok (.aload_n 0, 1) := by decide +kernel
theorem dX12_sum_48 : decode cX12_sum 48 = .ok (.iload_n 1, 1) := by decide +kernel
theorem dX12_sum_49 : decode cX12_sum 49 = .ok (.bipush 43, 2) := by decide +kernel
theorem dX12_sum_51 : decode cX12_sum 51 = .ok (.if_icmp .ne 7, 3) := by decide +kernel
theorem dX12_sum_54 : decode cX12_sum 54 = .ok (.iconst 2, 1) := by decide +kernel
theorem dX12_sum_55 : decode cX12_sum 55 = .ok (.goto 4, 3) := by decide +kernel
theorem dX12_sum_58 : decode cX12_sum 58 = .ok (.iconst 3, 1) := by decide +kernel
theorem dX12_sum_59 : decode cX12_sum 59 = .ok (.iconst 0, 1) := by decide +kernel
theorem dX12_sum_60 : decode cX12_sum 60 = .ok (.invokevirtual 132, 3) := by decide +kernel
theorem dX12_sum_63 : decode cX12_sum 63 = .ok (.aload_n 0, 1) := by decide +kernel
theorem dX12_sum_64 : decode cX12_sum 64 = .ok (.getfield 110, 3) := by decide +kernel
theorem dX12_sum_67 : decode cX12_sum 67 = .ok (.iconst (-1), 1) := by decide +kernel
theorem dX12_sum_68 : decode cX12_sum 68 = .ok (.if_icmp .ne 10, 3) := by decide +kernel
theorem dX12_sum_71 : decode cX12_sum 71 = .ok (.aload_n 0, 1) := by decide +kernel
theorem dX12_sum_72 : decode cX12_sum 72 = .ok (.invokevirtual 122, 3) := by decide +kernel
theorem dX12_sum_75 : decode cX12_sum 75 = .ok (.goto 4, 3) := by decide +kernel
theorem dX12_sum_78 : decode cX12_sum 78 = .ok (.iconst (-1), 1) := by decide +kernel
theorem dX12_sum_79 : decode cX12_sum 79 = .ok (.istore_n 1, 1) := by decide +kernel
theorem dX12_sum_80 : decode cX12_sum 80 = .ok (.goto (-59), 3) := by decide +kernel
theorem dX12_sum_83 : decode cX12_sum 83 = .ok (.return_, 1) := by decide +kernel
theorem dX12_isSign_0 : decode cX12_isSign 0 = .ok (.iload_n 0, 1) := by decide +kernel
theorem dX12_isSign_1 : decode cX12_isSign 1 = .ok (.bipush 61, 2) := by decide +kernel
theorem dX12_isSign_3 : decode cX12_isSign 3 = .ok (.if_icmp .eq 15, 3) := by decide +kernel
theorem dX12_isSign_6 : decode cX12_isSign 6 = .ok (.iload_n 0, 1) := by decide +kernel
theorem dX12_isSign_7 : decode cX12_isSign 7 = .ok (.bipush 60, 2) := by decide +kernel
theorem dX12_isSign_9 : decode cX12_isSign 9 = .ok (.if_icmp .eq 9, 3) := by decide +kernel
theorem dX12_isSign_12 : decode cX12_isSign 12 = .ok (.iload_n 0, 1) := by decide +kernel
theorem dX12_isSign_13 : decode cX12_isSign 13 = .ok (.bipush 62, 2) := by decide +kernel
theorem dX12_isSign_15 : decode cX12_isSign 15 = .ok (.if_icmp .ne 7, 3) := by decide +kernel
theorem dX12_isSign_18 : decode cX12_isSign 18 = .ok (.iconst 1, 1) := by decide +kernel
theorem dX12_isSign_19 : decode cX12_isSign 19 = .ok (.goto 4, 3) := by decide +kernel
theorem dX12_isSign_22 : decode cX12_isSign 22 = .ok (.iconst 0, 1) := by decide +kernel
theorem dX12_isSign_23 : decode cX12_isSign 23 = .ok (.ireturn, 1) := by decide +kernel
theorem dX12_compare_0 : decode cX12_compare 0 = .ok (.aload_n 0, 1) := by decide +kernel
theorem dX12_compare_1 : decode cX12_compare 1 = .ok (.getfield 110, 3) := by decide +kernel
theorem dX12_compare_4 : decode cX12_compare 4 = .ok (.iconst (-1), 1) := by decide +kernel
theorem dX12_compare_5 : decode cX12_compare 5 = .ok (.if_icmp .ne 10, 3) := by decide +kernel
theorem dX12_compare_8 : decode cX12_compare 8 = .ok (.aload_n 0, 1) := by decide +kernel
theorem dX12_compare_9 : decode cX12_compare 9 = .ok (.invokevirtual 122, 3) := by decide +kernel
theorem dX12_compare_12 : decode cX12_compare 12 = .ok (.goto 4, 3) := by decide +kernel
theorem dX12_compare_15 : decode cX12_compare 15 = .ok (.iconst (-1), 1) := by decide +kernel
theorem dX12_compare_16 : decode cX12_compare 16 = .ok (.istore_n 1, 1) := by decide +kernel
theorem dX12_compare_17 : decode cX12_compare 17 = .ok (.iload_n 1, 1) := by decide +kernel
theorem dX12_compare_18 : decode cX12_compare 18 = .ok (.invokestatic 156, 3) := by decide +kernel
theorem dX12_compare_21 : decode cX12_compare 21 = .ok (.ifCond .ne 8, 3) := by decide +kernel
theorem dX12_compare_24 : decode cX12_compare 24 = .ok (.aload_n 0, 1) := by decide +kernel
theorem dX12_compare_25 : decode cX12_compare 25 = .ok (.invokevirtual 119, 3) := by decide +kernel
theorem dX12_compare_28 : decode cX12_compare 28 = .ok (.return_, 1) := by decide +kernel
theorem dX12_compare_29 : decode cX12_compare 29 = .ok (.aload_n 0, 1) := by decide +kernel
theorem dX12_compare_30 : decode cX12_compare 30 = .ok (.dup, 1) := by decide +kernel
theorem dX12_compare_31 : decode cX12_compare 31 = .ok (.getfield 103, 3) := by decide +kernel
theorem dX12_compare_34 : decode cX12_compare 34 = .ok (.iconst 1, 1) := by decide +kernel
theorem dX12_compare_35 : decode cX12_compare 35 = .ok (.iadd, 1) := by decide +kernel
theorem dX12_compare_36 : decode cX12_compare 36 = .ok (.putfield 103, 3) := by decide +kernel
theorem dX12_compare_39 : decode cX12_compare 39 = .ok (.aload_n 0, 1) := by decide +kernel
theorem dX12_compare_40 : decode cX12_compare 40 = .ok (.invokevirtual 143, 3) := by decide +kernel
theorem dX12_compare_43 : decode cX12_compare 43 = .ok (.aload_n 0, 1) := by decide +kernel
theorem dX12_compare_44 : decode cX12_compare 44 = .ok (.iload_n 1, 1) := by decide +kernel
theorem dX12_compare_45 : decode cX12_compare 45 = .ok (.bipush 61, 2) := by decide +kernel
theorem dX12_compare_47 : decode cX12_compare 47 = .ok (.if_icmp .ne 8, 3) := by decide +kernel
theorem dX12_compare_50 : decode cX12_compare 50 = .ok (.bipush 6, 2) := by decide +kernel
theorem dX12_compare_52 : decode cX12_compare 52 = .ok (.goto 16, 3) := by decide +kernel
theorem dX12_compare_55 : decode cX12_compare 55 = .ok (.iload_n 1, 1) := by decide +kernel
theorem dX12_compare_56 : decode cX12_compare 56 = .ok (.bipush 60, 2) := by decide +kernel
theorem dX12_compare_58 : decode cX12_compare 58 = .ok (.if_icmp .ne 8, 3) := by decide +kernel
theorem dX12_compare_61 : decode cX12_compare 61 = .ok (.bipush 7, 2) := by decide +kernel
theorem dX12_compare_63 : decode cX12_compare 63 = .ok (.goto 5, 3) := by decide +kernel
theorem dX12_compare_66 : decode cX12_compare 66 = .ok (.bipush 8, 2) := by decide +kernel
theorem dX12_compare_68 : decode cX12_compare 68 = .ok (.iconst 0, 1) := by decide +kernel
theorem dX12_compare_69 : decode cX12_compare 69 = .ok (.invokevirtual 132, 3) := by decide +kernel
theorem dX12_compare_72 : decode cX12_compare 72 = .ok (.return_, 1) := by decide +kernel
theorem dX12_unit_0 : decode cX12_unit 0 = .ok (.aload_n 0, 1) := by decide +kernel
theorem dX12_unit_1 : decode cX12_unit 1 = .ok (.invokevirtual 122, 3) := by decide +kernel
theorem dX12_unit_4 : decode cX12_unit 4 = .ok (.istore_n 1, 1) := by decide +kernel
theorem dX12_unit_5 : decode cX12_unit 5 = .ok (.iload_n 1, 1) := by decide +kernel
theorem dX12_unit_6 : decode cX12_unit 6 = .ok (.bipush 33, 2) := by decide +kernel
theorem dX12_unit_8 : decode cX12_unit 8 = .ok (.if_icmp .ne 39, 3) := by decide +kernel
theorem dX12_unit_11 : decode cX12_unit 11 = .ok (.aload_n 0, 1) := by decide +kernel
theorem dX12_unit_12 : decode cX12_unit 12 = .ok (.invokevirtual 140, 3) := by decide +kernel
theorem dX12_unit_15 : decode cX12_unit 15 = .ok (.aload_n 0, 1) := by decide +kernel
theorem dX12_unit_16 : decode cX12_unit 16 = .ok (.getfield 110, 3) := by decide +kernel
theorem dX12_unit_19 : decode cX12_unit 19 = .ok (.iconst (-1), 1) := by decide +kernel
theorem dX12_unit_20 : decode cX12_unit 20 = .ok (.if_icmp .ne 74, 3) := by decide +kernel
theorem dX12_unit_23 : decode cX12_unit 23 = .ok (.aload_n 0, 1) := by decide +kernel
theorem dX12_unit_24 : decode cX12_unit 24 = .ok (.invokevirtual 159, 3) := by decide +kernel
theorem dX12_unit_27 : decode cX12_unit 27 = .ok (.aload_n 0, 1) := by decide +kernel
theorem dX12_unit_28 : decode cX12_unit 28 = .ok (.bipush 9, 2) := by decide +kernel
theorem dX12_unit_30 : decode cX12_unit 30 = .ok (.iconst 0, 1) := by decide +kernel
theorem dX12_unit_31 : decode cX12_unit 31 = .ok (.invokevirtual 132, 3) := by decide +kernel
theorem dX12_unit_34 : decode cX12_unit 34 = .ok (.aload_n 0, 1) := by decide +kernel
theorem dX12_unit_35 : decode cX12_unit 35 = .ok (.dup, 1) := by decide +kernel
theorem dX12_unit_36 : decode cX12_unit 36 = .ok (.getfield 116, 3) := by decide +kernel
theorem dX12_unit_39 : decode cX12_unit 39 = .ok (.iconst 1, 1) := by decide +kernel
theorem dX12_unit_40 : decode cX12_unit 40 = .ok (.isub, 1) := by decide +kernel
theorem dX12_unit_41 : decode cX12_unit 41 = .ok (.putfield 116, 3) := by decide +kernel
theorem dX12_unit_44 : decode cX12_unit 44 = .ok (.goto 50, 3) := by decide +kernel
theorem dX12_unit_47 : decode cX12_unit 47 = .ok (.iload_n 1, 1) := by decide +kernel
theorem dX12_unit_48 : decode cX12_unit 48 = .ok (.bipush 40, 2) := by decide +kernel
theorem dX12_unit_50 : decode cX12_unit 50 = .ok (.if_icmp .ne 28, 3) := by decide +kernel
theorem dX12_unit_53 : decode cX12_unit 53 = .ok (.aload_n 0, 1) := by decide +kernel
theorem dX12_unit_54 : decode cX12_unit 54 = .ok (.invokevirtual 140, 3) := by decide +kernel
theorem dX12_unit_57 : decode cX12_unit 57 = .ok (.aload_n 0, 1) := by decide +kernel
theorem dX12_unit_58 : decode cX12_unit 58 = .ok (.getfield 110, 3) := by decide +kernel
theorem dX12_unit_61 : decode cX12_unit 61 = .ok (.iconst (-1), 1) := by decide +kernel
theorem dX12_unit_62 : decode cX12_unit 62 = .ok (.if_icmp .ne 32, 3) := by decide +kernel
theorem dX12_unit_65 : decode cX12_unit 65 = .ok (.aload_n 0, 1) := by decide +kernel
theorem dX12_unit_66 : decode cX12_unit 66 = .ok (.invokevirtual 162, 3) := by decide +kernel
theorem dX12_unit_69 : decode cX12_unit 69 = .ok (.aload_n 0, 1) := by decide +kernel
theorem dX12_unit_70 : decode cX12_unit 70 = .ok (.bipush 41, 2) := by decide +kernel
theorem dX12_unit_72 : decode cX12_unit 72 = .ok (.invokevirtual 146, 3) := by decide +kernel
theorem dX12_unit_75 : decode cX12_unit 75 = .ok (.goto 19, 3) := by decide +kernel
theorem dX12_unit_78 : decode cX12_unit 78 = .ok (.aload_n 0, 1) := by decide +kernel
theorem dX12_unit_79 : decode cX12_unit 79 = .ok (.invokevirtual 143, 3) := by decide +kernel
theorem dX12_unit_82 : decode cX12_unit 82 = .ok (.aload_n 0, 1) := by decide +kernel
theorem dX12_unit_83 : decode cX12_unit 83 = .ok (.getfield 110, 3) := by decide +kernel
theorem dX12_unit_86 : decode cX12_unit 86 = .ok (.iconst (-1), 1) := by decide +kernel
theorem dX12_unit_87 : decode cX12_unit 87 = .ok (.if_icmp .ne 7, 3) := by decide +kernel
theorem dX12_unit_90 : decode cX12_unit 90 = .ok (.aload_n 0, 1) := by decide +kernel
theorem dX12_unit_91 : decode cX12_unit 91 = .ok (.invokevirtual 165, 3) := by decide +kernel
theorem dX12_unit_94 : decode cX12_unit 94 = .ok (.return_, 1) := by decide +kernel
theorem dX12_goOnAnd_0 : decode cX12_goOnAnd 0 = .ok (.aload_n 0, 1) := by decide +kernel
theorem dX12_goOnAnd_1 : decode cX12_goOnAnd 1 = .ok (.getfield 110, 3) := by decide +kernel
theorem dX12_goOnAnd_4 : decode cX12_goOnAnd 4 = .ok (.iconst (-1), 1) := by decide +kernel
theorem dX12_goOnAnd_5 : decode cX12_goOnAnd 5 = .ok (.if_icmp .ne 36, 3) := by decide +kernel
theorem dX12_goOnAnd_8 : decode cX12_goOnAnd 8 = .ok (.aload_n 0, 1) := by decide +kernel
theorem dX12_goOnAnd_9 : decode cX12_goOnAnd 9 = .ok (.invokevirtual 122, 3) := by decide +kernel
theorem dX12_goOnAnd_12 : decode cX12_goOnAnd 12 = .ok (.bipush 38, 2) := by decide +kernel
theorem dX12_goOnAnd_14 : decode cX12_goOnAnd 14 = .ok (.if_icmp .ne 27, 3) := by decide +kernel
theorem dX12_goOnAnd_17 : decode cX12_goOnAnd 17 = .ok (.aload_n 0, 1) := by decide +kernel
theorem dX12_goOnAnd_18 : decode cX12_goOnAnd 18 = .ok (.dup, 1) := by decide +kernel
theorem dX12_goOnAnd_19 : decode cX12_goOnAnd 19 = .ok (.getfield 103, 3) := by decide +kernel
theorem dX12_goOnAnd_22 : decode cX12_goOnAnd 22 = .ok (.iconst 1, 1) := by decide +kernel
theorem dX12_goOnAnd_23 : decode cX12_goOnAnd 23 = .ok (.iadd, 1) := by decide +kernel
theorem dX12_goOnAnd_24 : decode cX12_goOnAnd 24 = .ok (.putfield 103, 3) := by decide +kernel
theorem dX12_goOnAnd_27 : decode cX12_goOnAnd 27 = .ok (.aload_n 0, 1) := by decide +kernel
theorem dX12_goOnAnd_28 : decode cX12_goOnAnd 28 = .ok (.invokevirtual 159, 3) := by decide +kernel
theorem dX12_goOnAnd_31 : decode cX12_goOnAnd 31 = .ok (.aload_n 0, 1) := by decide +kernel
theorem dX12_goOnAnd_32 : decode cX12_goOnAnd 32 = .ok (.bipush 10, 2) := by decide +kernel
theorem dX12_goOnAnd_34 : decode cX12_goOnAnd 34 = .ok (.iconst 0, 1) := by decide +kernel
theorem dX12_goOnAnd_35 : decode cX12_goOnAnd 35 = .ok (.invokevirtual 132, 3) := by decide +kernel
theorem dX12_goOnAnd_38 : decode cX12_goOnAnd 38 = .ok (.goto (-38), 3) := by decide +kernel
theorem dX12_goOnAnd_41 : decode cX12_goOnAnd 41 = .ok (.return_, 1) := by decide +kernel
theorem dX12_goOnOr_0 : decode cX12_goOnOr 0 = .ok (.aload_n 0, 1) := by decide +kernel
theorem dX12_goOnOr_1 : decode cX12_goOnOr 1 = .ok (.getfield 110, 3) := by decide +kernel
theorem dX12_goOnOr_4 : decode cX12_goOnOr 4 = .ok (.iconst (-1), 1) := by decide +kernel
theorem dX12_goOnOr_5 : decode cX12_goOnOr 5 = .ok (.if_icmp .ne 40, 3) := by decide +kernel
theorem dX12_goOnOr_8 : decode cX12_goOnOr 8 = .ok (.aload_n 0, 1) := by decide +kernel
theorem dX12_goOnOr_9 : decode cX12_goOnOr 9 = .ok (.invokevirtual 122, 3) := by decide +kernel
theorem dX12_goOnOr_12 : decode cX12_goOnOr 12 = .ok (.bipush 124, 2) := by decide +kernel
theorem dX12_goOnOr_14 : decode cX12_goOnOr 14 = .ok (.if_icmp .ne 31, 3) := by decide +kernel
theorem dX12_goOnOr_17 : decode cX12_goOnOr 17 = .ok (.aload_n 0, 1) := by decide +kernel
theorem dX12_goOnOr_18 : decode cX12_goOnOr 18 = .ok (.dup, 1) := by decide +kernel
theorem dX12_goOnOr_19 : decode cX12_goOnOr 19 = .ok (.getfield 103, 3) := by decide +kernel
theorem dX12_goOnOr_22 : decode cX12_goOnOr 22 = .ok (.iconst 1, 1) := by decide +kernel
theorem dX12_goOnOr_23 : decode cX12_goOnOr 23 = .ok (.iadd, 1) := by decide +kernel
theorem dX12_goOnOr_24 : decode cX12_goOnOr 24 = .ok (.putfield 103, 3) := by decide +kernel
theorem dX12_goOnOr_27 : decode cX12_goOnOr 27 = .ok (.aload_n 0, 1) := by decide +kernel
theorem dX12_goOnOr_28 : decode cX12_goOnOr 28 = .ok (.invokevirtual 159, 3) := by decide +kernel
theorem dX12_goOnOr_31 : decode cX12_goOnOr 31 = .ok (.aload_n 0, 1) := by decide +kernel
theorem dX12_goOnOr_32 : decode cX12_goOnOr 32 = .ok (.invokevirtual 168, 3) := by decide +kernel
theorem dX12_goOnOr_35 : decode cX12_goOnOr 35 = .ok (.aload_n 0, 1) := by decide +kernel
theorem dX12_goOnOr_36 : decode cX12_goOnOr 36 = .ok (.bipush 11, 2) := by decide +kernel
theorem dX12_goOnOr_38 : decode cX12_goOnOr 38 = .ok (.iconst 0, 1) := by decide +kernel
theorem dX12_goOnOr_39 : decode cX12_goOnOr 39 = .ok (.invokevirtual 132, 3) := by decide +kernel
theorem dX12_goOnOr_42 : decode cX12_goOnOr 42 = .ok (.goto (-42), 3) := by decide +kernel
theorem dX12_goOnOr_45 : decode cX12_goOnOr 45 = .ok (.return_, 1) := by decide +kernel
theorem dX12_condition_0 : decode cX12_condition 0 = .ok (.aload_n 0, 1) := by decide +kernel
theorem dX12_condition_1 : decode cX12_condition 1 = .ok (.invokevirtual 159, 3) := by decide +kernel
theorem dX12_condition_4 : decode cX12_condition 4 = .ok (.aload_n 0, 1) := by decide +kernel
theorem dX12_condition_5 : decode cX12_condition 5 = .ok (.invokevirtual 168, 3) := by decide +kernel
theorem dX12_condition_8 : decode cX12_condition 8 = .ok (.aload_n 0, 1) := by decide +kernel
theorem dX12_condition_9 : decode cX12_condition 9 = .ok (.invokevirtual 171, 3) := by decide +kernel
theorem dX12_condition_12 : decode cX12_condition 12 = .ok (.return_, 1) := by decide +kernel
theorem dX12_clause_0 : decode cX12_clause 0 = .ok (.sipush 140, 3) := by decide +kernel
theorem dX12_clause_3 : decode cX12_clause 3 = .ok (.aload_n 0, 1) := by decide +kernel
theorem dX12_clause_4 : decode cX12_clause 4 = .ok (.getfield 113, 3) := by decide +kernel
theorem dX12_clause_7 : decode cX12_clause 7 = .ok (.imul, 1) := by decide +kernel
theorem dX12_clause_8 : decode cX12_clause 8 = .ok (.aload_n 0, 1) := by decide +kernel
theorem dX12_clause_9 : decode cX12_clause 9 = .ok (.getfield 22, 3) := by decide +kernel
theorem dX12_clause_12 : decode cX12_clause 12 = .ok (.aload_n 0, 1) := by decide +kernel
theorem dX12_clause_13 : decode cX12_clause 13 = .ok (.getfield 113, 3) := by decide +kernel
theorem dX12_clause_16 : decode cX12_clause 16 = .ok (.iaload, 1) := by decide +kernel
theorem dX12_clause_17 : decode cX12_clause 17 = .ok (.iadd, 1) := by decide +kernel
theorem dX12_clause_18 : decode cX12_clause 18 = .ok (.istore_n 1, 1) := by decide +kernel
theorem dX12_clause_19 : decode cX12_clause 19 = .ok (.aload_n 0, 1) := by decide +kernel
theorem dX12_clause_20 : decode cX12_clause 20 = .ok (.getfield 110, 3) := by decide +kernel
theorem dX12_clause_23 : decode cX12_clause 23 = .ok (.iconst (-1), 1) := by decide +kernel
theorem dX12_clause_24 : decode cX12_clause 24 = .ok (.if_icmp .ne 16, 3) := by decide +kernel
theorem dX12_clause_27 : decode cX12_clause 27 = .ok (.aload_n 0, 1) := by decide +kernel
theorem dX12_clause_28 : decode cX12_clause 28 = .ok (.invokevirtual 122, 3) := by decide +kernel
theorem dX12_clause_31 : decode cX12_clause 31 = .ok (.bipush 121, 2) := by decide +kernel
theorem dX12_clause_33 : decode cX12_clause 33 = .ok (.if_icmp .eq 7, 3) := by decide +kernel
theorem dX12_clause_36 : decode cX12_clause 36 = .ok (.aload_n 0, 1) := by decide +kernel
theorem dX12_clause_37 : decode cX12_clause 37 = .ok (.invokevirtual 119, 3) := by decide +kernel
theorem dX12_clause_40 : decode cX12_clause 40 = .ok (.aload_n 0, 1) := by decide +kernel
theorem dX12_clause_41 : decode cX12_clause 41 = .ok (.dup, 1) := by decide +kernel
theorem dX12_clause_42 : decode cX12_clause 42 = .ok (.getfield 103, 3) := by decide +kernel
theorem dX12_clause_45 : decode cX12_clause 45 = .ok (.iconst 1, 1) := by decide +kernel
theorem dX12_clause_46 : decode cX12_clause 46 = .ok (.iadd, 1) := by decide +kernel
theorem dX12_clause_47 : decode cX12_clause 47 = .ok (.putfield 103, 3) := by decide +kernel
theorem dX12_clause_50 : decode cX12_clause 50 = .ok (.aload_n 0, 1) := by decide +kernel
theorem dX12_clause_51 : decode cX12_clause 51 = .ok (.getfield 110, 3) := by decide +kernel
theorem dX12_clause_54 : decode cX12_clause 54 = .ok (.iconst (-1), 1) := by decide +kernel
theorem dX12_clause_55 : decode cX12_clause 55 = .ok (.if_icmp .ne 16, 3) := by decide +kernel
theorem dX12_clause_58 : decode cX12_clause 58 = .ok (.aload_n 0, 1) := by decide +kernel
theorem dX12_clause_59 : decode cX12_clause 59 = .ok (.invokevirtual 122, 3) := by decide +kernel
theorem dX12_clause_62 : decode cX12_clause 62 = .ok (.bipush 58, 2) := by decide +kernel
theorem dX12_clause_64 : decode cX12_clause 64 = .ok (.if_icmp .eq 7, 3) := by decide +kernel
theorem dX12_clause_67 : decode cX12_clause 67 = .ok (.aload_n 0, 1) := by decide +kernel
theorem dX12_clause_68 : decode cX12_clause 68 = .ok (.invokevirtual 119, 3) := by decide +kernel
theorem dX12_clause_71 : decode cX12_clause 71 = .ok (.aload_n 0, 1) := by decide +kernel
theorem dX12_clause_72 : decode cX12_clause 72 = .ok (.dup, 1) := by decide +kernel
theorem dX12_clause_73 : decode cX12_clause 73 = .ok (.getfield 103, 3) := by decide +kernel
theorem dX12_clause_76 : decode cX12_clause 76 = .ok (.iconst 1, 1) := by decide +kernel
theorem dX12_clause_77 : decode cX12_clause 77 = .ok (.iadd, 1) := by decide +kernel
theorem dX12_clause_78 : decode cX12_clause 78 = .ok (.putfield 103, 3) := by decide +kernel
theorem dX12_clause_81 : decode cX12_clause 81 = .ok (.aload_n 0, 1) := by decide +kernel
theorem dX12_clause_82 : decode cX12_clause 82 = .ok (.getfield 110, 3) := by decide +kernel
theorem dX12_clause_85 : decode cX12_clause 85 = .ok (.iconst (-1), 1) := by decide +kernel
theorem dX12_clause_86 : decode cX12_clause 86 = .ok (.if_icmp .eq 4, 3) := by decide +kernel
theorem dX12_clause_89 : decode cX12_clause 89 = .ok (.return_, 1) := by decide +kernel
theorem dX12_clause_90 : decode cX12_clause 90 = .ok (.aload_n 0, 1) := by decide +kernel
theorem dX12_clause_91 : decode cX12_clause 91 = .ok (.getfield 25, 3) := by decide +kernel
theorem dX12_clause_94 : decode cX12_clause 94 = .ok (.iload_n 1, 1) := by decide +kernel
theorem dX12_clause_95 : decode cX12_clause 95 = .ok (.aload_n 0, 1) := by decide +kernel
theorem dX12_clause_96 : decode cX12_clause 96 = .ok (.getfield 19, 3) := by decide +kernel
theorem dX12_clause_99 : decode cX12_clause 99 = .ok (.aload_n 0, 1) := by decide +kernel
theorem dX12_clause_100 : decode cX12_clause 100 = .ok (.getfield 113, 3) := by decide +kernel
theorem dX12_clause_103 : decode cX12_clause 103 = .ok (.iaload, 1) := by decide +kernel
theorem dX12_clause_104 : decode cX12_clause 104 = .ok (.iastore, 1) := by decide +kernel
theorem dX12_clause_105 : decode cX12_clause 105 = .ok (.aload_n 0, 1) := by decide +kernel
theorem dX12_clause_106 : decode cX12_clause 106 = .ok (.invokevirtual 122, 3) := by decide +kernel
theorem dX12_clause_109 : decode cX12_clause 109 = .ok (.bipush 33, 2) := by decide +kernel
theorem dX12_clause_111 : decode cX12_clause 111 = .ok (.if_icmp .eq 12, 3) := by decide +kernel
theorem dX12_clause_114 : decode cX12_clause 114 = .ok (.aload_n 0, 1) := by decide +kernel
theorem dX12_clause_115 : decode cX12_clause 115 = .ok (.invokevirtual 122, 3) := by decide +kernel
theorem dX12_clause_118 : decode cX12_clause 118 = .ok (.bipush 40, 2) := by decide +kernel
theorem dX12_clause_120 : decode cX12_clause 120 = .ok (.if_icmp .ne 7, 3) := by decide +kernel
theorem dX12_clause_123 : decode cX12_clause 123 = .ok (.iconst 1, 1) := by decide +kernel
theorem dX12_clause_124 : decode cX12_clause 124 = .ok (.goto 4, 3) := by decide +kernel
theorem dX12_clause_127 : decode cX12_clause 127 = .ok (.iconst 0, 1) := by decide +kernel
theorem dX12_clause_128 : decode cX12_clause 128 = .ok (.istore_n 2, 1) := by decide +kernel
theorem dX12_clause_129 : decode cX12_clause 129 = .ok (.iload_n 2, 1) := by decide +kernel
theorem dX12_clause_130 : decode cX12_clause 130 = .ok (.ifCond .eq 10, 3) := by decide +kernel
theorem dX12_clause_133 : decode cX12_clause 133 = .ok (.aload_n 0, 1) := by decide +kernel
theorem dX12_clause_134 : decode cX12_clause 134 = .ok (.invokevirtual 162, 3) := by decide +kernel
theorem dX12_clause_137 : decode cX12_clause 137 = .ok (.goto 47, 3) := by decide +kernel
theorem dX12_clause_140 : decode cX12_clause 140 = .ok (.aload_n 0, 1) := by decide +kernel
theorem dX12_clause_141 : decode cX12_clause 141 = .ok (.invokevirtual 143, 3) := by decide +kernel
theorem dX12_clause_144 : decode cX12_clause 144 = .ok (.aload_n 0, 1) := by decide +kernel
theorem dX12_clause_145 : decode cX12_clause 145 = .ok (.getfield 110, 3) := by decide +kernel
theorem dX12_clause_148 : decode cX12_clause 148 = .ok (.iconst (-1), 1) := by decide +kernel
theorem dX12_clause_149 : decode cX12_clause 149 = .ok (.if_icmp .ne 17, 3) := by decide +kernel
theorem dX12_clause_152 : decode cX12_clause 152 = .ok (.aload_n 0, 1) := by decide +kernel
theorem dX12_clause_153 : decode cX12_clause 153 = .ok (.invokevirtual 122, 3) := by decide +kernel
theorem dX12_clause_156 : decode cX12_clause 156 = .ok (.invokestatic 156, 3) := by decide +kernel
theorem dX12_clause_159 : decode cX12_clause 159 = .ok (.ifCond .eq 7, 3) := by decide +kernel
theorem dX12_clause_162 : decode cX12_clause 162 = .ok (.iconst 1, 1) := by decide +kernel
theorem dX12_clause_163 : decode cX12_clause 163 = .ok (.goto 4, 3) := by decide +kernel
theorem dX12_clause_166 : decode cX12_clause 166 = .ok (.iconst 0, 1) := by decide +kernel
theorem dX12_clause_167 : decode cX12_clause 167 = .ok (.istore_n 2, 1) := by decide +kernel
theorem dX12_clause_168 : decode cX12_clause 168 = .ok (.iload_n 2, 1) := by decide +kernel
theorem dX12_clause_169 : decode cX12_clause 169 = .ok (.ifCond .eq 15, 3) := by decide +kernel
theorem dX12_clause_172 : decode cX12_clause 172 = .ok (.aload_n 0, 1) := by decide +kernel
theorem dX12_clause_173 : decode cX12_clause 173 = .ok (.invokevirtual 165, 3) := by decide +kernel
theorem dX12_clause_176 : decode cX12_clause 176 = .ok (.aload_n 0, 1) := by decide +kernel
theorem dX12_clause_177 : decode cX12_clause 177 = .ok (.invokevirtual 168, 3) := by decide +kernel
theorem dX12_clause_180 : decode cX12_clause 180 = .ok (.aload_n 0, 1) := by decide +kernel
theorem dX12_clause_181 : decode cX12_clause 181 = .ok (.invokevirtual 171, 3) := by decide +kernel
theorem dX12_clause_184 : decode cX12_clause 184 = .ok (.aload_n 0, 1) := by decide +kernel
theorem dX12_clause_185 : decode cX12_clause 185 = .ok (.getfield 28, 3) := by decide +kernel
theorem dX12_clause_188 : decode cX12_clause 188 = .ok (.iload_n 1, 1) := by decide +kernel
theorem dX12_clause_189 : decode cX12_clause 189 = .ok (.aload_n 0, 1) := by decide +kernel
theorem dX12_clause_190 : decode cX12_clause 190 = .ok (.getfield 25, 3) := by decide +kernel
theorem dX12_clause_193 : decode cX12_clause 193 = .ok (.iload_n 1, 1) := by decide +kernel
theorem dX12_clause_194 : decode cX12_clause 194 = .ok (.iaload, 1) := by decide +kernel
theorem dX12_clause_195 : decode cX12_clause 195 = .ok (.iastore, 1) := by decide +kernel
theorem dX12_clause_196 : decode cX12_clause 196 = .ok (.iload_n 2, 1) := by decide +kernel
theorem dX12_clause_197 : decode cX12_clause 197 = .ok (.ifCond .eq 54, 3) := by decide +kernel
theorem dX12_clause_200 : decode cX12_clause 200 = .ok (.aload_n 0, 1) := by decide +kernel
theorem dX12_clause_201 : decode cX12_clause 201 = .ok (.getfield 110, 3) := by decide +kernel
theorem dX12_clause_204 : decode cX12_clause 204 = .ok (.iconst (-1), 1) := by decide +kernel
theorem dX12_clause_205 : decode cX12_clause 205 = .ok (.if_icmp .ne 46, 3) := by decide +kernel
theorem dX12_clause_208 : decode cX12_clause 208 = .ok (.aload_n 0, 1) := by decide +kernel
theorem dX12_clause_209 : decode cX12_clause 209 = .ok (.invokevirtual 122, 3) := by decide +kernel
theorem dX12_clause_212 : decode cX12_clause 212 = .ok (.bipush 63, 2) := by decide +kernel
theorem dX12_clause_214 : decode cX12_clause 214 = .ok (.if_icmp .eq 8, 3) := by decide +kernel
theorem dX12_clause_217 : decode cX12_clause 217 = .ok (.aload_n 0, 1) := by decide +kernel
theorem dX12_clause_218 : decode cX12_clause 218 = .ok (.invokevirtual 119, 3) := by decide +kernel
theorem dX12_clause_221 : decode cX12_clause 221 = .ok (.return_, 1) := by decide +kernel
theorem dX12_clause_222 : decode cX12_clause 222 = .ok (.aload_n 0, 1) := by decide +kernel
theorem dX12_clause_223 : decode cX12_clause 223 = .ok (.dup, 1) := by decide +kernel
theorem dX12_clause_224 : decode cX12_clause 224 = .ok (.getfield 103, 3) := by decide +kernel
theorem dX12_clause_227 : decode cX12_clause 227 = .ok (.iconst 1, 1) := by decide +kernel
theorem dX12_clause_228 : decode cX12_clause 228 = .ok (.iadd, 1) := by decide +kernel
theorem dX12_clause_229 : decode cX12_clause 229 = .ok (.putfield 103, 3) := by decide +kernel
theorem dX12_clause_232 : decode cX12_clause 232 = .ok (.aload_n 0, 1) := by decide +kernel
theorem dX12_clause_233 : decode cX12_clause 233 = .ok (.getfield 28, 3) := by decide +kernel
theorem dX12_clause_236 : decode cX12_clause 236 = .ok (.iload_n 1, 1) := by decide +kernel
theorem dX12_clause_237 : decode cX12_clause 237 = .ok (.aload_n 0, 1) := by decide +kernel
theorem dX12_clause_238 : decode cX12_clause 238 = .ok (.getfield 19, 3) := by decide +kernel
theorem dX12_clause_241 : decode cX12_clause 241 = .ok (.aload_n 0, 1) := by decide +kernel
theorem dX12_clause_242 : decode cX12_clause 242 = .ok (.getfield 113, 3) := by decide +kernel
theorem dX12_clause_245 : decode cX12_clause 245 = .ok (.iaload, 1) := by decide +kernel
theorem dX12_clause_246 : decode cX12_clause 246 = .ok (.iastore, 1) := by decide +kernel
theorem dX12_clause_247 : decode cX12_clause 247 = .ok (.aload_n 0, 1) := by decide +kernel
theorem dX12_clause_248 : decode cX12_clause 248 = .ok (.invokevirtual 143, 3) := by decide +kernel
theorem dX12_clause_251 : decode cX12_clause 251 = .ok (.aload_n 0, 1) := by decide +kernel
theorem dX12_clause_252 : decode cX12_clause 252 = .ok (.getfield 31, 3) := by decide +kernel
theorem dX12_clause_255 : decode cX12_clause 255 = .ok (.iload_n 1, 1) := by decide +kernel
theorem dX12_clause_256 : decode cX12_clause 256 = .ok (.aload_n 0, 1) := by decide +kernel
theorem dX12_clause_257 : decode cX12_clause 257 = .ok (.getfield 19, 3) := by decide +kernel
theorem dX12_clause_260 : decode cX12_clause 260 = .ok (.aload_n 0, 1) := by decide +kernel
theorem dX12_clause_261 : decode cX12_clause 261 = .ok (.getfield 113, 3) := by decide +kernel
theorem dX12_clause_264 : decode cX12_clause 264 = .ok (.iaload, 1) := by decide +kernel
theorem dX12_clause_265 : decode cX12_clause 265 = .ok (.iastore, 1) := by decide +kernel
theorem dX12_clause_266 : decode cX12_clause 266 = .ok (.aload_n 0, 1) := by decide +kernel
theorem dX12_clause_267 : decode cX12_clause 267 = .ok (.getfield 22, 3) := by decide +kernel
theorem dX12_clause_270 : decode cX12_clause 270 = .ok (.aload_n 0, 1) := by decide +kernel
theorem dX12_clause_271 : decode cX12_clause 271 = .ok (.getfield 113, 3) := by decide +kernel
theorem dX12_clause_274 : decode cX12_clause 274 = .ok (.dup2, 1) := by decide +kernel
theorem dX12_clause_275 : decode cX12_clause 275 = .ok (.iaload, 1) := by decide +kernel
theorem dX12_clause_276 : decode cX12_clause 276 = .ok (.iconst 1, 1) := by decide +kernel
theorem dX12_clause_277 : decode cX12_clause 277 = .ok (.iadd, 1) := by decide +kernel
theorem dX12_clause_278 : decode cX12_clause 278 = .ok (.iastore, 1) := by decide +kernel
theorem dX12_clause_279 : decode cX12_clause 279 = .ok (.return_, 1) := by decide +kernel
theorem dX12_open_0 : decode cX12_open 0 = .ok (.aload_n 0, 1) := by decide +kernel
theorem dX12_open_1 : decode cX12_open 1 = .ok (.iload_n 1, 1) := by decide +kernel
theorem dX12_open_2 : decode cX12_open 2 = .ok (.putfield 113, 3) := by decide +kernel
theorem dX12_open_5 : decode cX12_open 5 = .ok (.aload_n 0, 1) := by decide +kernel
theorem dX12_open_6 : decode cX12_open 6 = .ok (.iconst 0, 1) := by decide +kernel
theorem dX12_open_7 : decode cX12_open 7 = .ok (.putfield 103, 3) := by decide +kernel
theorem dX12_open_10 : decode cX12_open 10 = .ok (.aload_n 0, 1) := by decide +kernel
theorem dX12_open_11 : decode cX12_open 11 = .ok (.iconst (-1), 1) := by decide +kernel
theorem dX12_open_12 : decode cX12_open 12 = .ok (.putfield 110, 3) := by decide +kernel
theorem dX12_open_15 : decode cX12_open 15 = .ok (.aload_n 0, 1) := by decide +kernel
theorem dX12_open_16 : decode cX12_open 16 = .ok (.iconst 0, 1) := by decide +kernel
theorem dX12_open_17 : decode cX12_open 17 = .ok (.putfield 116, 3) := by decide +kernel
theorem dX12_open_20 : decode cX12_open 20 = .ok (.aload_n 0, 1) := by decide +kernel
theorem dX12_open_21 : decode cX12_open 21 = .ok (.getfield 19, 3) := by decide +kernel
theorem dX12_open_24 : decode cX12_open 24 = .ok (.iload_n 1, 1) := by decide +kernel
theorem dX12_open_25 : decode cX12_open 25 = .ok (.iconst 0, 1) := by decide +kernel
theorem dX12_open_26 : decode cX12_open 26 = .ok (.iastore, 1) := by decide +kernel
theorem dX12_open_27 : decode cX12_open 27 = .ok (.aload_n 0, 1) := by decide +kernel
theorem dX12_open_28 : decode cX12_open 28 = .ok (.getfield 22, 3) := by decide +kernel
theorem dX12_open_31 : decode cX12_open 31 = .ok (.iload_n 1, 1) := by decide +kernel
theorem dX12_open_32 : decode cX12_open 32 = .ok (.iconst 0, 1) := by decide +kernel
theorem dX12_open_33 : decode cX12_open 33 = .ok (.iastore, 1) := by decide +kernel
theorem dX12_open_34 : decode cX12_open 34 = .ok (.return_, 1) := by decide +kernel
theorem dX12_atEnd_0 : decode cX12_atEnd 0 = .ok (.aload_n 0, 1) := by decide +kernel
theorem dX12_atEnd_1 : decode cX12_atEnd 1 = .ok (.getfield 110, 3) := by decide +kernel
theorem dX12_atEnd_4 : decode cX12_atEnd 4 = .ok (.iconst (-1), 1) := by decide +kernel
theorem dX12_atEnd_5 : decode cX12_atEnd 5 = .ok (.if_icmp .ne 15, 3) := by decide +kernel
theorem dX12_atEnd_8 : decode cX12_atEnd 8 = .ok (.aload_n 0, 1) := by decide +kernel
theorem dX12_atEnd_9 : decode cX12_atEnd 9 = .ok (.invokevirtual 122, 3) := by decide +kernel
theorem dX12_atEnd_12 : decode cX12_atEnd 12 = .ok (.iconst (-1), 1) := by decide +kernel
theorem dX12_atEnd_13 : decode cX12_atEnd 13 = .ok (.if_icmp .eq 7, 3) := by decide +kernel
theorem dX12_atEnd_16 : decode cX12_atEnd 16 = .ok (.aload_n 0, 1) := by decide +kernel
theorem dX12_atEnd_17 : decode cX12_atEnd 17 = .ok (.invokevirtual 119, 3) := by decide +kernel
theorem dX12_atEnd_20 : decode cX12_atEnd 20 = .ok (.aload_n 0, 1) := by decide +kernel
theorem dX12_atEnd_21 : decode cX12_atEnd 21 = .ok (.getfield 110, 3) := by decide +kernel
theorem dX12_atEnd_24 : decode cX12_atEnd 24 = .ok (.ireturn, 1) := by decide +kernel
theorem dX12_readLaw_0 : decode cX12_readLaw 0 = .ok (.aload_n 0, 1) := by decide +kernel
theorem dX12_readLaw_1 : decode cX12_readLaw 1 = .ok (.iload_n 1, 1) := by decide +kernel
theorem dX12_readLaw_2 : decode cX12_readLaw 2 = .ok (.invokevirtual 174, 3) := by decide +kernel
theorem dX12_readLaw_5 : decode cX12_readLaw 5 = .ok (.aload_n 0, 1) := by decide +kernel
theorem dX12_readLaw_6 : decode cX12_readLaw 6 = .ok (.invokevirtual 177, 3) := by decide +kernel
theorem dX12_readLaw_9 : decode cX12_readLaw 9 = .ok (.aload_n 0, 1) := by decide +kernel
theorem dX12_readLaw_10 : decode cX12_readLaw 10 = .ok (.getfield 110, 3) := by decide +kernel
theorem dX12_readLaw_13 : decode cX12_readLaw 13 = .ok (.iconst (-1), 1) := by decide +kernel
theorem dX12_readLaw_14 : decode cX12_readLaw 14 = .ok (.if_icmp .ne 29, 3) := by decide +kernel
theorem dX12_readLaw_17 : decode cX12_readLaw 17 = .ok (.aload_n 0, 1) := by decide +kernel
theorem dX12_readLaw_18 : decode cX12_readLaw 18 = .ok (.invokevirtual 122, 3) := by decide +kernel
theorem dX12_readLaw_21 : decode cX12_readLaw 21 = .ok (.bipush 59, 2) := by decide +kernel
theorem dX12_readLaw_23 : decode cX12_readLaw 23 = .ok (.if_icmp .ne 20, 3) := by decide +kernel
theorem dX12_readLaw_26 : decode cX12_readLaw 26 = .ok (.aload_n 0, 1) := by decide +kernel
theorem dX12_readLaw_27 : decode cX12_readLaw 27 = .ok (.dup, 1) := by decide +kernel
theorem dX12_readLaw_28 : decode cX12_readLaw 28 = .ok (.getfield 103, 3) := by decide +kernel
theorem dX12_readLaw_31 : decode cX12_readLaw 31 = .ok (.iconst 1, 1) := by decide +kernel
theorem dX12_readLaw_32 : decode cX12_readLaw 32 = .ok (.iadd, 1) := by decide +kernel
theorem dX12_readLaw_33 : decode cX12_readLaw 33 = .ok (.putfield 103, 3) := by decide +kernel
theorem dX12_readLaw_36 : decode cX12_readLaw 36 = .ok (.aload_n 0, 1) := by decide +kernel
theorem dX12_readLaw_37 : decode cX12_readLaw 37 = .ok (.invokevirtual 177, 3) := by decide +kernel
theorem dX12_readLaw_40 : decode cX12_readLaw 40 = .ok (.goto (-31), 3) := by decide +kernel
theorem dX12_readLaw_43 : decode cX12_readLaw 43 = .ok (.aload_n 0, 1) := by decide +kernel
theorem dX12_readLaw_44 : decode cX12_readLaw 44 = .ok (.invokevirtual 180, 3) := by decide +kernel
theorem dX12_readLaw_47 : decode cX12_readLaw 47 = .ok (.ireturn, 1) := by decide +kernel
theorem dX12_bounded_0 : decode cX12_bounded 0 = .ok (.ldc2_w 183, 3) := by decide +kernel
theorem dX12_bounded_3 : decode cX12_bounded 3 = .ok (.ldc2_w 185, 3) := by decide +kernel
theorem dX12_bounded_6 : decode cX12_bounded 6 = .ok (.lload_n 0, 1) := by decide +kernel
theorem dX12_bounded_7 : decode cX12_bounded 7 = .ok (.invokestatic 187, 3) := by decide +kernel
theorem dX12_bounded_10 : decode cX12_bounded 10 = .ok (.invokestatic 193, 3) := by decide +kernel
theorem dX12_bounded_13 : decode cX12_bounded 13 = .ok (.l2i, 1) := by decide +kernel
theorem dX12_bounded_14 : decode cX12_bounded 14 = .ok (.ireturn, 1) := by decide +kernel
theorem dX12_worked_0 : decode cX12_worked 0 = .ok (.iload_n 0, 1) := by decide +kernel
theorem dX12_worked_1 : decode cX12_worked 1 = .ok (.tableswitch 143 2 10 #[51, 58, 65, 72, 89, 101, 113, 143, 125], 51) := by decide +kernel
theorem dX12_worked_52 : decode cX12_worked 52 = .ok (.lload_n 1, 1) := by decide +kernel
theorem dX12_worked_53 : decode cX12_worked 53 = .ok (.lload_n 3, 1) := by decide +kernel
theorem dX12_worked_54 : decode cX12_worked 54 = .ok (.ladd, 1) := by decide +kernel
theorem dX12_worked_55 : decode cX12_worked 55 = .ok (.invokestatic 196, 3) := by decide +kernel
theorem dX12_worked_58 : decode cX12_worked 58 = .ok (.ireturn, 1) := by decide +kernel
theorem dX12_worked_59 : decode cX12_worked 59 = .ok (.lload_n 1, 1) := by decide +kernel
theorem dX12_worked_60 : decode cX12_worked 60 = .ok (.lload_n 3, 1) := by decide +kernel
theorem dX12_worked_61 : decode cX12_worked 61 = .ok (.lsub, 1) := by decide +kernel
theorem dX12_worked_62 : decode cX12_worked 62 = .ok (.invokestatic 196, 3) := by decide +kernel
theorem dX12_worked_65 : decode cX12_worked 65 = .ok (.ireturn, 1) := by decide +kernel
theorem dX12_worked_66 : decode cX12_worked 66 = .ok (.lload_n 1, 1) := by decide +kernel
theorem dX12_worked_67 : decode cX12_worked 67 = .ok (.lload_n 3, 1) := by decide +kernel
theorem dX12_worked_68 : decode cX12_worked 68 = .ok (.lmul, 1) := by decide +kernel
theorem dX12_worked_69 : decode cX12_worked 69 = .ok (.invokestatic 196, 3) := by decide +kernel
theorem dX12_worked_72 : decode cX12_worked 72 = .ok (.ireturn, 1) := by decide +kernel
theorem dX12_worked_73 : decode cX12_worked 73 = .ok (.lload_n 3, 1) := by decide +kernel
theorem dX12_worked_74 : decode cX12_worked 74 = .ok (.lconst 0, 1) := by decide +kernel
theorem dX12_worked_75 : decode cX12_worked 75 = .ok (.lcmp, 1) := by decide +kernel
theorem dX12_worked_76 : decode cX12_worked 76 = .ok (.ifCond .ne 7, 3) := by decide +kernel
theorem dX12_worked_79 : decode cX12_worked 79 = .ok (.iconst 0, 1) := by decide +kernel
theorem dX12_worked_80 : decode cX12_worked 80 = .ok (.goto 9, 3) := by decide +kernel
theorem dX12_worked_83 : decode cX12_worked 83 = .ok (.lload_n 1, 1) := by decide +kernel
theorem dX12_worked_84 : decode cX12_worked 84 = .ok (.lload_n 3, 1) := by decide +kernel
theorem dX12_worked_85 : decode cX12_worked 85 = .ok (.ldiv, 1) := by decide +kernel
theorem dX12_worked_86 : decode cX12_worked 86 = .ok (.invokestatic 196, 3) := by decide +kernel
theorem dX12_worked_89 : decode cX12_worked 89 = .ok (.ireturn, 1) := by decide +kernel
theorem dX12_worked_90 : decode cX12_worked 90 = .ok (.lload_n 1, 1) := by decide +kernel
theorem dX12_worked_91 : decode cX12_worked 91 = .ok (.lload_n 3, 1) := by decide +kernel
theorem dX12_worked_92 : decode cX12_worked 92 = .ok (.lcmp, 1) := by decide +kernel
theorem dX12_worked_93 : decode cX12_worked 93 = .ok (.ifCond .ne 7, 3) := by decide +kernel
theorem dX12_worked_96 : decode cX12_worked 96 = .ok (.iconst 1, 1) := by decide +kernel
theorem dX12_worked_97 : decode cX12_worked 97 = .ok (.goto 4, 3) := by decide +kernel
theorem dX12_worked_100 : decode cX12_worked 100 = .ok (.iconst 0, 1) := by decide +kernel
theorem dX12_worked_101 : decode cX12_worked 101 = .ok (.ireturn, 1) := by decide +kernel
theorem dX12_worked_102 : decode cX12_worked 102 = .ok (.lload_n 1, 1) := by decide +kernel
theorem dX12_worked_103 : decode cX12_worked 103 = .ok (.lload_n 3, 1) := by decide +kernel
theorem dX12_worked_104 : decode cX12_worked 104 = .ok (.lcmp, 1) := by decide +kernel
theorem dX12_worked_105 : decode cX12_worked 105 = .ok (.ifCond .ge 7, 3) := by decide +kernel
theorem dX12_worked_108 : decode cX12_worked 108 = .ok (.iconst 1, 1) := by decide +kernel
theorem dX12_worked_109 : decode cX12_worked 109 = .ok (.goto 4, 3) := by decide +kernel
theorem dX12_worked_112 : decode cX12_worked 112 = .ok (.iconst 0, 1) := by decide +kernel
theorem dX12_worked_113 : decode cX12_worked 113 = .ok (.ireturn, 1) := by decide +kernel
theorem dX12_worked_114 : decode cX12_worked 114 = .ok (.lload_n 1, 1) := by decide +kernel
theorem dX12_worked_115 : decode cX12_worked 115 = .ok (.lload_n 3, 1) := by decide +kernel
theorem dX12_worked_116 : decode cX12_worked 116 = .ok (.lcmp, 1) := by decide +kernel
theorem dX12_worked_117 : decode cX12_worked 117 = .ok (.ifCond .le 7, 3) := by decide +kernel
theorem dX12_worked_120 : decode cX12_worked 120 = .ok (.iconst 1, 1) := by decide +kernel
theorem dX12_worked_121 : decode cX12_worked 121 = .ok (.goto 4, 3) := by decide +kernel
theorem dX12_worked_124 : decode cX12_worked 124 = .ok (.iconst 0, 1) := by decide +kernel
theorem dX12_worked_125 : decode cX12_worked 125 = .ok (.ireturn, 1) := by decide +kernel
theorem dX12_worked_126 : decode cX12_worked 126 = .ok (.lload_n 1, 1) := by decide +kernel
theorem dX12_worked_127 : decode cX12_worked 127 = .ok (.lconst 0, 1) := by decide +kernel
theorem dX12_worked_128 : decode cX12_worked 128 = .ok (.lcmp, 1) := by decide +kernel
theorem dX12_worked_129 : decode cX12_worked 129 = .ok (.ifCond .eq 13, 3) := by decide +kernel
theorem dX12_worked_132 : decode cX12_worked 132 = .ok (.lload_n 3, 1) := by decide +kernel
theorem dX12_worked_133 : decode cX12_worked 133 = .ok (.lconst 0, 1) := by decide +kernel
theorem dX12_worked_134 : decode cX12_worked 134 = .ok (.lcmp, 1) := by decide +kernel
theorem dX12_worked_135 : decode cX12_worked 135 = .ok (.ifCond .eq 7, 3) := by decide +kernel
theorem dX12_worked_138 : decode cX12_worked 138 = .ok (.iconst 1, 1) := by decide +kernel
theorem dX12_worked_139 : decode cX12_worked 139 = .ok (.goto 4, 3) := by decide +kernel
theorem dX12_worked_142 : decode cX12_worked 142 = .ok (.iconst 0, 1) := by decide +kernel
theorem dX12_worked_143 : decode cX12_worked 143 = .ok (.ireturn, 1) := by decide +kernel
theorem dX12_worked_144 : decode cX12_worked 144 = .ok (.lload_n 1, 1) := by decide +kernel
theorem dX12_worked_145 : decode cX12_worked 145 = .ok (.lconst 0, 1) := by decide +kernel
theorem dX12_worked_146 : decode cX12_worked 146 = .ok (.lcmp, 1) := by decide +kernel
theorem dX12_worked_147 : decode cX12_worked 147 = .ok (.ifCond .ne 9, 3) := by decide +kernel
theorem dX12_worked_150 : decode cX12_worked 150 = .ok (.lload_n 3, 1) := by decide +kernel
theorem dX12_worked_151 : decode cX12_worked 151 = .ok (.lconst 0, 1) := by decide +kernel
theorem dX12_worked_152 : decode cX12_worked 152 = .ok (.lcmp, 1) := by decide +kernel
theorem dX12_worked_153 : decode cX12_worked 153 = .ok (.ifCond .eq 7, 3) := by decide +kernel
theorem dX12_worked_156 : decode cX12_worked 156 = .ok (.iconst 1, 1) := by decide +kernel
theorem dX12_worked_157 : decode cX12_worked 157 = .ok (.goto 4, 3) := by decide +kernel
theorem dX12_worked_160 : decode cX12_worked 160 = .ok (.iconst 0, 1) := by decide +kernel
theorem dX12_worked_161 : decode cX12_worked 161 = .ok (.ireturn, 1) := by decide +kernel
theorem dX12_workOut_0 : decode cX12_workOut 0 = .ok (.iconst 0, 1) := by decide +kernel
theorem dX12_workOut_1 : decode cX12_workOut 1 = .ok (.istore 4, 2) := by decide +kernel
theorem dX12_workOut_3 : decode cX12_workOut 3 = .ok (.sipush 520, 3) := by decide +kernel
theorem dX12_workOut_6 : decode cX12_workOut 6 = .ok (.iload_n 1, 1) := by decide +kernel
theorem dX12_workOut_7 : decode cX12_workOut 7 = .ok (.imul, 1) := by decide +kernel
theorem dX12_workOut_8 : decode cX12_workOut 8 = .ok (.iload_n 2, 1) := by decide +kernel
theorem dX12_workOut_9 : decode cX12_workOut 9 = .ok (.iadd, 1) := by decide +kernel
theorem dX12_workOut_10 : decode cX12_workOut 10 = .ok (.istore 5, 2) := by decide +kernel
theorem dX12_workOut_12 : decode cX12_workOut 12 = .ok (.iload 5, 2) := by decide +kernel
theorem dX12_workOut_14 : decode cX12_workOut 14 = .ok (.sipush 520, 3) := by decide +kernel
theorem dX12_workOut_17 : decode cX12_workOut 17 = .ok (.iload_n 1, 1) := by decide +kernel
theorem dX12_workOut_18 : decode cX12_workOut 18 = .ok (.imul, 1) := by decide +kernel
theorem dX12_workOut_19 : decode cX12_workOut 19 = .ok (.iload_n 3, 1) := by decide +kernel
theorem dX12_workOut_20 : decode cX12_workOut 20 = .ok (.iadd, 1) := by decide +kernel
theorem dX12_workOut_21 : decode cX12_workOut 21 = .ok (.if_icmp .ge 150, 3) := by decide +kernel
theorem dX12_workOut_24 : decode cX12_workOut 24 = .ok (.aload_n 0, 1) := by decide +kernel
theorem dX12_workOut_25 : decode cX12_workOut 25 = .ok (.getfield 13, 3) := by decide +kernel
theorem dX12_workOut_28 : decode cX12_workOut 28 = .ok (.iload 5, 2) := by decide +kernel
theorem dX12_workOut_30 : decode cX12_workOut 30 = .ok (.iaload, 1) := by decide +kernel
theorem dX12_workOut_31 : decode cX12_workOut 31 = .ok (.ifCond .eq 14, 3) := by decide +kernel
theorem dX12_workOut_34 : decode cX12_workOut 34 = .ok (.aload_n 0, 1) := by decide +kernel
theorem dX12_workOut_35 : decode cX12_workOut 35 = .ok (.getfield 13, 3) := by decide +kernel
theorem dX12_workOut_38 : decode cX12_workOut 38 = .ok (.iload 5, 2) := by decide +kernel
theorem dX12_workOut_40 : decode cX12_workOut 40 = .ok (.iaload, 1) := by decide +kernel
theorem dX12_workOut_41 : decode cX12_workOut 41 = .ok (.iconst 1, 1) := by decide +kernel
theorem dX12_workOut_42 : decode cX12_workOut 42 = .ok (.if_icmp .ne 48, 3) := by decide +kernel
theorem dX12_workOut_45 : decode cX12_workOut 45 = .ok (.aload_n 0, 1) := by decide +kernel
theorem dX12_workOut_46 : decode cX12_workOut 46 = .ok (.getfield 37, 3) := by decide +kernel
theorem dX12_workOut_49 : decode cX12_workOut 49 = .ok (.iload 4, 2) := by decide +kernel
theorem dX12_workOut_51 : decode cX12_workOut 51 = .ok (.aload_n 0, 1) := by decide +kernel
theorem dX12_workOut_52 : decode cX12_workOut 52 = .ok (.getfield 13, 3) := by decide +kernel
theorem dX12_workOut_55 : decode cX12_workOut 55 = .ok (.iload 5, 2) := by decide +kernel
theorem dX12_workOut_57 : decode cX12_workOut 57 = .ok (.iaload, 1) := by decide +kernel
theorem dX12_workOut_58 : decode cX12_workOut 58 = .ok (.ifCond .ne 13, 3) := by decide +kernel
theorem dX12_workOut_61 : decode cX12_workOut 61 = .ok (.aload_n 0, 1) := by decide +kernel
theorem dX12_workOut_62 : decode cX12_workOut 62 = .ok (.getfield 16, 3) := by decide +kernel
theorem dX12_workOut_65 : decode cX12_workOut 65 = .ok (.iload 5, 2) := by decide +kernel
theorem dX12_workOut_67 : decode cX12_workOut 67 = .ok (.iaload, 1) := by decide +kernel
theorem dX12_workOut_68 : decode cX12_workOut 68 = .ok (.goto 15, 3) := by decide +kernel
theorem dX12_workOut_71 : decode cX12_workOut 71 = .ok (.aload_n 0, 1) := by decide +kernel
theorem dX12_workOut_72 : decode cX12_workOut 72 = .ok (.getfield 34, 3) := by decide +kernel
theorem dX12_workOut_75 : decode cX12_workOut 75 = .ok (.aload_n 0, 1) := by decide +kernel
theorem dX12_workOut_76 : decode cX12_workOut 76 = .ok (.getfield 16, 3) := by decide +kernel
theorem dX12_workOut_79 : decode cX12_workOut 79 = .ok (.iload 5, 2) := by decide +kernel
theorem dX12_workOut_81 : decode cX12_workOut 81 = .ok (.iaload, 1) := by decide +kernel
theorem dX12_workOut_82 : decode cX12_workOut 82 = .ok (.iaload, 1) := by decide +kernel
theorem dX12_workOut_83 : decode cX12_workOut 83 = .ok (.iastore, 1) := by decide +kernel
theorem dX12_workOut_84 : decode cX12_workOut 84 = .ok (.iinc 4 1, 3) := by decide +kernel
theorem dX12_workOut_87 : decode cX12_workOut 87 = .ok (.goto 78, 3) := by decide +kernel
theorem dX12_workOut_90 : decode cX12_workOut 90 = .ok (.aload_n 0, 1) := by decide +kernel
theorem dX12_workOut_91 : decode cX12_workOut 91 = .ok (.getfield 13, 3) := by decide +kernel
theorem dX12_workOut_94 : decode cX12_workOut 94 = .ok (.iload 5, 2) := by decide +kernel
theorem dX12_workOut_96 : decode cX12_workOut 96 = .ok (.iaload, 1) := by decide +kernel
theorem dX12_workOut_97 : decode cX12_workOut 97 = .ok (.bipush 9, 2) := by decide +kernel
theorem dX12_workOut_99 : decode cX12_workOut 99 = .ok (.if_icmp .ne 26, 3) := by decide +kernel
theorem dX12_workOut_102 : decode cX12_workOut 102 = .ok (.aload_n 0, 1) := by decide +kernel
theorem dX12_workOut_103 : decode cX12_workOut 103 = .ok (.getfield 37, 3) := by decide +kernel
theorem dX12_workOut_106 : decode cX12_workOut 106 = .ok (.iload 4, 2) := by decide +kernel
theorem dX12_workOut_108 : decode cX12_workOut 108 = .ok (.iconst 1, 1) := by decide +kernel
theorem dX12_workOut_109 : decode cX12_workOut 109 = .ok (.isub, 1) := by decide +kernel
theorem dX12_workOut_110 : decode cX12_workOut 110 = .ok (.iconst 1, 1) := by decide +kernel
theorem dX12_workOut_111 : decode cX12_workOut 111 = .ok (.aload_n 0, 1) := by decide +kernel
theorem dX12_workOut_112 : decode cX12_workOut 112 = .ok (.getfield 37, 3) := by decide +kernel
theorem dX12_workOut_115 : decode cX12_workOut 115 = .ok (.iload 4, 2) := by decide +kernel
theorem dX12_workOut_117 : decode cX12_workOut 117 = .ok (.iconst 1, 1) := by decide +kernel
theorem dX12_workOut_118 : decode cX12_workOut 118 = .ok (.isub, 1) := by decide +kernel
theorem dX12_workOut_119 : decode cX12_workOut 119 = .ok (.iaload, 1) := by decide +kernel
theorem dX12_workOut_120 : decode cX12_workOut 120 = .ok (.isub, 1) := by decide +kernel
theorem dX12_workOut_121 : decode cX12_workOut 121 = .ok (.iastore, 1) := by decide +kernel
theorem dX12_workOut_122 : decode cX12_workOut 122 = .ok (.goto 43, 3) := by decide +kernel
theorem dX12_workOut_125 : decode cX12_workOut 125 = .ok (.iinc 4 (-1), 3) := by decide +kernel
theorem dX12_workOut_128 : decode cX12_workOut 128 = .ok (.aload_n 0, 1) := by decide +kernel
theorem dX12_workOut_129 : decode cX12_workOut 129 = .ok (.getfield 37, 3) := by decide +kernel
theorem dX12_workOut_132 : decode cX12_workOut 132 = .ok (.iload 4, 2) := by decide +kernel
theorem dX12_workOut_134 : decode cX12_workOut 134 = .ok (.iconst 1, 1) := by decide +kernel
theorem dX12_workOut_135 : decode cX12_workOut 135 = .ok (.isub, 1) := by decide +kernel
theorem dX12_workOut_136 : decode cX12_workOut 136 = .ok (.aload_n 0, 1) := by decide +kernel
theorem dX12_workOut_137 : decode cX12_workOut 137 = .ok (.getfield 13, 3) := by decide +kernel
theorem dX12_workOut_140 : decode cX12_workOut 140 = .ok (.iload 5, 2) := by decide +kernel
theorem dX12_workOut_142 : decode cX12_workOut 142 = .ok (.iaload, 1) := by decide +kernel
theorem dX12_workOut_143 : decode cX12_workOut 143 = .ok (.aload_n 0, 1) := by decide +kernel
theorem dX12_workOut_144 : decode cX12_workOut 144 = .ok (.getfield 37, 3) := by decide +kernel
theorem dX12_workOut_147 : decode cX12_workOut 147 = .ok (.iload 4, 2) := by decide +kernel
theorem dX12_workOut_149 : decode cX12_workOut 149 = .ok (.iconst 1, 1) := by decide +kernel
theorem dX12_workOut_150 : decode cX12_workOut 150 = .ok (.isub, 1) := by decide +kernel
theorem dX12_workOut_151 : decode cX12_workOut 151 = .ok (.iaload, 1) := by decide +kernel
theorem dX12_workOut_152 : decode cX12_workOut 152 = .ok (.i2l, 1) := by decide +kernel
theorem dX12_workOut_153 : decode cX12_workOut 153 = .ok (.aload_n 0, 1) := by decide +kernel
theorem dX12_workOut_154 : decode cX12_workOut 154 = .ok (.getfield 37, 3) := by decide +kernel
theorem dX12_workOut_157 : decode cX12_workOut 157 = .ok (.iload 4, 2) := by decide +kernel
theorem dX12_workOut_159 : decode cX12_workOut 159 = .ok (.iaload, 1) := by decide +kernel
theorem dX12_workOut_160 : decode cX12_workOut 160 = .ok (.i2l, 1) := by decide +kernel
theorem dX12_workOut_161 : decode cX12_workOut 161 = .ok (.invokestatic 200, 3) := by decide +kernel
theorem dX12_workOut_164 : decode cX12_workOut 164 = .ok (.iastore, 1) := by decide +kernel
theorem dX12_workOut_165 : decode cX12_workOut 165 = .ok (.iinc 5 1, 3) := by decide +kernel
theorem dX12_workOut_168 : decode cX12_workOut 168 = .ok (.goto (-156), 3) := by decide +kernel
theorem dX12_workOut_171 : decode cX12_workOut 171 = .ok (.aload_n 0, 1) := by decide +kernel
theorem dX12_workOut_172 : decode cX12_workOut 172 = .ok (.getfield 37, 3) := by decide +kernel
theorem dX12_workOut_175 : decode cX12_workOut 175 = .ok (.iconst 0, 1) := by decide +kernel
theorem dX12_workOut_176 : decode cX12_workOut 176 = .ok (.iaload, 1) := by decide +kernel
theorem dX12_workOut_177 : decode cX12_workOut 177 = .ok (.ireturn, 1) := by decide +kernel
theorem dX12_worthOf_0 : decode cX12_worthOf 0 = .ok (.sipush 140, 3) := by decide +kernel
theorem dX12_worthOf_3 : decode cX12_worthOf 3 = .ok (.iload_n 1, 1) := by decide +kernel
theorem dX12_worthOf_4 : decode cX12_worthOf 4 = .ok (.imul, 1) := by decide +kernel
theorem dX12_worthOf_5 : decode cX12_worthOf 5 = .ok (.istore_n 2, 1) := by decide +kernel
theorem dX12_worthOf_6 : decode cX12_worthOf 6 = .ok (.iload_n 2, 1) := by decide +kernel
theorem dX12_worthOf_7 : decode cX12_worthOf 7 = .ok (.sipush 140, 3) := by decide +kernel
theorem dX12_worthOf_10 : decode cX12_worthOf 10 = .ok (.iload_n 1, 1) := by decide +kernel
theorem dX12_worthOf_11 : decode cX12_worthOf 11 = .ok (.imul, 1) := by decide +kernel
theorem dX12_worthOf_12 : decode cX12_worthOf 12 = .ok (.aload_n 0, 1) := by decide +kernel
theorem dX12_worthOf_13 : decode cX12_worthOf 13 = .ok (.getfield 22, 3) := by decide +kernel
theorem dX12_worthOf_16 : decode cX12_worthOf 16 = .ok (.iload_n 1, 1) := by decide +kernel
theorem dX12_worthOf_17 : decode cX12_worthOf 17 = .ok (.iaload, 1) := by decide +kernel
theorem dX12_worthOf_18 : decode cX12_worthOf 18 = .ok (.iadd, 1) := by decide +kernel
theorem dX12_worthOf_19 : decode cX12_worthOf 19 = .ok (.if_icmp .ge 62, 3) := by decide +kernel
theorem dX12_worthOf_22 : decode cX12_worthOf 22 = .ok (.aload_n 0, 1) := by decide +kernel
theorem dX12_worthOf_23 : decode cX12_worthOf 23 = .ok (.getfield 25, 3) := by decide +kernel
theorem dX12_worthOf_26 : decode cX12_worthOf 26 = .ok (.iload_n 2, 1) := by decide +kernel
theorem dX12_worthOf_27 : decode cX12_worthOf 27 = .ok (.iaload, 1) := by decide +kernel
theorem dX12_worthOf_28 : decode cX12_worthOf 28 = .ok (.aload_n 0, 1) := by decide +kernel
theorem dX12_worthOf_29 : decode cX12_worthOf 29 = .ok (.getfield 28, 3) := by decide +kernel
theorem dX12_worthOf_32 : decode cX12_worthOf 32 = .ok (.iload_n 2, 1) := by decide +kernel
theorem dX12_worthOf_33 : decode cX12_worthOf 33 = .ok (.iaload, 1) := by decide +kernel
theorem dX12_worthOf_34 : decode cX12_worthOf 34 = .ok (.if_icmp .eq 23, 3) := by decide +kernel
theorem dX12_worthOf_37 : decode cX12_worthOf 37 = .ok (.aload_n 0, 1) := by decide +kernel
theorem dX12_worthOf_38 : decode cX12_worthOf 38 = .ok (.iload_n 1, 1) := by decide +kernel
theorem dX12_worthOf_39 : decode cX12_worthOf 39 = .ok (.aload_n 0, 1) := by decide +kernel
theorem dX12_worthOf_40 : decode cX12_worthOf 40 = .ok (.getfield 25, 3) := by decide +kernel
theorem dX12_worthOf_43 : decode cX12_worthOf 43 = .ok (.iload_n 2, 1) := by decide +kernel
theorem dX12_worthOf_44 : decode cX12_worthOf 44 = .ok (.iaload, 1) := by decide +kernel
theorem dX12_worthOf_45 : decode cX12_worthOf 45 = .ok (.aload_n 0, 1) := by decide +kernel
theorem dX12_worthOf_46 : decode cX12_worthOf 46 = .ok (.getfield 28, 3) := by decide +kernel
theorem dX12_worthOf_49 : decode cX12_worthOf 49 = .ok (.iload_n 2, 1) := by decide +kernel
theorem dX12_worthOf_50 : decode cX12_worthOf 50 = .ok (.iaload, 1) := by decide +kernel
theorem dX12_worthOf_51 : decode cX12_worthOf 51 = .ok (.invokevirtual 204, 3) := by decide +kernel
theorem dX12_worthOf_54 : decode cX12_worthOf 54 = .ok (.ifCond .eq 21, 3) := by decide +kernel
theorem dX12_worthOf_57 : decode cX12_worthOf 57 = .ok (.aload_n 0, 1) := by decide +kernel
theorem dX12_worthOf_58 : decode cX12_worthOf 58 = .ok (.iload_n 1, 1) := by decide +kernel
theorem dX12_worthOf_59 : decode cX12_worthOf 59 = .ok (.aload_n 0, 1) := by decide +kernel
theorem dX12_worthOf_60 : decode cX12_worthOf 60 = .ok (.getfield 28, 3) := by decide +kernel
theorem dX12_worthOf_63 : decode cX12_worthOf 63 = .ok (.iload_n 2, 1) := by decide +kernel
theorem dX12_worthOf_64 : decode cX12_worthOf 64 = .ok (.iaload, 1) := by decide +kernel
theorem dX12_worthOf_65 : decode cX12_worthOf 65 = .ok (.aload_n 0, 1) := by decide +kernel
theorem dX12_worthOf_66 : decode cX12_worthOf 66 = .ok (.getfield 31, 3) := by decide +kernel
theorem dX12_worthOf_69 : decode cX12_worthOf 69 = .ok (.iload_n 2, 1) := by decide +kernel
theorem dX12_worthOf_70 : decode cX12_worthOf 70 = .ok (.iaload, 1) := by decide +kernel
theorem dX12_worthOf_71 : decode cX12_worthOf 71 = .ok (.invokevirtual 204, 3) := by decide +kernel
theorem dX12_worthOf_74 : decode cX12_worthOf 74 = .ok (.ireturn, 1) := by decide +kernel
theorem dX12_worthOf_75 : decode cX12_worthOf 75 = .ok (.iinc 2 1, 3) := by decide +kernel
theorem dX12_worthOf_78 : decode cX12_worthOf 78 = .ok (.goto (-72), 3) := by decide +kernel
theorem dX12_worthOf_81 : decode cX12_worthOf 81 = .ok (.iconst 0, 1) := by decide +kernel
theorem dX12_worthOf_82 : decode cX12_worthOf 82 = .ok (.ireturn, 1) := by decide +kernel
theorem dX12_number_0 : decode cX12_number 0 = .ok (.aload_n 0, 1) := by decide +kernel
theorem dX12_number_1 : decode cX12_number 1 = .ok (.invokevirtual 122, 3) := by decide +kernel
theorem dX12_number_4 : decode cX12_number 4 = .ok (.invokestatic 125, 3) := by decide +kernel
theorem dX12_number_7 : decode cX12_number 7 = .ok (.ifCond .ne 9, 3) := by decide +kernel
theorem dX12_number_10 : decode cX12_number 10 = .ok (.aload_n 0, 1) := by decide +kernel
theorem dX12_number_11 : decode cX12_number 11 = .ok (.invokevirtual 119, 3) := by decide +kernel
theorem dX12_number_14 : decode cX12_number 14 = .ok (.iload_n 1, 1) := by decide +kernel
theorem dX12_number_15 : decode cX12_number 15 = .ok (.ireturn, 1) := by decide +kernel
theorem dX12_number_16 : decode cX12_number 16 = .ok (.aload_n 0, 1) := by decide +kernel
theorem dX12_number_17 : decode cX12_number 17 = .ok (.invokevirtual 106, 3) := by decide +kernel
theorem dX12_number_20 : decode cX12_number 20 = .ok (.bipush 48, 2) := by decide +kernel
theorem dX12_number_22 : decode cX12_number 22 = .ok (.isub, 1) := by decide +kernel
theorem dX12_number_23 : decode cX12_number 23 = .ok (.istore_n 3, 1) := by decide +kernel
theorem dX12_number_24 : decode cX12_number 24 = .ok (.aload_n 0, 1) := by decide +kernel
theorem dX12_number_25 : decode cX12_number 25 = .ok (.dup, 1) := by decide +kernel
theorem dX12_number_26 : decode cX12_number 26 = .ok (.getfield 103, 3) := by decide +kernel
theorem dX12_number_29 : decode cX12_number 29 = .ok (.iconst 1, 1) := by decide +kernel
theorem dX12_number_30 : decode cX12_number 30 = .ok (.iadd, 1) := by decide +kernel
theorem dX12_number_31 : decode cX12_number 31 = .ok (.putfield 103, 3) := by decide +kernel
theorem dX12_number_34 : decode cX12_number 34 = .ok (.aload_n 0, 1) := by decide +kernel
theorem dX12_number_35 : decode cX12_number 35 = .ok (.invokevirtual 106, 3) := by decide +kernel
theorem dX12_number_38 : decode cX12_number 38 = .ok (.invokestatic 125, 3) := by decide +kernel
theorem dX12_number_41 : decode cX12_number 41 = .ok (.ifCond .eq 26, 3) := by decide +kernel
theorem dX12_number_44 : decode cX12_number 44 = .ok (.bipush 10, 2) := by decide +kernel
theorem dX12_number_46 : decode cX12_number 46 = .ok (.iload_n 3, 1) := by decide +kernel
theorem dX12_number_47 : decode cX12_number 47 = .ok (.imul, 1) := by decide +kernel
theorem dX12_number_48 : decode cX12_number 48 = .ok (.aload_n 0, 1) := by decide +kernel
theorem dX12_number_49 : decode cX12_number 49 = .ok (.invokevirtual 106, 3) := by decide +kernel
theorem dX12_number_52 : decode cX12_number 52 = .ok (.iadd, 1) := by decide +kernel
theorem dX12_number_53 : decode cX12_number 53 = .ok (.bipush 48, 2) := by decide +kernel
theorem dX12_number_55 : decode cX12_number 55 = .ok (.isub, 1) := by decide +kernel
theorem dX12_number_56 : decode cX12_number 56 = .ok (.istore_n 3, 1) := by decide +kernel
theorem dX12_number_57 : decode cX12_number 57 = .ok (.aload_n 0, 1) := by decide +kernel
theorem dX12_number_58 : decode cX12_number 58 = .ok (.dup, 1) := by decide +kernel
theorem dX12_number_59 : decode cX12_number 59 = .ok (.getfield 103, 3) := by decide +kernel
theorem dX12_number_62 : decode cX12_number 62 = .ok (.iconst 1, 1) := by decide +kernel
theorem dX12_number_63 : decode cX12_number 63 = .ok (.iadd, 1) := by decide +kernel
theorem dX12_number_64 : decode cX12_number 64 = .ok (.putfield 103, 3) := by decide +kernel
theorem dX12_number_67 : decode cX12_number 67 = .ok (.aload_n 0, 1) := by decide +kernel
theorem dX12_number_68 : decode cX12_number 68 = .ok (.invokevirtual 106, 3) := by decide +kernel
theorem dX12_number_71 : decode cX12_number 71 = .ok (.invokestatic 125, 3) := by decide +kernel
theorem dX12_number_74 : decode cX12_number 74 = .ok (.ifCond .eq 10, 3) := by decide +kernel
theorem dX12_number_77 : decode cX12_number 77 = .ok (.aload_n 0, 1) := by decide +kernel
theorem dX12_number_78 : decode cX12_number 78 = .ok (.invokevirtual 119, 3) := by decide +kernel
theorem dX12_number_81 : decode cX12_number 81 = .ok (.goto 26, 3) := by decide +kernel
theorem dX12_number_84 : decode cX12_number 84 = .ok (.iload_n 3, 1) := by decide +kernel
theorem dX12_number_85 : decode cX12_number 85 = .ok (.iload_n 1, 1) := by decide +kernel
theorem dX12_number_86 : decode cX12_number 86 = .ok (.iload_n 2, 1) := by decide +kernel
theorem dX12_number_87 : decode cX12_number 87 = .ok (.invokestatic 208, 3) := by decide +kernel
theorem dX12_number_90 : decode cX12_number 90 = .ok (.ifCond .ne 17, 3) := by decide +kernel
theorem dX12_number_93 : decode cX12_number 93 = .ok (.aload_n 0, 1) := by decide +kernel
theorem dX12_number_94 : decode cX12_number 94 = .ok (.dup, 1) := by decide +kernel
theorem dX12_number_95 : decode cX12_number 95 = .ok (.getfield 103, 3) := by decide +kernel
theorem dX12_number_98 : decode cX12_number 98 = .ok (.iconst 1, 1) := by decide +kernel
theorem dX12_number_99 : decode cX12_number 99 = .ok (.isub, 1) := by decide +kernel
theorem dX12_number_100 : decode cX12_number 100 = .ok (.putfield 103, 3) := by decide +kernel
theorem dX12_number_103 : decode cX12_number 103 = .ok (.aload_n 0, 1) := by decide +kernel
theorem dX12_number_104 : decode cX12_number 104 = .ok (.invokevirtual 119, 3) := by decide +kernel
theorem dX12_number_107 : decode cX12_number 107 = .ok (.iload_n 3, 1) := by decide +kernel
theorem dX12_number_108 : decode cX12_number 108 = .ok (.ireturn, 1) := by decide +kernel
theorem dX12_itemOf_0 : decode cX12_itemOf 0 = .ok (.iload_n 0, 1) := by decide +kernel
theorem dX12_itemOf_1 : decode cX12_itemOf 1 = .ok (.bipush 115, 2) := by decide +kernel
theorem dX12_itemOf_3 : decode cX12_itemOf 3 = .ok (.if_icmp .ne 45, 3) := by decide +kernel
theorem dX12_itemOf_6 : decode cX12_itemOf 6 = .ok (.iload_n 1, 1) := by decide +kernel
theorem dX12_itemOf_7 : decode cX12_itemOf 7 = .ok (.bipush 101, 2) := by decide +kernel
theorem dX12_itemOf_9 : decode cX12_itemOf 9 = .ok (.if_icmp .ne 7, 3) := by decide +kernel
theorem dX12_itemOf_12 : decode cX12_itemOf 12 = .ok (.iconst 0, 1) := by decide +kernel
theorem dX12_itemOf_13 : decode cX12_itemOf 13 = .ok (.goto 34, 3) := by decide +kernel
theorem dX12_itemOf_16 : decode cX12_itemOf 16 = .ok (.iload_n 1, 1) := by decide +kernel
theorem dX12_itemOf_17 : decode cX12_itemOf 17 = .ok (.bipush 102, 2) := by decide +kernel
theorem dX12_itemOf_19 : decode cX12_itemOf 19 = .ok (.if_icmp .ne 7, 3) := by decide +kernel
theorem dX12_itemOf_22 : decode cX12_itemOf 22 = .ok (.iconst 1, 1) := by decide +kernel
theorem dX12_itemOf_23 : decode cX12_itemOf 23 = .ok (.goto 24, 3) := by decide +kernel
theorem dX12_itemOf_26 : decode cX12_itemOf 26 = .ok (.iload_n 1, 1) := by decide +kernel
theorem dX12_itemOf_27 : decode cX12_itemOf 27 = .ok (.bipush 103, 2) := by decide +kernel
theorem dX12_itemOf_29 : decode cX12_itemOf 29 = .ok (.if_icmp .ne 7, 3) := by decide +kernel
theorem dX12_itemOf_32 : decode cX12_itemOf 32 = .ok (.iconst 2, 1) := by decide +kernel
theorem dX12_itemOf_33 : decode cX12_itemOf 33 = .ok (.goto 14, 3) := by decide +kernel
theorem dX12_itemOf_36 : decode cX12_itemOf 36 = .ok (.iload_n 1, 1) := by decide +kernel
theorem dX12_itemOf_37 : decode cX12_itemOf 37 = .ok (.bipush 107, 2) := by decide +kernel
theorem dX12_itemOf_39 : decode cX12_itemOf 39 = .ok (.if_icmp .ne 7, 3) := by decide +kernel
theorem dX12_itemOf_42 : decode cX12_itemOf 42 = .ok (.iconst 3, 1) := by decide +kernel
theorem dX12_itemOf_43 : decode cX12_itemOf 43 = .ok (.goto 4, 3) := by decide +kernel
theorem dX12_itemOf_46 : decode cX12_itemOf 46 = .ok (.iconst (-1), 1) := by decide +kernel
theorem dX12_itemOf_47 : decode cX12_itemOf 47 = .ok (.ireturn, 1) := by decide +kernel
theorem dX12_itemOf_48 : decode cX12_itemOf 48 = .ok (.iload_n 1, 1) := by decide +kernel
theorem dX12_itemOf_49 : decode cX12_itemOf 49 = .ok (.bipush 99, 2) := by decide +kernel
theorem dX12_itemOf_51 : decode cX12_itemOf 51 = .ok (.if_icmp .ne 7, 3) := by decide +kernel
theorem dX12_itemOf_54 : decode cX12_itemOf 54 = .ok (.iconst 0, 1) := by decide +kernel
theorem dX12_itemOf_55 : decode cX12_itemOf 55 = .ok (.goto 24, 3) := by decide +kernel
theorem dX12_itemOf_58 : decode cX12_itemOf 58 = .ok (.iload_n 1, 1) := by decide +kernel
theorem dX12_itemOf_59 : decode cX12_itemOf 59 = .ok (.bipush 112, 2) := by decide +kernel
theorem dX12_itemOf_61 : decode cX12_itemOf 61 = .ok (.if_icmp .ne 7, 3) := by decide +kernel
theorem dX12_itemOf_64 : decode cX12_itemOf 64 = .ok (.iconst 1, 1) := by decide +kernel
theorem dX12_itemOf_65 : decode cX12_itemOf 65 = .ok (.goto 14, 3) := by decide +kernel
theorem dX12_itemOf_68 : decode cX12_itemOf 68 = .ok (.iload_n 1, 1) := by decide +kernel
theorem dX12_itemOf_69 : decode cX12_itemOf 69 = .ok (.bipush 108, 2) := by decide +kernel
theorem dX12_itemOf_71 : decode cX12_itemOf 71 = .ok (.if_icmp .ne 7, 3) := by decide +kernel
theorem dX12_itemOf_74 : decode cX12_itemOf 74 = .ok (.iconst 2, 1) := by decide +kernel
theorem dX12_itemOf_75 : decode cX12_itemOf 75 = .ok (.goto 4, 3) := by decide +kernel
theorem dX12_itemOf_78 : decode cX12_itemOf 78 = .ok (.iconst (-1), 1) := by decide +kernel
theorem dX12_itemOf_79 : decode cX12_itemOf 79 = .ok (.ireturn, 1) := by decide +kernel
theorem dX12_lowest_0 : decode cX12_lowest 0 = .ok (.iload_n 0, 1) := by decide +kernel
theorem dX12_lowest_1 : decode cX12_lowest 1 = .ok (.bipush 115, 2) := by decide +kernel
theorem dX12_lowest_3 : decode cX12_lowest 3 = .ok (.if_icmp .ne 16, 3) := by decide +kernel
theorem dX12_lowest_6 : decode cX12_lowest 6 = .ok (.iload_n 1, 1) := by decide +kernel
theorem dX12_lowest_7 : decode cX12_lowest 7 = .ok (.iconst 2, 1) := by decide +kernel
theorem dX12_lowest_8 : decode cX12_lowest 8 = .ok (.if_icmp .ne 7, 3) := by decide +kernel
theorem dX12_lowest_11 : decode cX12_lowest 11 = .ok (.iconst 1, 1) := by decide +kernel
theorem dX12_lowest_12 : decode cX12_lowest 12 = .ok (.goto 16, 3) := by decide +kernel
theorem dX12_lowest_15 : decode cX12_lowest 15 = .ok (.iconst 0, 1) := by decide +kernel
theorem dX12_lowest_16 : decode cX12_lowest 16 = .ok (.goto 12, 3) := by decide +kernel
theorem dX12_lowest_19 : decode cX12_lowest 19 = .ok (.iload_n 1, 1) := by decide +kernel
theorem dX12_lowest_20 : decode cX12_lowest 20 = .ok (.ifCond .ne 7, 3) := by decide +kernel
theorem dX12_lowest_23 : decode cX12_lowest 23 = .ok (.iconst 0, 1) := by decide +kernel
theorem dX12_lowest_24 : decode cX12_lowest 24 = .ok (.goto 4, 3) := by decide +kernel
theorem dX12_lowest_27 : decode cX12_lowest 27 = .ok (.iconst 1, 1) := by decide +kernel
theorem dX12_lowest_28 : decode cX12_lowest 28 = .ok (.ireturn, 1) := by decide +kernel
theorem dX12_highest_0 : decode cX12_highest 0 = .ok (.iload_n 0, 1) := by decide +kernel
theorem dX12_highest_1 : decode cX12_highest 1 = .ok (.bipush 115, 2) := by decide +kernel
theorem dX12_highest_3 : decode cX12_highest 3 = .ok (.if_icmp .ne 16, 3) := by decide +kernel
theorem dX12_highest_6 : decode cX12_highest 6 = .ok (.iload_n 1, 1) := by decide +kernel
theorem dX12_highest_7 : decode cX12_highest 7 = .ok (.iconst 3, 1) := by decide +kernel
theorem dX12_highest_8 : decode cX12_highest 8 = .ok (.if_icmp .ne 8, 3) := by decide +kernel
theorem dX12_highest_11 : decode cX12_highest 11 = .ok (.bipush 99, 2) := by decide +kernel
theorem dX12_highest_13 : decode cX12_highest 13 = .ok (.goto 5, 3) := by decide +kernel
theorem dX12_highest_16 : decode cX12_highest 16 = .ok (.bipush 9, 2) := by decide +kernel
theorem dX12_highest_18 : decode cX12_highest 18 = .ok (.ireturn, 1) := by decide +kernel
theorem dX12_highest_19 : decode cX12_highest 19 = .ok (.iload_n 1, 1) := by decide +kernel
theorem dX12_highest_20 : decode cX12_highest 20 = .ok (.iconst 1, 1) := by decide +kernel
theorem dX12_highest_21 : decode cX12_highest 21 = .ok (.if_icmp .ne 8, 3) := by decide +kernel
theorem dX12_highest_24 : decode cX12_highest 24 = .ok (.bipush 6, 2) := by decide +kernel
theorem dX12_highest_26 : decode cX12_highest 26 = .ok (.goto 5, 3) := by decide +kernel
theorem dX12_highest_29 : decode cX12_highest 29 = .ok (.bipush 20, 2) := by decide +kernel
theorem dX12_highest_31 : decode cX12_highest 31 = .ok (.ireturn, 1) := by decide +kernel
theorem dX12_usual_0 : decode cX12_usual 0 = .ok (.iload_n 0, 1) := by decide +kernel
theorem dX12_usual_1 : decode cX12_usual 1 = .ok (.bipush 115, 2) := by decide +kernel
theorem dX12_usual_3 : decode cX12_usual 3 = .ok (.if_icmp .ne 32, 3) := by decide +kernel
theorem dX12_usual_6 : decode cX12_usual 6 = .ok (.iload_n 1, 1) := by decide +kernel
theorem dX12_usual_7 : decode cX12_usual 7 = .ok (.ifCond .ne 7, 3) := by decide +kernel
theorem dX12_usual_10 : decode cX12_usual 10 = .ok (.iconst 2, 1) := by decide +kernel
theorem dX12_usual_11 : decode cX12_usual 11 = .ok (.goto 23, 3) := by decide +kernel
theorem dX12_usual_14 : decode cX12_usual 14 = .ok (.iload_n 1, 1) := by decide +kernel
theorem dX12_usual_15 : decode cX12_usual 15 = .ok (.iconst 1, 1) := by decide +kernel
theorem dX12_usual_16 : decode cX12_usual 16 = .ok (.if_icmp .ne 7, 3) := by decide +kernel
theorem dX12_usual_19 : decode cX12_usual 19 = .ok (.iconst 1, 1) := by decide +kernel
theorem dX12_usual_20 : decode cX12_usual 20 = .ok (.goto 14, 3) := by decide +kernel
theorem dX12_usual_23 : decode cX12_usual 23 = .ok (.iload_n 1, 1) := by decide +kernel
theorem dX12_usual_24 : decode cX12_usual 24 = .ok (.iconst 2, 1) := by decide +kernel
theorem dX12_usual_25 : decode cX12_usual 25 = .ok (.if_icmp .ne 7, 3) := by decide +kernel
theorem dX12_usual_28 : decode cX12_usual 28 = .ok (.iconst 4, 1) := by decide +kernel
theorem dX12_usual_29 : decode cX12_usual 29 = .ok (.goto 5, 3) := by decide +kernel
theorem dX12_usual_32 : decode cX12_usual 32 = .ok (.bipush 20, 2) := by decide +kernel
theorem dX12_usual_34 : decode cX12_usual 34 = .ok (.ireturn, 1) := by decide +kernel
theorem dX12_usual_35 : decode cX12_usual 35 = .ok (.iload_n 1, 1) := by decide +kernel
theorem dX12_usual_36 : decode cX12_usual 36 = .ok (.ifCond .ne 8, 3) := by decide +kernel
theorem dX12_usual_39 : decode cX12_usual 39 = .ok (.bipush 10, 2) := by decide +kernel
theorem dX12_usual_41 : decode cX12_usual 41 = .ok (.goto 13, 3) := by decide +kernel
theorem dX12_usual_44 : decode cX12_usual 44 = .ok (.iload_n 1, 1) := by decide +kernel
theorem dX12_usual_45 : decode cX12_usual 45 = .ok (.iconst 1, 1) := by decide +kernel
theorem dX12_usual_46 : decode cX12_usual 46 = .ok (.if_icmp .ne 7, 3) := by decide +kernel
theorem dX12_usual_49 : decode cX12_usual 49 = .ok (.iconst 2, 1) := by decide +kernel
theorem dX12_usual_50 : decode cX12_usual 50 = .ok (.goto 4, 3) := by decide +kernel
theorem dX12_usual_53 : decode cX12_usual 53 = .ok (.iconst 5, 1) := by decide +kernel
theorem dX12_usual_54 : decode cX12_usual 54 = .ok (.ireturn, 1) := by decide +kernel
theorem dX12_items_0 : decode cX12_items 0 = .ok (.iconst 0, 1) := by decide +kernel
theorem dX12_items_1 : decode cX12_items 1 = .ok (.istore 5, 2) := by decide +kernel
theorem dX12_items_3 : decode cX12_items 3 = .ok (.iload 5, 2) := by decide +kernel
theorem dX12_items_5 : decode cX12_items 5 = .ok (.iload 4, 2) := by decide +kernel
theorem dX12_items_7 : decode cX12_items 7 = .ok (.if_icmp .ge 21, 3) := by decide +kernel
theorem dX12_items_10 : decode cX12_items 10 = .ok (.aload_n 2, 1) := by decide +kernel
theorem dX12_items_11 : decode cX12_items 11 = .ok (.iload_n 3, 1) := by decide +kernel
theorem dX12_items_12 : decode cX12_items 12 = .ok (.iload 5, 2) := by decide +kernel
theorem dX12_items_14 : decode cX12_items 14 = .ok (.iadd, 1) := by decide +kernel
theorem dX12_items_15 : decode cX12_items 15 = .ok (.iload_n 1, 1) := by decide +kernel
theorem dX12_items_16 : decode cX12_items 16 = .ok (.iload 5, 2) := by decide +kernel
theorem dX12_items_18 : decode cX12_items 18 = .ok (.invokestatic 212, 3) := by decide +kernel
theorem dX12_items_21 : decode cX12_items 21 = .ok (.iastore, 1) := by decide +kernel
theorem dX12_items_22 : decode cX12_items 22 = .ok (.iinc 5 1, 3) := by decide +kernel
theorem dX12_items_25 : decode cX12_items 25 = .ok (.goto (-22), 3) := by decide +kernel
theorem dX12_items_28 : decode cX12_items 28 = .ok (.iconst 0, 1) := by decide +kernel
theorem dX12_items_29 : decode cX12_items 29 = .ok (.istore 5, 2) := by decide +kernel
theorem dX12_items_31 : decode cX12_items 31 = .ok (.iload_n 1, 1) := by decide +kernel
theorem dX12_items_32 : decode cX12_items 32 = .ok (.aload_n 0, 1) := by decide +kernel
theorem dX12_items_33 : decode cX12_items 33 = .ok (.invokevirtual 122, 3) := by decide +kernel
theorem dX12_items_36 : decode cX12_items 36 = .ok (.invokestatic 216, 3) := by decide +kernel
theorem dX12_items_39 : decode cX12_items 39 = .ok (.istore 6, 2) := by decide +kernel
theorem dX12_items_41 : decode cX12_items 41 = .ok (.aload_n 0, 1) := by decide +kernel
theorem dX12_items_42 : decode cX12_items 42 = .ok (.getfield 110, 3) := by decide +kernel
theorem dX12_items_45 : decode cX12_items 45 = .ok (.iconst (-1), 1) := by decide +kernel
theorem dX12_items_46 : decode cX12_items 46 = .ok (.if_icmp .ne 85, 3) := by decide +kernel
theorem dX12_items_49 : decode cX12_items 49 = .ok (.iload 6, 2) := by decide +kernel
theorem dX12_items_51 : decode cX12_items 51 = .ok (.iconst (-1), 1) := by decide +kernel
theorem dX12_items_52 : decode cX12_items 52 = .ok (.if_icmp .eq 79, 3) := by decide +kernel
theorem dX12_items_55 : decode cX12_items 55 = .ok (.iload 5, 2) := by decide +kernel
theorem dX12_items_57 : decode cX12_items 57 = .ok (.iload 6, 2) := by decide +kernel
theorem dX12_items_59 : decode cX12_items 59 = .ok (.invokestatic 219, 3) := by decide +kernel
theorem dX12_items_62 : decode cX12_items 62 = .ok (.ifCond .ne 69, 3) := by decide +kernel
theorem dX12_items_65 : decode cX12_items 65 = .ok (.iload 5, 2) := by decide +kernel
theorem dX12_items_67 : decode cX12_items 67 = .ok (.iconst 1, 1) := by decide +kernel
theorem dX12_items_68 : decode cX12_items 68 = .ok (.iload 6, 2) := by decide +kernel
theorem dX12_items_70 : decode cX12_items 70 = .ok (.ishl, 1) := by decide +kernel
theorem dX12_items_71 : decode cX12_items 71 = .ok (.ior, 1) := by decide +kernel
theorem dX12_items_72 : decode cX12_items 72 = .ok (.istore 5, 2) := by decide +kernel
theorem dX12_items_74 : decode cX12_items 74 = .ok (.aload_n 0, 1) := by decide +kernel
theorem dX12_items_75 : decode cX12_items 75 = .ok (.dup, 1) := by decide +kernel
theorem dX12_items_76 : decode cX12_items 76 = .ok (.getfield 103, 3) := by decide +kernel
theorem dX12_items_79 : decode cX12_items 79 = .ok (.iconst 1, 1) := by decide +kernel
theorem dX12_items_80 : decode cX12_items 80 = .ok (.iadd, 1) := by decide +kernel
theorem dX12_items_81 : decode cX12_items 81 = .ok (.putfield 103, 3) := by decide +kernel
theorem dX12_items_84 : decode cX12_items 84 = .ok (.aload_n 2, 1) := by decide +kernel
theorem dX12_items_85 : decode cX12_items 85 = .ok (.iload_n 3, 1) := by decide +kernel
theorem dX12_items_86 : decode cX12_items 86 = .ok (.iload 6, 2) := by decide +kernel
theorem dX12_items_88 : decode cX12_items 88 = .ok (.iadd, 1) := by decide +kernel
theorem dX12_items_89 : decode cX12_items 89 = .ok (.aload_n 0, 1) := by decide +kernel
theorem dX12_items_90 : decode cX12_items 90 = .ok (.iload_n 1, 1) := by decide +kernel
theorem dX12_items_91 : decode cX12_items 91 = .ok (.iload 6, 2) := by decide +kernel
theorem dX12_items_93 : decode cX12_items 93 = .ok (.invokestatic 223, 3) := by decide +kernel
theorem dX12_items_96 : decode cX12_items 96 = .ok (.iload_n 1, 1) := by decide +kernel
theorem dX12_items_97 : decode cX12_items 97 = .ok (.iload 6, 2) := by decide +kernel
theorem dX12_items_99 : decode cX12_items 99 = .ok (.invokestatic 226, 3) := by decide +kernel
theorem dX12_items_102 : decode cX12_items 102 = .ok (.invokevirtual 229, 3) := by decide +kernel
theorem dX12_items_105 : decode cX12_items 105 = .ok (.iastore, 1) := by decide +kernel
theorem dX12_items_106 : decode cX12_items 106 = .ok (.aload_n 0, 1) := by decide +kernel
theorem dX12_items_107 : decode cX12_items 107 = .ok (.getfield 110, 3) := by decide +kernel
theorem dX12_items_110 : decode cX12_items 110 = .ok (.iconst (-1), 1) := by decide +kernel
theorem dX12_items_111 : decode cX12_items 111 = .ok (.if_icmp .ne 14, 3) := by decide +kernel
theorem dX12_items_114 : decode cX12_items 114 = .ok (.iload_n 1, 1) := by decide +kernel
theorem dX12_items_115 : decode cX12_items 115 = .ok (.aload_n 0, 1) := by decide +kernel
theorem dX12_items_116 : decode cX12_items 116 = .ok (.invokevirtual 122, 3) := by decide +kernel
theorem dX12_items_119 : decode cX12_items 119 = .ok (.invokestatic 216, 3) := by decide +kernel
theorem dX12_items_122 : decode cX12_items 122 = .ok (.goto 4, 3) := by decide +kernel
theorem dX12_items_125 : decode cX12_items 125 = .ok (.iconst (-1), 1) := by decide +kernel
theorem dX12_items_126 : decode cX12_items 126 = .ok (.istore 6, 2) := by decide +kernel
theorem dX12_items_128 : decode cX12_items 128 = .ok (.goto (-87), 3) := by decide +kernel
theorem dX12_items_131 : decode cX12_items 131 = .ok (.return_, 1) := by decide +kernel
theorem dX12_readMill_0 : decode cX12_readMill 0 = .ok (.aload_n 0, 1) := by decide +kernel
theorem dX12_readMill_1 : decode cX12_readMill 1 = .ok (.iconst 0, 1) := by decide +kernel
theorem dX12_readMill_2 : decode cX12_readMill 2 = .ok (.putfield 103, 3) := by decide +kernel
theorem dX12_readMill_5 : decode cX12_readMill 5 = .ok (.aload_n 0, 1) := by decide +kernel
theorem dX12_readMill_6 : decode cX12_readMill 6 = .ok (.iconst (-1), 1) := by decide +kernel
theorem dX12_readMill_7 : decode cX12_readMill 7 = .ok (.putfield 110, 3) := by decide +kernel
theorem dX12_readMill_10 : decode cX12_readMill 10 = .ok (.aload_n 0, 1) := by decide +kernel
theorem dX12_readMill_11 : decode cX12_readMill 11 = .ok (.iconst 0, 1) := by decide +kernel
theorem dX12_readMill_12 : decode cX12_readMill 12 = .ok (.putfield 232, 3) := by decide +kernel
theorem dX12_readMill_15 : decode cX12_readMill 15 = .ok (.iconst 0, 1) := by decide +kernel
theorem dX12_readMill_16 : decode cX12_readMill 16 = .ok (.istore_n 1, 1) := by decide +kernel
theorem dX12_readMill_17 : decode cX12_readMill 17 = .ok (.iconst 0, 1) := by decide +kernel
theorem dX12_readMill_18 : decode cX12_readMill 18 = .ok (.istore_n 2, 1) := by decide +kernel
theorem dX12_readMill_19 : decode cX12_readMill 19 = .ok (.iload_n 2, 1) := by decide +kernel
theorem dX12_readMill_20 : decode cX12_readMill 20 = .ok (.iconst 4, 1) := by decide +kernel
theorem dX12_readMill_21 : decode cX12_readMill 21 = .ok (.if_icmp .ge 21, 3) := by decide +kernel
theorem dX12_readMill_24 : decode cX12_readMill 24 = .ok (.aload_n 0, 1) := by decide +kernel
theorem dX12_readMill_25 : decode cX12_readMill 25 = .ok (.getfield 40, 3) := by decide +kernel
theorem dX12_readMill_28 : decode cX12_readMill 28 = .ok (.iload_n 2, 1) := by decide +kernel
theorem dX12_readMill_29 : decode cX12_readMill 29 = .ok (.bipush 115, 2) := by decide +kernel
theorem dX12_readMill_31 : decode cX12_readMill 31 = .ok (.iload_n 2, 1) := by decide +kernel
theorem dX12_readMill_32 : decode cX12_readMill 32 = .ok (.invokestatic 212, 3) := by decide +kernel
theorem dX12_readMill_35 : decode cX12_readMill 35 = .ok (.iastore, 1) := by decide +kernel
theorem dX12_readMill_36 : decode cX12_readMill 36 = .ok (.iinc 2 1, 3) := by decide +kernel
theorem dX12_readMill_39 : decode cX12_readMill 39 = .ok (.goto (-20), 3) := by decide +kernel
theorem dX12_readMill_42 : decode cX12_readMill 42 = .ok (.iconst 1, 1) := by decide +kernel
theorem dX12_readMill_43 : decode cX12_readMill 43 = .ok (.istore_n 2, 1) := by decide +kernel
theorem dX12_readMill_44 : decode cX12_readMill 44 = .ok (.iload_n 2, 1) := by decide +kernel
theorem dX12_readMill_45 : decode cX12_readMill 45 = .ok (.ifCond .eq 154, 3) := by decide +kernel
theorem dX12_readMill_48 : decode cX12_readMill 48 = .ok (.aload_n 0, 1) := by decide +kernel
theorem dX12_readMill_49 : decode cX12_readMill 49 = .ok (.getfield 110, 3) := by decide +kernel
theorem dX12_readMill_52 : decode cX12_readMill 52 = .ok (.iconst (-1), 1) := by decide +kernel
theorem dX12_readMill_53 : decode cX12_readMill 53 = .ok (.if_icmp .ne 146, 3) := by decide +kernel
theorem dX12_readMill_56 : decode cX12_readMill 56 = .ok (.aload_n 0, 1) := by decide +kernel
theorem dX12_readMill_57 : decode cX12_readMill 57 = .ok (.invokevirtual 122, 3) := by decide +kernel
theorem dX12_readMill_60 : decode cX12_readMill 60 = .ok (.istore_n 3, 1) := by decide +kernel
theorem dX12_readMill_61 : decode cX12_readMill 61 = .ok (.iload_n 3, 1) := by decide +kernel
theorem dX12_readMill_62 : decode cX12_readMill 62 = .ok (.bipush 115, 2) := by decide +kernel
theorem dX12_readMill_64 : decode cX12_readMill 64 = .ok (.if_icmp .ne 33, 3) := by decide +kernel
theorem dX12_readMill_67 : decode cX12_readMill 67 = .ok (.iload_n 1, 1) := by decide +kernel
theorem dX12_readMill_68 : decode cX12_readMill 68 = .ok (.ifCond .ne 29, 3) := by decide +kernel
theorem dX12_readMill_71 : decode cX12_readMill 71 = .ok (.iconst 1, 1) := by decide +kernel
theorem dX12_readMill_72 : decode cX12_readMill 72 = .ok (.istore_n 1, 1) := by decide +kernel
theorem dX12_readMill_73 : decode cX12_readMill 73 = .ok (.aload_n 0, 1) := by decide +kernel
theorem dX12_readMill_74 : decode cX12_readMill 74 = .ok (.dup, 1) := by decide +kernel
theorem dX12_readMill_75 : decode cX12_readMill 75 = .ok (.getfield 103, 3) := by decide +kernel
theorem dX12_readMill_78 : decode cX12_readMill 78 = .ok (.iconst 1, 1) := by decide +kernel
theorem dX12_readMill_79 : decode cX12_readMill 79 = .ok (.iadd, 1) := by decide +kernel
theorem dX12_readMill_80 : decode cX12_readMill 80 = .ok (.putfield 103, 3) := by decide +kernel
theorem dX12_readMill_83 : decode cX12_readMill 83 = .ok (.aload_n 0, 1) := by decide +kernel
theorem dX12_readMill_84 : decode cX12_readMill 84 = .ok (.iload_n 3, 1) := by decide +kernel
theorem dX12_readMill_85 : decode cX12_readMill 85 = .ok (.aload_n 0, 1) := by decide +kernel
theorem dX12_readMill_86 : decode cX12_readMill 86 = .ok (.getfield 40, 3) := by decide +kernel
theorem dX12_readMill_89 : decode cX12_readMill 89 = .ok (.iconst 0, 1) := by decide +kernel
theorem dX12_readMill_90 : decode cX12_readMill 90 = .ok (.iconst 4, 1) := by decide +kernel
theorem dX12_readMill_91 : decode cX12_readMill 91 = .ok (.invokevirtual 235, 3) := by decide +kernel
theorem dX12_readMill_94 : decode cX12_readMill 94 = .ok (.goto 61, 3) := by decide +kernel
theorem dX12_readMill_97 : decode cX12_readMill 97 = .ok (.iload_n 3, 1) := by decide +kernel
theorem dX12_readMill_98 : decode cX12_readMill 98 = .ok (.bipush 116, 2) := by decide +kernel
theorem dX12_readMill_100 : decode cX12_readMill 100 = .ok (.if_icmp .ne 51, 3) := by decide +kernel
theorem dX12_readMill_103 : decode cX12_readMill 103 = .ok (.aload_n 0, 1) := by decide +kernel
theorem dX12_readMill_104 : decode cX12_readMill 104 = .ok (.getfield 232, 3) := by decide +kernel
theorem dX12_readMill_107 : decode cX12_readMill 107 = .ok (.bipush 7, 2) := by decide +kernel
theorem dX12_readMill_109 : decode cX12_readMill 109 = .ok (.if_icmp .ge 42, 3) := by decide +kernel
theorem dX12_readMill_112 : decode cX12_readMill 112 = .ok (.aload_n 0, 1) := by decide +kernel
theorem dX12_readMill_113 : decode cX12_readMill 113 = .ok (.dup, 1) := by decide +kernel
theorem dX12_readMill_114 : decode cX12_readMill 114 = .ok (.getfield 103, 3) := by decide +kernel
theorem dX12_readMill_117 : decode cX12_readMill 117 = .ok (.iconst 1, 1) := by decide +kernel
theorem dX12_readMill_118 : decode cX12_readMill 118 = .ok (.iadd, 1) := by decide +kernel
theorem dX12_readMill_119 : decode cX12_readMill 119 = .ok (.putfield 103, 3) := by decide +kernel
theorem dX12_readMill_122 : decode cX12_readMill 122 = .ok (.aload_n 0, 1) := by decide +kernel
theorem dX12_readMill_123 : decode cX12_readMill 123 = .ok (.iload_n 3, 1) := by decide +kernel
theorem dX12_readMill_124 : decode cX12_readMill 124 = .ok (.aload_n 0, 1) := by decide +kernel
theorem dX12_readMill_125 : decode cX12_readMill 125 = .ok (.getfield 43, 3) := by decide +kernel
theorem dX12_readMill_128 : decode cX12_readMill 128 = .ok (.iconst 3, 1) := by decide +kernel
theorem dX12_readMill_129 : decode cX12_readMill 129 = .ok (.aload_n 0, 1) := by decide +kernel
theorem dX12_readMill_130 : decode cX12_readMill 130 = .ok (.getfield 232, 3) := by decide +kernel
theorem dX12_readMill_133 : decode cX12_readMill 133 = .ok (.imul, 1) := by decide +kernel
theorem dX12_readMill_134 : decode cX12_readMill 134 = .ok (.iconst 3, 1) := by decide +kernel
theorem dX12_readMill_135 : decode cX12_readMill 135 = .ok (.invokevirtual 235, 3) := by decide +kernel
theorem dX12_readMill_138 : decode cX12_readMill 138 = .ok (.aload_n 0, 1) := by decide +kernel
theorem dX12_readMill_139 : decode cX12_readMill 139 = .ok (.dup, 1) := by decide +kernel
theorem dX12_readMill_140 : decode cX12_readMill 140 = .ok (.getfield 232, 3) := by decide +kernel
theorem dX12_readMill_143 : decode cX12_readMill 143 = .ok (.iconst 1, 1) := by decide +kernel
theorem dX12_readMill_144 : decode cX12_readMill 144 = .ok (.iadd, 1) := by decide +kernel
theorem dX12_readMill_145 : decode cX12_readMill 145 = .ok (.putfield 232, 3) := by decide +kernel
theorem dX12_readMill_148 : decode cX12_readMill 148 = .ok (.goto 7, 3) := by decide +kernel
theorem dX12_readMill_151 : decode cX12_readMill 151 = .ok (.aload_n 0, 1) := by decide +kernel
theorem dX12_readMill_152 : decode cX12_readMill 152 = .ok (.invokevirtual 119, 3) := by decide +kernel
theorem dX12_readMill_155 : decode cX12_readMill 155 = .ok (.aload_n 0, 1) := by decide +kernel
theorem dX12_readMill_156 : decode cX12_readMill 156 = .ok (.getfield 110, 3) := by decide +kernel
theorem dX12_readMill_159 : decode cX12_readMill 159 = .ok (.iconst (-1), 1) := by decide +kernel
theorem dX12_readMill_160 : decode cX12_readMill 160 = .ok (.if_icmp .ne 16, 3) := by decide +kernel
theorem dX12_readMill_163 : decode cX12_readMill 163 = .ok (.aload_n 0, 1) := by decide +kernel
theorem dX12_readMill_164 : decode cX12_readMill 164 = .ok (.invokevirtual 122, 3) := by decide +kernel
theorem dX12_readMill_167 : decode cX12_readMill 167 = .ok (.bipush 59, 2) := by decide +kernel
theorem dX12_readMill_169 : decode cX12_readMill 169 = .ok (.if_icmp .ne 7, 3) := by decide +kernel
theorem dX12_readMill_172 : decode cX12_readMill 172 = .ok (.iconst 1, 1) := by decide +kernel
theorem dX12_readMill_173 : decode cX12_readMill 173 = .ok (.goto 4, 3) := by decide +kernel
theorem dX12_readMill_176 : decode cX12_readMill 176 = .ok (.iconst 0, 1) := by decide +kernel
theorem dX12_readMill_177 : decode cX12_readMill 177 = .ok (.istore_n 2, 1) := by decide +kernel
theorem dX12_readMill_178 : decode cX12_readMill 178 = .ok (.aload_n 0, 1) := by decide +kernel
theorem dX12_readMill_179 : decode cX12_readMill 179 = .ok (.dup, 1) := by decide +kernel
theorem dX12_readMill_180 : decode cX12_readMill 180 = .ok (.getfield 103, 3) := by decide +kernel
theorem dX12_readMill_183 : decode cX12_readMill 183 = .ok (.iload_n 2, 1) := by decide +kernel
theorem dX12_readMill_184 : decode cX12_readMill 184 = .ok (.ifCond .eq 7, 3) := by decide +kernel
theorem dX12_readMill_187 : decode cX12_readMill 187 = .ok (.iconst 1, 1) := by decide +kernel
theorem dX12_readMill_188 : decode cX12_readMill 188 = .ok (.goto 4, 3) := by decide +kernel
theorem dX12_readMill_191 : decode cX12_readMill 191 = .ok (.iconst 0, 1) := by decide +kernel
theorem dX12_readMill_192 : decode cX12_readMill 192 = .ok (.iadd, 1) := by decide +kernel
theorem dX12_readMill_193 : decode cX12_readMill 193 = .ok (.putfield 103, 3) := by decide +kernel
theorem dX12_readMill_196 : decode cX12_readMill 196 = .ok (.goto (-152), 3) := by decide +kernel
theorem dX12_readMill_199 : decode cX12_readMill 199 = .ok (.aload_n 0, 1) := by decide +kernel
theorem dX12_readMill_200 : decode cX12_readMill 200 = .ok (.getfield 110, 3) := by decide +kernel
theorem dX12_readMill_203 : decode cX12_readMill 203 = .ok (.iconst (-1), 1) := by decide +kernel
theorem dX12_readMill_204 : decode cX12_readMill 204 = .ok (.if_icmp .ne 23, 3) := by decide +kernel
theorem dX12_readMill_207 : decode cX12_readMill 207 = .ok (.aload_n 0, 1) := by decide +kernel
theorem dX12_readMill_208 : decode cX12_readMill 208 = .ok (.invokevirtual 122, 3) := by decide +kernel
theorem dX12_readMill_211 : decode cX12_readMill 211 = .ok (.iconst (-1), 1) := by decide +kernel
theorem dX12_readMill_212 : decode cX12_readMill 212 = .ok (.if_icmp .ne 11, 3) := by decide +kernel
theorem dX12_readMill_215 : decode cX12_readMill 215 = .ok (.aload_n 0, 1) := by decide +kernel
theorem dX12_readMill_216 : decode cX12_readMill 216 = .ok (.getfield 232, 3) := by decide +kernel
theorem dX12_readMill_219 : decode cX12_readMill 219 = .ok (.iconst 2, 1) := by decide +kernel
theorem dX12_readMill_220 : decode cX12_readMill 220 = .ok (.if_icmp .ge 7, 3) := by decide +kernel
theorem dX12_readMill_223 : decode cX12_readMill 223 = .ok (.aload_n 0, 1) := by decide +kernel
theorem dX12_readMill_224 : decode cX12_readMill 224 = .ok (.invokevirtual 119, 3) := by decide +kernel
theorem dX12_readMill_227 : decode cX12_readMill 227 = .ok (.aload_n 0, 1) := by decide +kernel
theorem dX12_readMill_228 : decode cX12_readMill 228 = .ok (.getfield 110, 3) := by decide +kernel
theorem dX12_readMill_231 : decode cX12_readMill 231 = .ok (.ireturn, 1) := by decide +kernel
theorem dX12_fault_0 : decode cX12_fault 0 = .ok (.iload_n 1, 1) := by decide +kernel
theorem dX12_fault_1 : decode cX12_fault 1 = .ok (.ifCond .ne 10, 3) := by decide +kernel
theorem dX12_fault_4 : decode cX12_fault 4 = .ok (.aload_n 0, 1) := by decide +kernel
theorem dX12_fault_5 : decode cX12_fault 5 = .ok (.invokevirtual 239, 3) := by decide +kernel
theorem dX12_fault_8 : decode cX12_fault 8 = .ok (.goto 18, 3) := by decide +kernel
theorem dX12_fault_11 : decode cX12_fault 11 = .ok (.iload_n 1, 1) := by decide +kernel
theorem dX12_fault_12 : decode cX12_fault 12 = .ok (.iconst 1, 1) := by decide +kernel
theorem dX12_fault_13 : decode cX12_fault 13 = .ok (.if_icmp .ne 11, 3) := by decide +kernel
theorem dX12_fault_16 : decode cX12_fault 16 = .ok (.aload_n 0, 1) := by decide +kernel
theorem dX12_fault_17 : decode cX12_fault 17 = .ok (.iconst 4, 1) := by decide +kernel
theorem dX12_fault_18 : decode cX12_fault 18 = .ok (.invokevirtual 242, 3) := by decide +kernel
theorem dX12_fault_21 : decode cX12_fault 21 = .ok (.goto 5, 3) := by decide +kernel
theorem dX12_fault_24 : decode cX12_fault 24 = .ok (.bipush (-2), 2) := by decide +kernel
theorem dX12_fault_26 : decode cX12_fault 26 = .ok (.ireturn, 1) := by decide +kernel
theorem dX12_takeMill_0 : decode cX12_takeMill 0 = .ok (.aload_n 0, 1) := by decide +kernel
theorem dX12_takeMill_1 : decode cX12_takeMill 1 = .ok (.aload_n 0, 1) := by decide +kernel
theorem dX12_takeMill_2 : decode cX12_takeMill 2 = .ok (.getfield 232, 3) := by decide +kernel
theorem dX12_takeMill_5 : decode cX12_takeMill 5 = .ok (.putfield 245, 3) := by decide +kernel
theorem dX12_takeMill_8 : decode cX12_takeMill 8 = .ok (.iconst 0, 1) := by decide +kernel
theorem dX12_takeMill_9 : decode cX12_takeMill 9 = .ok (.istore_n 1, 1) := by decide +kernel
theorem dX12_takeMill_10 : decode cX12_takeMill 10 = .ok (.iload_n 1, 1) := by decide +kernel
theorem dX12_takeMill_11 : decode cX12_takeMill 11 = .ok (.iconst 4, 1) := by decide +kernel
theorem dX12_takeMill_12 : decode cX12_takeMill 12 = .ok (.if_icmp .ge 21, 3) := by decide +kernel
theorem dX12_takeMill_15 : decode cX12_takeMill 15 = .ok (.aload_n 0, 1) := by decide +kernel
theorem dX12_takeMill_16 : decode cX12_takeMill 16 = .ok (.getfield 46, 3) := by decide +kernel
theorem dX12_takeMill_19 : decode cX12_takeMill 19 = .ok (.iload_n 1, 1) := by decide +kernel
theorem dX12_takeMill_20 : decode cX12_takeMill 20 = .ok (.aload_n 0, 1) := by decide +kernel
theorem dX12_takeMill_21 : decode cX12_takeMill 21 = .ok (.getfield 40, 3) := by decide +kernel
theorem dX12_takeMill_24 : decode cX12_takeMill 24 = .ok (.iload_n 1, 1) := by decide +kernel
theorem dX12_takeMill_25 : decode cX12_takeMill 25 = .ok (.iaload, 1) := by decide +kernel
theorem dX12_takeMill_26 : decode cX12_takeMill 26 = .ok (.iastore, 1) := by decide +kernel
theorem dX12_takeMill_27 : decode cX12_takeMill 27 = .ok (.iinc 1 1, 3) := by decide +kernel
theorem dX12_takeMill_30 : decode cX12_takeMill 30 = .ok (.goto (-20), 3) := by decide +kernel
theorem dX12_takeMill_33 : decode cX12_takeMill 33 = .ok (.iconst 0, 1) := by decide +kernel
theorem dX12_takeMill_34 : decode cX12_takeMill 34 = .ok (.istore_n 1, 1) := by decide +kernel
theorem dX12_takeMill_35 : decode cX12_takeMill 35 = .ok (.iload_n 1, 1) := by decide +kernel
theorem dX12_takeMill_36 : decode cX12_takeMill 36 = .ok (.bipush 21, 2) := by decide +kernel
theorem dX12_takeMill_38 : decode cX12_takeMill 38 = .ok (.if_icmp .ge 21, 3) := by decide +kernel
theorem dX12_takeMill_41 : decode cX12_takeMill 41 = .ok (.aload_n 0, 1) := by decide +kernel
theorem dX12_takeMill_42 : decode cX12_takeMill 42 = .ok (.getfield 49, 3) := by decide +kernel
theorem dX12_takeMill_45 : decode cX12_takeMill 45 = .ok (.iload_n 1, 1) := by decide +kernel
theorem dX12_takeMill_46 : decode cX12_takeMill 46 = .ok (.aload_n 0, 1) := by decide +kernel
theorem dX12_takeMill_47 : decode cX12_takeMill 47 = .ok (.getfield 43, 3) := by decide +kernel
theorem dX12_takeMill_50 : decode cX12_takeMill 50 = .ok (.iload_n 1, 1) := by decide +kernel
theorem dX12_takeMill_51 : decode cX12_takeMill 51 = .ok (.iaload, 1) := by decide +kernel
theorem dX12_takeMill_52 : decode cX12_takeMill 52 = .ok (.iastore, 1) := by decide +kernel
theorem dX12_takeMill_53 : decode cX12_takeMill 53 = .ok (.iinc 1 1, 3) := by decide +kernel
theorem dX12_takeMill_56 : decode cX12_takeMill 56 = .ok (.goto (-21), 3) := by decide +kernel
theorem dX12_takeMill_59 : decode cX12_takeMill 59 = .ok (.iconst 0, 1) := by decide +kernel
theorem dX12_takeMill_60 : decode cX12_takeMill 60 = .ok (.istore_n 1, 1) := by decide +kernel
theorem dX12_takeMill_61 : decode cX12_takeMill 61 = .ok (.iload_n 1, 1) := by decide +kernel
theorem dX12_takeMill_62 : decode cX12_takeMill 62 = .ok (.sipush 214, 3) := by decide +kernel
theorem dX12_takeMill_65 : decode cX12_takeMill 65 = .ok (.if_icmp .ge 16, 3) := by decide +kernel
theorem dX12_takeMill_68 : decode cX12_takeMill 68 = .ok (.aload_n 0, 1) := by decide +kernel
theorem dX12_takeMill_69 : decode cX12_takeMill 69 = .ok (.getfield 52, 3) := by decide +kernel
theorem dX12_takeMill_72 : decode cX12_takeMill 72 = .ok (.iload_n 1, 1) := by decide +kernel
theorem dX12_takeMill_73 : decode cX12_takeMill 73 = .ok (.iconst 0, 1) := by decide +kernel
theorem dX12_takeMill_74 : decode cX12_takeMill 74 = .ok (.iastore, 1) := by decide +kernel
theorem dX12_takeMill_75 : decode cX12_takeMill 75 = .ok (.iinc 1 1, 3) := by decide +kernel
theorem dX12_takeMill_78 : decode cX12_takeMill 78 = .ok (.goto (-17), 3) := by decide +kernel
theorem dX12_takeMill_81 : decode cX12_takeMill 81 = .ok (.iconst 0, 1) := by decide +kernel
theorem dX12_takeMill_82 : decode cX12_takeMill 82 = .ok (.istore_n 1, 1) := by decide +kernel
theorem dX12_takeMill_83 : decode cX12_takeMill 83 = .ok (.iload_n 1, 1) := by decide +kernel
theorem dX12_takeMill_84 : decode cX12_takeMill 84 = .ok (.aload_n 0, 1) := by decide +kernel
theorem dX12_takeMill_85 : decode cX12_takeMill 85 = .ok (.getfield 245, 3) := by decide +kernel
theorem dX12_takeMill_88 : decode cX12_takeMill 88 = .ok (.if_icmp .ge 38, 3) := by decide +kernel
theorem dX12_takeMill_91 : decode cX12_takeMill 91 = .ok (.aload_n 0, 1) := by decide +kernel
theorem dX12_takeMill_92 : decode cX12_takeMill 92 = .ok (.getfield 52, 3) := by decide +kernel
theorem dX12_takeMill_95 : decode cX12_takeMill 95 = .ok (.iconst 0, 1) := by decide +kernel
theorem dX12_takeMill_96 : decode cX12_takeMill 96 = .ok (.iload_n 1, 1) := by decide +kernel
theorem dX12_takeMill_97 : decode cX12_takeMill 97 = .ok (.iadd, 1) := by decide +kernel
theorem dX12_takeMill_98 : decode cX12_takeMill 98 = .ok (.aload_n 0, 1) := by decide +kernel
theorem dX12_takeMill_99 : decode cX12_takeMill 99 = .ok (.iload_n 1, 1) := by decide +kernel
theorem dX12_takeMill_100 : decode cX12_takeMill 100 = .ok (.iconst 0, 1) := by decide +kernel
theorem dX12_takeMill_101 : decode cX12_takeMill 101 = .ok (.invokevirtual 248, 3) := by decide +kernel
theorem dX12_takeMill_104 : decode cX12_takeMill 104 = .ok (.iastore, 1) := by decide +kernel
theorem dX12_takeMill_105 : decode cX12_takeMill 105 = .ok (.aload_n 0, 1) := by decide +kernel
theorem dX12_takeMill_106 : decode cX12_takeMill 106 = .ok (.getfield 52, 3) := by decide +kernel
theorem dX12_takeMill_109 : decode cX12_takeMill 109 = .ok (.bipush 7, 2) := by decide +kernel
theorem dX12_takeMill_111 : decode cX12_takeMill 111 = .ok (.iload_n 1, 1) := by decide +kernel
theorem dX12_takeMill_112 : decode cX12_takeMill 112 = .ok (.iadd, 1) := by decide +kernel
theorem dX12_takeMill_113 : decode cX12_takeMill 113 = .ok (.aload_n 0, 1) := by decide +kernel
theorem dX12_takeMill_114 : decode cX12_takeMill 114 = .ok (.iload_n 1, 1) := by decide +kernel
theorem dX12_takeMill_115 : decode cX12_takeMill 115 = .ok (.iconst 2, 1) := by decide +kernel
theorem dX12_takeMill_116 : decode cX12_takeMill 116 = .ok (.invokevirtual 248, 3) := by decide +kernel
theorem dX12_takeMill_119 : decode cX12_takeMill 119 = .ok (.iastore, 1) := by decide +kernel
theorem dX12_takeMill_120 : decode cX12_takeMill 120 = .ok (.iinc 1 1, 3) := by decide +kernel
theorem dX12_takeMill_123 : decode cX12_takeMill 123 = .ok (.goto (-40), 3) := by decide +kernel
theorem dX12_takeMill_126 : decode cX12_takeMill 126 = .ok (.iconst 0, 1) := by decide +kernel
theorem dX12_takeMill_127 : decode cX12_takeMill 127 = .ok (.istore_n 1, 1) := by decide +kernel
theorem dX12_takeMill_128 : decode cX12_takeMill 128 = .ok (.iload_n 1, 1) := by decide +kernel
theorem dX12_takeMill_129 : decode cX12_takeMill 129 = .ok (.bipush 7, 2) := by decide +kernel
theorem dX12_takeMill_131 : decode cX12_takeMill 131 = .ok (.if_icmp .ge 29, 3) := by decide +kernel
theorem dX12_takeMill_134 : decode cX12_takeMill 134 = .ok (.aload_n 0, 1) := by decide +kernel
theorem dX12_takeMill_135 : decode cX12_takeMill 135 = .ok (.getfield 52, 3) := by decide +kernel
theorem dX12_takeMill_138 : decode cX12_takeMill 138 = .ok (.bipush 14, 2) := by decide +kernel
theorem dX12_takeMill_140 : decode cX12_takeMill 140 = .ok (.iload_n 1, 1) := by decide +kernel
theorem dX12_takeMill_141 : decode cX12_takeMill 141 = .ok (.iadd, 1) := by decide +kernel
theorem dX12_takeMill_142 : decode cX12_takeMill 142 = .ok (.iconst (-1), 1) := by decide +kernel
theorem dX12_takeMill_143 : decode cX12_takeMill 143 = .ok (.iastore, 1) := by decide +kernel
theorem dX12_takeMill_144 : decode cX12_takeMill 144 = .ok (.aload_n 0, 1) := by decide +kernel
theorem dX12_takeMill_145 : decode cX12_takeMill 145 = .ok (.getfield 52, 3) := by decide +kernel
theorem dX12_takeMill_148 : decode cX12_takeMill 148 = .ok (.bipush 21, 2) := by decide +kernel
theorem dX12_takeMill_150 : decode cX12_takeMill 150 = .ok (.iload_n 1, 1) := by decide +kernel
theorem dX12_takeMill_151 : decode cX12_takeMill 151 = .ok (.iadd, 1) := by decide +kernel
theorem dX12_takeMill_152 : decode cX12_takeMill 152 = .ok (.iconst (-1), 1) := by decide +kernel
theorem dX12_takeMill_153 : decode cX12_takeMill 153 = .ok (.iastore, 1) := by decide +kernel
theorem dX12_takeMill_154 : decode cX12_takeMill 154 = .ok (.iinc 1 1, 3) := by decide +kernel
theorem dX12_takeMill_157 : decode cX12_takeMill 157 = .ok (.goto (-29), 3) := by decide +kernel
theorem dX12_takeMill_160 : decode cX12_takeMill 160 = .ok (.aload_n 0, 1) := by decide +kernel
theorem dX12_takeMill_161 : decode cX12_takeMill 161 = .ok (.getfield 52, 3) := by decide +kernel
theorem dX12_takeMill_164 : decode cX12_takeMill 164 = .ok (.bipush 31, 2) := by decide +kernel
theorem dX12_takeMill_166 : decode cX12_takeMill 166 = .ok (.aload_n 0, 1) := by decide +kernel
theorem dX12_takeMill_167 : decode cX12_takeMill 167 = .ok (.getfield 46, 3) := by decide +kernel
theorem dX12_takeMill_170 : decode cX12_takeMill 170 = .ok (.iconst 3, 1) := by decide +kernel
theorem dX12_takeMill_171 : decode cX12_takeMill 171 = .ok (.iaload, 1) := by decide +kernel
theorem dX12_takeMill_172 : decode cX12_takeMill 172 = .ok (.iastore, 1) := by decide +kernel
theorem dX12_takeMill_173 : decode cX12_takeMill 173 = .ok (.aload_n 0, 1) := by decide +kernel
theorem dX12_takeMill_174 : decode cX12_takeMill 174 = .ok (.iconst 0, 1) := by decide +kernel
theorem dX12_takeMill_175 : decode cX12_takeMill 175 = .ok (.putfield 251, 3) := by decide +kernel
theorem dX12_takeMill_178 : decode cX12_takeMill 178 = .ok (.aload_n 0, 1) := by decide +kernel
theorem dX12_takeMill_179 : decode cX12_takeMill 179 = .ok (.iconst 0, 1) := by decide +kernel
theorem dX12_takeMill_180 : decode cX12_takeMill 180 = .ok (.putfield 254, 3) := by decide +kernel
theorem dX12_takeMill_183 : decode cX12_takeMill 183 = .ok (.aload_n 0, 1) := by decide +kernel
theorem dX12_takeMill_184 : decode cX12_takeMill 184 = .ok (.iconst 0, 1) := by decide +kernel
theorem dX12_takeMill_185 : decode cX12_takeMill 185 = .ok (.putfield 257, 3) := by decide +kernel
theorem dX12_takeMill_188 : decode cX12_takeMill 188 = .ok (.aload_n 0, 1) := by decide +kernel
theorem dX12_takeMill_189 : decode cX12_takeMill 189 = .ok (.getfield 245, 3) := by decide +kernel
theorem dX12_takeMill_192 : decode cX12_takeMill 192 = .ok (.ireturn, 1) := by decide +kernel
theorem dX12_text_0 : decode cX12_text 0 = .ok (.iload_n 1, 1) := by decide +kernel
theorem dX12_text_1 : decode cX12_text 1 = .ok (.ifCond .ne 21, 3) := by decide +kernel
theorem dX12_text_4 : decode cX12_text 4 = .ok (.aload_n 0, 1) := by decide +kernel
theorem dX12_text_5 : decode cX12_text 5 = .ok (.invokevirtual 239, 3) := by decide +kernel
theorem dX12_text_8 : decode cX12_text 8 = .ok (.iconst (-1), 1) := by decide +kernel
theorem dX12_text_9 : decode cX12_text 9 = .ok (.if_icmp .ne 13, 3) := by decide +kernel
theorem dX12_text_12 : decode cX12_text 12 = .ok (.aload_n 0, 1) := by decide +kernel
theorem dX12_text_13 : decode cX12_text 13 = .ok (.iconst 0, 1) := by decide +kernel
theorem dX12_text_14 : decode cX12_text 14 = .ok (.putfield 100, 3) := by decide +kernel
theorem dX12_text_17 : decode cX12_text 17 = .ok (.aload_n 0, 1) := by decide +kernel
theorem dX12_text_18 : decode cX12_text 18 = .ok (.invokevirtual 261, 3) := by decide +kernel
theorem dX12_text_21 : decode cX12_text 21 = .ok (.ireturn, 1) := by decide +kernel
theorem dX12_text_22 : decode cX12_text 22 = .ok (.iload_n 1, 1) := by decide +kernel
theorem dX12_text_23 : decode cX12_text 23 = .ok (.iconst 1, 1) := by decide +kernel
theorem dX12_text_24 : decode cX12_text 24 = .ok (.if_icmp .ne 45, 3) := by decide +kernel
theorem dX12_text_27 : decode cX12_text 27 = .ok (.aload_n 0, 1) := by decide +kernel
theorem dX12_text_28 : decode cX12_text 28 = .ok (.getfield 264, 3) := by decide +kernel
theorem dX12_text_31 : decode cX12_text 31 = .ok (.iconst 4, 1) := by decide +kernel
theorem dX12_text_32 : decode cX12_text 32 = .ok (.if_icmp .ge 37, 3) := by decide +kernel
theorem dX12_text_35 : decode cX12_text 35 = .ok (.aload_n 0, 1) := by decide +kernel
theorem dX12_text_36 : decode cX12_text 36 = .ok (.aload_n 0, 1) := by decide +kernel
theorem dX12_text_37 : decode cX12_text 37 = .ok (.getfield 264, 3) := by decide +kernel
theorem dX12_text_40 : decode cX12_text 40 = .ok (.invokevirtual 242, 3) := by decide +kernel
theorem dX12_text_43 : decode cX12_text 43 = .ok (.iconst (-1), 1) := by decide +kernel
theorem dX12_text_44 : decode cX12_text 44 = .ok (.if_icmp .ne 25, 3) := by decide +kernel
theorem dX12_text_47 : decode cX12_text 47 = .ok (.aload_n 0, 1) := by decide +kernel
theorem dX12_text_48 : decode cX12_text 48 = .ok (.iconst 0, 1) := by decide +kernel
theorem dX12_text_49 : decode cX12_text 49 = .ok (.putfield 100, 3) := by decide +kernel
theorem dX12_text_52 : decode cX12_text 52 = .ok (.aload_n 0, 1) := by decide +kernel
theorem dX12_text_53 : decode cX12_text 53 = .ok (.dup, 1) := by decide +kernel
theorem dX12_text_54 : decode cX12_text 54 = .ok (.getfield 264, 3) := by decide +kernel
theorem dX12_text_57 : decode cX12_text 57 = .ok (.iconst 1, 1) := by decide +kernel
theorem dX12_text_58 : decode cX12_text 58 = .ok (.iadd, 1) := by decide +kernel
theorem dX12_text_59 : decode cX12_text 59 = .ok (.putfield 264, 3) := by decide +kernel
theorem dX12_text_62 : decode cX12_text 62 = .ok (.aload_n 0, 1) := by decide +kernel
theorem dX12_text_63 : decode cX12_text 63 = .ok (.getfield 264, 3) := by decide +kernel
theorem dX12_text_66 : decode cX12_text 66 = .ok (.iconst 1, 1) := by decide +kernel
theorem dX12_text_67 : decode cX12_text 67 = .ok (.isub, 1) := by decide +kernel
theorem dX12_text_68 : decode cX12_text 68 = .ok (.ireturn, 1) := by decide +kernel
theorem dX12_text_69 : decode cX12_text 69 = .ok (.iconst (-1), 1) := by decide +kernel
theorem dX12_text_70 : decode cX12_text 70 = .ok (.ireturn, 1) := by decide +kernel
theorem dX12_of_0 : decode cX12_of 0 = .ok (.aload_n 0, 1) := by decide +kernel
theorem dX12_of_1 : decode cX12_of 1 = .ok (.getfield 49, 3) := by decide +kernel
theorem dX12_of_4 : decode cX12_of 4 = .ok (.iconst 3, 1) := by decide +kernel
theorem dX12_of_5 : decode cX12_of 5 = .ok (.iload_n 1, 1) := by decide +kernel
theorem dX12_of_6 : decode cX12_of 6 = .ok (.imul, 1) := by decide +kernel
theorem dX12_of_7 : decode cX12_of 7 = .ok (.iload_n 2, 1) := by decide +kernel
theorem dX12_of_8 : decode cX12_of 8 = .ok (.iadd, 1) := by decide +kernel
theorem dX12_of_9 : decode cX12_of 9 = .ok (.iaload, 1) := by decide +kernel
theorem dX12_of_10 : decode cX12_of 10 = .ok (.ireturn, 1) := by decide +kernel
theorem dX12_isEnd_0 : decode cX12_isEnd 0 = .ok (.iload_n 1, 1) := by decide +kernel
theorem dX12_isEnd_1 : decode cX12_isEnd 1 = .ok (.iconst 0, 1) := by decide +kernel
theorem dX12_isEnd_2 : decode cX12_isEnd 2 = .ok (.aload_n 0, 1) := by decide +kernel
theorem dX12_isEnd_3 : decode cX12_isEnd 3 = .ok (.getfield 245, 3) := by decide +kernel
theorem dX12_isEnd_6 : decode cX12_isEnd 6 = .ok (.iconst 1, 1) := by decide +kernel
theorem dX12_isEnd_7 : decode cX12_isEnd 7 = .ok (.isub, 1) := by decide +kernel
theorem dX12_isEnd_8 : decode cX12_isEnd 8 = .ok (.invokestatic 208, 3) := by decide +kernel
theorem dX12_isEnd_11 : decode cX12_isEnd 11 = .ok (.ireturn, 1) := by decide +kernel
theorem dX12_isSold_0 : decode cX12_isSold 0 = .ok (.aload_n 0, 1) := by decide +kernel
theorem dX12_isSold_1 : decode cX12_isSold 1 = .ok (.getfield 52, 3) := by decide +kernel
theorem dX12_isSold_4 : decode cX12_isSold 4 = .ok (.bipush 28, 2) := by decide +kernel
theorem dX12_isSold_6 : decode cX12_isSold 6 = .ok (.iaload, 1) := by decide +kernel
theorem dX12_isSold_7 : decode cX12_isSold 7 = .ok (.iload_n 1, 1) := by decide +kernel
theorem dX12_isSold_8 : decode cX12_isSold 8 = .ok (.invokestatic 219, 3) := by decide +kernel
theorem dX12_isSold_11 : decode cX12_isSold 11 = .ok (.ireturn, 1) := by decide +kernel
theorem dX12_isKnotted_0 : decode cX12_isKnotted 0 = .ok (.aload_n 0, 1) := by decide +kernel
theorem dX12_isKnotted_1 : decode cX12_isKnotted 1 = .ok (.getfield 52, 3) := by decide +kernel
theorem dX12_isKnotted_4 : decode cX12_isKnotted 4 = .ok (.bipush 14, 2) := by decide +kernel
theorem dX12_isKnotted_6 : decode cX12_isKnotted 6 = .ok (.iload_n 1, 1) := by decide +kernel
theorem dX12_isKnotted_7 : decode cX12_isKnotted 7 = .ok (.iadd, 1) := by decide +kernel
theorem dX12_isKnotted_8 : decode cX12_isKnotted 8 = .ok (.iaload, 1) := by decide +kernel
theorem dX12_isKnotted_9 : decode cX12_isKnotted 9 = .ok (.iconst (-1), 1) := by decide +kernel
theorem dX12_isKnotted_10 : decode cX12_isKnotted 10 = .ok (.if_icmp .ne 16, 3) := by decide +kernel
theorem dX12_isKnotted_13 : decode cX12_isKnotted 13 = .ok (.aload_n 0, 1) := by decide +kernel
theorem dX12_isKnotted_14 : decode cX12_isKnotted 14 = .ok (.getfield 52, 3) := by decide +kernel
theorem dX12_isKnotted_17 : decode cX12_isKnotted 17 = .ok (.bipush 21, 2) := by decide +kernel
theorem dX12_isKnotted_19 : decode cX12_isKnotted 19 = .ok (.iload_n 1, 1) := by decide +kernel
theorem dX12_isKnotted_20 : decode cX12_isKnotted 20 = .ok (.iadd, 1) := by decide +kernel
theorem dX12_isKnotted_21 : decode cX12_isKnotted 21 = .ok (.iaload, 1) := by decide +kernel
theorem dX12_isKnotted_22 : decode cX12_isKnotted 22 = .ok (.iconst (-1), 1) := by decide +kernel
theorem dX12_isKnotted_23 : decode cX12_isKnotted 23 = .ok (.if_icmp .eq 7, 3) := by decide +kernel
theorem dX12_isKnotted_26 : decode cX12_isKnotted 26 = .ok (.iconst 1, 1) := by decide +kernel
theorem dX12_isKnotted_27 : decode cX12_isKnotted 27 = .ok (.goto 4, 3) := by decide +kernel
theorem dX12_isKnotted_30 : decode cX12_isKnotted 30 = .ok (.iconst 0, 1) := by decide +kernel
theorem dX12_isKnotted_31 : decode cX12_isKnotted 31 = .ok (.ireturn, 1) := by decide +kernel
theorem dX12_isLoose_0 : decode cX12_isLoose 0 = .ok (.aload_n 0, 1) := by decide +kernel
theorem dX12_isLoose_1 : decode cX12_isLoose 1 = .ok (.iload_n 1, 1) := by decide +kernel
theorem dX12_isLoose_2 : decode cX12_isLoose 2 = .ok (.invokevirtual 267, 3) := by decide +kernel
theorem dX12_isLoose_5 : decode cX12_isLoose 5 = .ok (.ifCond .ne 15, 3) := by decide +kernel
theorem dX12_isLoose_8 : decode cX12_isLoose 8 = .ok (.aload_n 0, 1) := by decide +kernel
theorem dX12_isLoose_9 : decode cX12_isLoose 9 = .ok (.iload_n 1, 1) := by decide +kernel
theorem dX12_isLoose_10 : decode cX12_isLoose 10 = .ok (.invokevirtual 270, 3) := by decide +kernel
theorem dX12_isLoose_13 : decode cX12_isLoose 13 = .ok (.ifCond .ne 7, 3) := by decide +kernel
theorem dX12_isLoose_16 : decode cX12_isLoose 16 = .ok (.iconst 1, 1) := by decide +kernel
theorem dX12_isLoose_17 : decode cX12_isLoose 17 = .ok (.goto 4, 3) := by decide +kernel
theorem dX12_isLoose_20 : decode cX12_isLoose 20 = .ok (.iconst 0, 1) := by decide +kernel
theorem dX12_isLoose_21 : decode cX12_isLoose 21 = .ok (.ireturn, 1) := by decide +kernel
theorem dX12_firstOf_0 : decode cX12_firstOf 0 = .ok (.iload_n 1, 1) := by decide +kernel
theorem dX12_firstOf_1 : decode cX12_firstOf 1 = .ok (.istore_n 2, 1) := by decide +kernel
theorem dX12_firstOf_2 : decode cX12_firstOf 2 = .ok (.aload_n 0, 1) := by decide +kernel
theorem dX12_firstOf_3 : decode cX12_firstOf 3 = .ok (.getfield 52, 3) := by decide +kernel
theorem dX12_firstOf_6 : decode cX12_firstOf 6 = .ok (.bipush 21, 2) := by decide +kernel
theorem dX12_firstOf_8 : decode cX12_firstOf 8 = .ok (.iload_n 2, 1) := by decide +kernel
theorem dX12_firstOf_9 : decode cX12_firstOf 9 = .ok (.iadd, 1) := by decide +kernel
theorem dX12_firstOf_10 : decode cX12_firstOf 10 = .ok (.iaload, 1) := by decide +kernel
theorem dX12_firstOf_11 : decode cX12_firstOf 11 = .ok (.iconst (-1), 1) := by decide +kernel
theorem dX12_firstOf_12 : decode cX12_firstOf 12 = .ok (.if_icmp .eq 16, 3) := by decide +kernel
theorem dX12_firstOf_15 : decode cX12_firstOf 15 = .ok (.aload_n 0, 1) := by decide +kernel
theorem dX12_firstOf_16 : decode cX12_firstOf 16 = .ok (.getfield 52, 3) := by decide +kernel
theorem dX12_firstOf_19 : decode cX12_firstOf 19 = .ok (.bipush 21, 2) := by decide +kernel
theorem dX12_firstOf_21 : decode cX12_firstOf 21 = .ok (.iload_n 2, 1) := by decide +kernel
theorem dX12_firstOf_22 : decode cX12_firstOf 22 = .ok (.iadd, 1) := by decide +kernel
theorem dX12_firstOf_23 : decode cX12_firstOf 23 = .ok (.iaload, 1) := by decide +kernel
theorem dX12_firstOf_24 : decode cX12_firstOf 24 = .ok (.istore_n 2, 1) := by decide +kernel
theorem dX12_firstOf_25 : decode cX12_firstOf 25 = .ok (.goto (-23), 3) := by decide +kernel
theorem dX12_firstOf_28 : decode cX12_firstOf 28 = .ok (.iload_n 2, 1) := by decide +kernel
theorem dX12_firstOf_29 : decode cX12_firstOf 29 = .ok (.ireturn, 1) := by decide +kernel
theorem dX12_lastOf_0 : decode cX12_lastOf 0 = .ok (.iload_n 1, 1) := by decide +kernel
theorem dX12_lastOf_1 : decode cX12_lastOf 1 = .ok (.istore_n 2, 1) := by decide +kernel
theorem dX12_lastOf_2 : decode cX12_lastOf 2 = .ok (.aload_n 0, 1) := by decide +kernel
theorem dX12_lastOf_3 : decode cX12_lastOf 3 = .ok (.getfield 52, 3) := by decide +kernel
theorem dX12_lastOf_6 : decode cX12_lastOf 6 = .ok (.bipush 14, 2) := by decide +kernel
theorem dX12_lastOf_8 : decode cX12_lastOf 8 = .ok (.iload_n 2, 1) := by decide +kernel
theorem dX12_lastOf_9 : decode cX12_lastOf 9 = .ok (.iadd, 1) := by decide +kernel
theorem dX12_lastOf_10 : decode cX12_lastOf 10 = .ok (.iaload, 1) := by decide +kernel
theorem dX12_lastOf_11 : decode cX12_lastOf 11 = .ok (.iconst (-1), 1) := by decide +kernel
theorem dX12_lastOf_12 : decode cX12_lastOf 12 = .ok (.if_icmp .eq 16, 3) := by decide +kernel
theorem dX12_lastOf_15 : decode cX12_lastOf 15 = .ok (.aload_n 0, 1) := by decide +kernel
theorem dX12_lastOf_16 : decode cX12_lastOf 16 = .ok (.getfield 52, 3) := by decide +kernel
theorem dX12_lastOf_19 : decode cX12_lastOf 19 = .ok (.bipush 14, 2) := by decide +kernel
theorem dX12_lastOf_21 : decode cX12_lastOf 21 = .ok (.iload_n 2, 1) := by decide +kernel
theorem dX12_lastOf_22 : decode cX12_lastOf 22 = .ok (.iadd, 1) := by decide +kernel
theorem dX12_lastOf_23 : decode cX12_lastOf 23 = .ok (.iaload, 1) := by decide +kernel
theorem dX12_lastOf_24 : decode cX12_lastOf 24 = .ok (.istore_n 2, 1) := by decide +kernel
theorem dX12_lastOf_25 : decode cX12_lastOf 25 = .ok (.goto (-23), 3) := by decide +kernel
theorem dX12_lastOf_28 : decode cX12_lastOf 28 = .ok (.iload_n 2, 1) := by decide +kernel
theorem dX12_lastOf_29 : decode cX12_lastOf 29 = .ok (.ireturn, 1) := by decide +kernel
theorem dX12_manyOf_0 : decode cX12_manyOf 0 = .ok (.iconst 0, 1) := by decide +kernel
theorem dX12_manyOf_1 : decode cX12_manyOf 1 = .ok (.istore_n 2, 1) := by decide +kernel
theorem dX12_manyOf_2 : decode cX12_manyOf 2 = .ok (.aload_n 0, 1) := by decide +kernel
theorem dX12_manyOf_3 : decode cX12_manyOf 3 = .ok (.iload_n 1, 1) := by decide +kernel
theorem dX12_manyOf_4 : decode cX12_manyOf 4 = .ok (.invokevirtual 273, 3) := by decide +kernel
theorem dX12_manyOf_7 : decode cX12_manyOf 7 = .ok (.istore_n 3, 1) := by decide +kernel
theorem dX12_manyOf_8 : decode cX12_manyOf 8 = .ok (.iload_n 3, 1) := by decide +kernel
theorem dX12_manyOf_9 : decode cX12_manyOf 9 = .ok (.iconst (-1), 1) := by decide +kernel
theorem dX12_manyOf_10 : decode cX12_manyOf 10 = .ok (.if_icmp .eq 19, 3) := by decide +kernel
theorem dX12_manyOf_13 : decode cX12_manyOf 13 = .ok (.iinc 2 1, 3) := by decide +kernel
theorem dX12_manyOf_16 : decode cX12_manyOf 16 = .ok (.aload_n 0, 1) := by decide +kernel
theorem dX12_manyOf_17 : decode cX12_manyOf 17 = .ok (.getfield 52, 3) := by decide +kernel
theorem dX12_manyOf_20 : decode cX12_manyOf 20 = .ok (.bipush 14, 2) := by decide +kernel
theorem dX12_manyOf_22 : decode cX12_manyOf 22 = .ok (.iload_n 3, 1) := by decide +kernel
theorem dX12_manyOf_23 : decode cX12_manyOf 23 = .ok (.iadd, 1) := by decide +kernel
theorem dX12_manyOf_24 : decode cX12_manyOf 24 = .ok (.iaload, 1) := by decide +kernel
theorem dX12_manyOf_25 : decode cX12_manyOf 25 = .ok (.istore_n 3, 1) := by decide +kernel
theorem dX12_manyOf_26 : decode cX12_manyOf 26 = .ok (.goto (-18), 3) := by decide +kernel
theorem dX12_manyOf_29 : decode cX12_manyOf 29 = .ok (.iload_n 2, 1) := by decide +kernel
theorem dX12_manyOf_30 : decode cX12_manyOf 30 = .ok (.ireturn, 1) := by decide +kernel
theorem dX12_lengthOf_0 : decode cX12_lengthOf 0 = .ok (.iconst 0, 1) := by decide +kernel
theorem dX12_lengthOf_1 : decode cX12_lengthOf 1 = .ok (.istore_n 2, 1) := by decide +kernel
theorem dX12_lengthOf_2 : decode cX12_lengthOf 2 = .ok (.aload_n 0, 1) := by decide +kernel
theorem dX12_lengthOf_3 : decode cX12_lengthOf 3 = .ok (.iload_n 1, 1) := by decide +kernel
theorem dX12_lengthOf_4 : decode cX12_lengthOf 4 = .ok (.invokevirtual 273, 3) := by decide +kernel
theorem dX12_lengthOf_7 : decode cX12_lengthOf 7 = .ok (.istore_n 3, 1) := by decide +kernel
theorem dX12_lengthOf_8 : decode cX12_lengthOf 8 = .ok (.iload_n 3, 1) := by decide +kernel
theorem dX12_lengthOf_9 : decode cX12_lengthOf 9 = .ok (.iconst (-1), 1) := by decide +kernel
theorem dX12_lengthOf_10 : decode cX12_lengthOf 10 = .ok (.if_icmp .eq 28, 3) := by decide +kernel
theorem dX12_lengthOf_13 : decode cX12_lengthOf 13 = .ok (.iload_n 2, 1) := by decide +kernel
theorem dX12_lengthOf_14 : decode cX12_lengthOf 14 = .ok (.aload_n 0, 1) := by decide +kernel
theorem dX12_lengthOf_15 : decode cX12_lengthOf 15 = .ok (.getfield 52, 3) := by decide +kernel
theorem dX12_lengthOf_18 : decode cX12_lengthOf 18 = .ok (.bipush 7, 2) := by decide +kernel
theorem dX12_lengthOf_20 : decode cX12_lengthOf 20 = .ok (.iload_n 3, 1) := by decide +kernel
theorem dX12_lengthOf_21 : decode cX12_lengthOf 21 = .ok (.iadd, 1) := by decide +kernel
theorem dX12_lengthOf_22 : decode cX12_lengthOf 22 = .ok (.iaload, 1) := by decide +kernel
theorem dX12_lengthOf_23 : decode cX12_lengthOf 23 = .ok (.iadd, 1) := by decide +kernel
theorem dX12_lengthOf_24 : decode cX12_lengthOf 24 = .ok (.istore_n 2, 1) := by decide +kernel
theorem dX12_lengthOf_25 : decode cX12_lengthOf 25 = .ok (.aload_n 0, 1) := by decide +kernel
theorem dX12_lengthOf_26 : decode cX12_lengthOf 26 = .ok (.getfield 52, 3) := by decide +kernel
theorem dX12_lengthOf_29 : decode cX12_lengthOf 29 = .ok (.bipush 14, 2) := by decide +kernel
theorem dX12_lengthOf_31 : decode cX12_lengthOf 31 = .ok (.iload_n 3, 1) := by decide +kernel
theorem dX12_lengthOf_32 : decode cX12_lengthOf 32 = .ok (.iadd, 1) := by decide +kernel
theorem dX12_lengthOf_33 : decode cX12_lengthOf 33 = .ok (.iaload, 1) := by decide +kernel
theorem dX12_lengthOf_34 : decode cX12_lengthOf 34 = .ok (.istore_n 3, 1) := by decide +kernel
theorem dX12_lengthOf_35 : decode cX12_lengthOf 35 = .ok (.goto (-27), 3) := by decide +kernel
theorem dX12_lengthOf_38 : decode cX12_lengthOf 38 = .ok (.iload_n 2, 1) := by decide +kernel
theorem dX12_lengthOf_39 : decode cX12_lengthOf 39 = .ok (.ireturn, 1) := by decide +kernel
theorem dX12_goesBy_0 : decode cX12_goesBy 0 = .ok (.aload_n 0, 1) := by decide +kernel
theorem dX12_goesBy_1 : decode cX12_goesBy 1 = .ok (.getfield 58, 3) := by decide +kernel
theorem dX12_goesBy_4 : decode cX12_goesBy 4 = .ok (.iconst (-1), 1) := by decide +kernel
theorem dX12_goesBy_5 : decode cX12_goesBy 5 = .ok (.if_icmp .ne 26, 3) := by decide +kernel
theorem dX12_goesBy_8 : decode cX12_goesBy 8 = .ok (.aload_n 0, 1) := by decide +kernel
theorem dX12_goesBy_9 : decode cX12_goesBy 9 = .ok (.getfield 46, 3) := by decide +kernel
theorem dX12_goesBy_12 : decode cX12_goesBy 12 = .ok (.iconst 0, 1) := by decide +kernel
theorem dX12_goesBy_13 : decode cX12_goesBy 13 = .ok (.iaload, 1) := by decide +kernel
theorem dX12_goesBy_14 : decode cX12_goesBy 14 = .ok (.iconst 1, 1) := by decide +kernel
theorem dX12_goesBy_15 : decode cX12_goesBy 15 = .ok (.iadd, 1) := by decide +kernel
theorem dX12_goesBy_16 : decode cX12_goesBy 16 = .ok (.iload_n 1, 1) := by decide +kernel
theorem dX12_goesBy_17 : decode cX12_goesBy 17 = .ok (.isub, 1) := by decide +kernel
theorem dX12_goesBy_18 : decode cX12_goesBy 18 = .ok (.iconst 2, 1) := by decide +kernel
theorem dX12_goesBy_19 : decode cX12_goesBy 19 = .ok (.iload_n 2, 1) := by decide +kernel
theorem dX12_goesBy_20 : decode cX12_goesBy 20 = .ok (.imul, 1) := by decide +kernel
theorem dX12_goesBy_21 : decode cX12_goesBy 21 = .ok (.isub, 1) := by decide +kernel
theorem dX12_goesBy_22 : decode cX12_goesBy 22 = .ok (.ifCond .le 7, 3) := by decide +kernel
theorem dX12_goesBy_25 : decode cX12_goesBy 25 = .ok (.iconst 1, 1) := by decide +kernel
theorem dX12_goesBy_26 : decode cX12_goesBy 26 = .ok (.goto 4, 3) := by decide +kernel
theorem dX12_goesBy_29 : decode cX12_goesBy 29 = .ok (.iconst 0, 1) := by decide +kernel
theorem dX12_goesBy_30 : decode cX12_goesBy 30 = .ok (.ireturn, 1) := by decide +kernel
theorem dX12_goesBy_31 : decode cX12_goesBy 31 = .ok (.aload_n 0, 1) := by decide +kernel
theorem dX12_goesBy_32 : decode cX12_goesBy 32 = .ok (.getfield 34, 3) := by decide +kernel
theorem dX12_goesBy_35 : decode cX12_goesBy 35 = .ok (.iconst 0, 1) := by decide +kernel
theorem dX12_goesBy_36 : decode cX12_goesBy 36 = .ok (.iload_n 1, 1) := by decide +kernel
theorem dX12_goesBy_37 : decode cX12_goesBy 37 = .ok (.iastore, 1) := by decide +kernel
theorem dX12_goesBy_38 : decode cX12_goesBy 38 = .ok (.aload_n 0, 1) := by decide +kernel
theorem dX12_goesBy_39 : decode cX12_goesBy 39 = .ok (.getfield 34, 3) := by decide +kernel
theorem dX12_goesBy_42 : decode cX12_goesBy 42 = .ok (.iconst 1, 1) := by decide +kernel
theorem dX12_goesBy_43 : decode cX12_goesBy 43 = .ok (.iload_n 2, 1) := by decide +kernel
theorem dX12_goesBy_44 : decode cX12_goesBy 44 = .ok (.iastore, 1) := by decide +kernel
theorem dX12_goesBy_45 : decode cX12_goesBy 45 = .ok (.aload_n 0, 1) := by decide +kernel
theorem dX12_goesBy_46 : decode cX12_goesBy 46 = .ok (.getfield 34, 3) := by decide +kernel
theorem dX12_goesBy_49 : decode cX12_goesBy 49 = .ok (.iconst 2, 1) := by decide +kernel
theorem dX12_goesBy_50 : decode cX12_goesBy 50 = .ok (.iload_n 3, 1) := by decide +kernel
theorem dX12_goesBy_51 : decode cX12_goesBy 51 = .ok (.iastore, 1) := by decide +kernel
theorem dX12_goesBy_52 : decode cX12_goesBy 52 = .ok (.aload_n 0, 1) := by decide +kernel
theorem dX12_goesBy_53 : decode cX12_goesBy 53 = .ok (.getfield 34, 3) := by decide +kernel
theorem dX12_goesBy_56 : decode cX12_goesBy 56 = .ok (.iconst 3, 1) := by decide +kernel
theorem dX12_goesBy_57 : decode cX12_goesBy 57 = .ok (.aload_n 0, 1) := by decide +kernel
theorem dX12_goesBy_58 : decode cX12_goesBy 58 = .ok (.getfield 46, 3) := by decide +kernel
theorem dX12_goesBy_61 : decode cX12_goesBy 61 = .ok (.iconst 0, 1) := by decide +kernel
theorem dX12_goesBy_62 : decode cX12_goesBy 62 = .ok (.iaload, 1) := by decide +kernel
theorem dX12_goesBy_63 : decode cX12_goesBy 63 = .ok (.iastore, 1) := by decide +kernel
theorem dX12_goesBy_64 : decode cX12_goesBy 64 = .ok (.aload_n 0, 1) := by decide +kernel
theorem dX12_goesBy_65 : decode cX12_goesBy 65 = .ok (.getfield 34, 3) := by decide +kernel
theorem dX12_goesBy_68 : decode cX12_goesBy 68 = .ok (.iconst 4, 1) := by decide +kernel
theorem dX12_goesBy_69 : decode cX12_goesBy 69 = .ok (.iload 4, 2) := by decide +kernel
theorem dX12_goesBy_71 : decode cX12_goesBy 71 = .ok (.iastore, 1) := by decide +kernel
theorem dX12_goesBy_72 : decode cX12_goesBy 72 = .ok (.aload_n 0, 1) := by decide +kernel
theorem dX12_goesBy_73 : decode cX12_goesBy 73 = .ok (.getfield 34, 3) := by decide +kernel
theorem dX12_goesBy_76 : decode cX12_goesBy 76 = .ok (.iconst 5, 1) := by decide +kernel
theorem dX12_goesBy_77 : decode cX12_goesBy 77 = .ok (.iload 5, 2) := by decide +kernel
theorem dX12_goesBy_79 : decode cX12_goesBy 79 = .ok (.iastore, 1) := by decide +kernel
theorem dX12_goesBy_80 : decode cX12_goesBy 80 = .ok (.aload_n 0, 1) := by decide +kernel
theorem dX12_goesBy_81 : decode cX12_goesBy 81 = .ok (.aload_n 0, 1) := by decide +kernel
theorem dX12_goesBy_82 : decode cX12_goesBy 82 = .ok (.getfield 58, 3) := by decide +kernel
theorem dX12_goesBy_85 : decode cX12_goesBy 85 = .ok (.invokevirtual 276, 3) := by decide +kernel
theorem dX12_goesBy_88 : decode cX12_goesBy 88 = .ok (.ifCond .le 7, 3) := by decide +kernel
theorem dX12_goesBy_91 : decode cX12_goesBy 91 = .ok (.iconst 1, 1) := by decide +kernel
theorem dX12_goesBy_92 : decode cX12_goesBy 92 = .ok (.goto 4, 3) := by decide +kernel
theorem dX12_goesBy_95 : decode cX12_goesBy 95 = .ok (.iconst 0, 1) := by decide +kernel
theorem dX12_goesBy_96 : decode cX12_goesBy 96 = .ok (.ireturn, 1) := by decide +kernel
theorem dX12_goesWith_0 : decode cX12_goesWith 0 = .ok (.aload_n 0, 1) := by decide +kernel
theorem dX12_goesWith_1 : decode cX12_goesWith 1 = .ok (.aload_n 0, 1) := by decide +kernel
theorem dX12_goesWith_2 : decode cX12_goesWith 2 = .ok (.getfield 52, 3) := by decide +kernel
theorem dX12_goesWith_5 : decode cX12_goesWith 5 = .ok (.iconst 0, 1) := by decide +kernel
theorem dX12_goesWith_6 : decode cX12_goesWith 6 = .ok (.iload_n 1, 1) := by decide +kernel
theorem dX12_goesWith_7 : decode cX12_goesWith 7 = .ok (.iadd, 1) := by decide +kernel
theorem dX12_goesWith_8 : decode cX12_goesWith 8 = .ok (.iaload, 1) := by decide +kernel
theorem dX12_goesWith_9 : decode cX12_goesWith 9 = .ok (.aload_n 0, 1) := by decide +kernel
theorem dX12_goesWith_10 : decode cX12_goesWith 10 = .ok (.getfield 52, 3) := by decide +kernel
theorem dX12_goesWith_13 : decode cX12_goesWith 13 = .ok (.iconst 0, 1) := by decide +kernel
theorem dX12_goesWith_14 : decode cX12_goesWith 14 = .ok (.iload_n 2, 1) := by decide +kernel
theorem dX12_goesWith_15 : decode cX12_goesWith 15 = .ok (.iadd, 1) := by decide +kernel
theorem dX12_goesWith_16 : decode cX12_goesWith 16 = .ok (.iaload, 1) := by decide +kernel
theorem dX12_goesWith_17 : decode cX12_goesWith 17 = .ok (.isub, 1) := by decide +kernel
theorem dX12_goesWith_18 : decode cX12_goesWith 18 = .ok (.invokestatic 279, 3) := by decide +kernel
theorem dX12_goesWith_21 : decode cX12_goesWith 21 = .ok (.aload_n 0, 1) := by decide +kernel
theorem dX12_goesWith_22 : decode cX12_goesWith 22 = .ok (.iload_n 1, 1) := by decide +kernel
theorem dX12_goesWith_23 : decode cX12_goesWith 23 = .ok (.iconst 1, 1) := by decide +kernel
theorem dX12_goesWith_24 : decode cX12_goesWith 24 = .ok (.invokevirtual 248, 3) := by decide +kernel
theorem dX12_goesWith_27 : decode cX12_goesWith 27 = .ok (.aload_n 0, 1) := by decide +kernel
theorem dX12_goesWith_28 : decode cX12_goesWith 28 = .ok (.iload_n 2, 1) := by decide +kernel
theorem dX12_goesWith_29 : decode cX12_goesWith 29 = .ok (.iconst 1, 1) := by decide +kernel
theorem dX12_goesWith_30 : decode cX12_goesWith 30 = .ok (.invokevirtual 248, 3) := by decide +kernel
theorem dX12_goesWith_33 : decode cX12_goesWith 33 = .ok (.isub, 1) := by decide +kernel
theorem dX12_goesWith_34 : decode cX12_goesWith 34 = .ok (.invokestatic 279, 3) := by decide +kernel
theorem dX12_goesWith_37 : decode cX12_goesWith 37 = .ok (.aload_n 0, 1) := by decide +kernel
theorem dX12_goesWith_38 : decode cX12_goesWith 38 = .ok (.getfield 52, 3) := by decide +kernel
theorem dX12_goesWith_41 : decode cX12_goesWith 41 = .ok (.bipush 7, 2) := by decide +kernel
theorem dX12_goesWith_43 : decode cX12_goesWith 43 = .ok (.iload_n 1, 1) := by decide +kernel
theorem dX12_goesWith_44 : decode cX12_goesWith 44 = .ok (.iadd, 1) := by decide +kernel
theorem dX12_goesWith_45 : decode cX12_goesWith 45 = .ok (.iaload, 1) := by decide +kernel
theorem dX12_goesWith_46 : decode cX12_goesWith 46 = .ok (.aload_n 0, 1) := by decide +kernel
theorem dX12_goesWith_47 : decode cX12_goesWith 47 = .ok (.getfield 52, 3) := by decide +kernel
theorem dX12_goesWith_50 : decode cX12_goesWith 50 = .ok (.bipush 7, 2) := by decide +kernel
theorem dX12_goesWith_52 : decode cX12_goesWith 52 = .ok (.iload_n 2, 1) := by decide +kernel
theorem dX12_goesWith_53 : decode cX12_goesWith 53 = .ok (.iadd, 1) := by decide +kernel
theorem dX12_goesWith_54 : decode cX12_goesWith 54 = .ok (.iaload, 1) := by decide +kernel
theorem dX12_goesWith_55 : decode cX12_goesWith 55 = .ok (.iadd, 1) := by decide +kernel
theorem dX12_goesWith_56 : decode cX12_goesWith 56 = .ok (.iload_n 3, 1) := by decide +kernel
theorem dX12_goesWith_57 : decode cX12_goesWith 57 = .ok (.aload_n 0, 1) := by decide +kernel
theorem dX12_goesWith_58 : decode cX12_goesWith 58 = .ok (.getfield 52, 3) := by decide +kernel
theorem dX12_goesWith_61 : decode cX12_goesWith 61 = .ok (.bipush 32, 2) := by decide +kernel
theorem dX12_goesWith_63 : decode cX12_goesWith 63 = .ok (.iaload, 1) := by decide +kernel
theorem dX12_goesWith_64 : decode cX12_goesWith 64 = .ok (.invokevirtual 282, 3) := by decide +kernel
theorem dX12_goesWith_67 : decode cX12_goesWith 67 = .ok (.ireturn, 1) := by decide +kernel
theorem dX12_fitsNow_0 : decode cX12_fitsNow 0 = .ok (.aload_n 0, 1) := by decide +kernel
theorem dX12_fitsNow_1 : decode cX12_fitsNow 1 = .ok (.iload_n 1, 1) := by decide +kernel
theorem dX12_fitsNow_2 : decode cX12_fitsNow 2 = .ok (.iload_n 2, 1) := by decide +kernel
theorem dX12_fitsNow_3 : decode cX12_fitsNow 3 = .ok (.aload_n 0, 1) := by decide +kernel
theorem dX12_fitsNow_4 : decode cX12_fitsNow 4 = .ok (.iload_n 1, 1) := by decide +kernel
theorem dX12_fitsNow_5 : decode cX12_fitsNow 5 = .ok (.invokevirtual 286, 3) := by decide +kernel
theorem dX12_fitsNow_8 : decode cX12_fitsNow 8 = .ok (.invokevirtual 289, 3) := by decide +kernel
theorem dX12_fitsNow_11 : decode cX12_fitsNow 11 = .ok (.ireturn, 1) := by decide +kernel
theorem dX12_mayTry_0 : decode cX12_mayTry 0 = .ok (.iload_n 1, 1) := by decide +kernel
theorem dX12_mayTry_1 : decode cX12_mayTry 1 = .ok (.iload_n 2, 1) := by decide +kernel
theorem dX12_mayTry_2 : decode cX12_mayTry 2 = .ok (.if_icmp .eq 62, 3) := by decide +kernel
theorem dX12_mayTry_5 : decode cX12_mayTry 5 = .ok (.aload_n 0, 1) := by decide +kernel
theorem dX12_mayTry_6 : decode cX12_mayTry 6 = .ok (.iload_n 1, 1) := by decide +kernel
theorem dX12_mayTry_7 : decode cX12_mayTry 7 = .ok (.invokevirtual 267, 3) := by decide +kernel
theorem dX12_mayTry_10 : decode cX12_mayTry 10 = .ok (.ifCond .ne 54, 3) := by decide +kernel
theorem dX12_mayTry_13 : decode cX12_mayTry 13 = .ok (.aload_n 0, 1) := by decide +kernel
theorem dX12_mayTry_14 : decode cX12_mayTry 14 = .ok (.iload_n 2, 1) := by decide +kernel
theorem dX12_mayTry_15 : decode cX12_mayTry 15 = .ok (.invokevirtual 267, 3) := by decide +kernel
theorem dX12_mayTry_18 : decode cX12_mayTry 18 = .ok (.ifCond .ne 46, 3) := by decide +kernel
theorem dX12_mayTry_21 : decode cX12_mayTry 21 = .ok (.aload_n 0, 1) := by decide +kernel
theorem dX12_mayTry_22 : decode cX12_mayTry 22 = .ok (.getfield 52, 3) := by decide +kernel
theorem dX12_mayTry_25 : decode cX12_mayTry 25 = .ok (.bipush 14, 2) := by decide +kernel
theorem dX12_mayTry_27 : decode cX12_mayTry 27 = .ok (.iload_n 1, 1) := by decide +kernel
theorem dX12_mayTry_28 : decode cX12_mayTry 28 = .ok (.iadd, 1) := by decide +kernel
theorem dX12_mayTry_29 : decode cX12_mayTry 29 = .ok (.iaload, 1) := by decide +kernel
theorem dX12_mayTry_30 : decode cX12_mayTry 30 = .ok (.iconst (-1), 1) := by decide +kernel
theorem dX12_mayTry_31 : decode cX12_mayTry 31 = .ok (.if_icmp .ne 33, 3) := by decide +kernel
theorem dX12_mayTry_34 : decode cX12_mayTry 34 = .ok (.aload_n 0, 1) := by decide +kernel
theorem dX12_mayTry_35 : decode cX12_mayTry 35 = .ok (.getfield 52, 3) := by decide +kernel
theorem dX12_mayTry_38 : decode cX12_mayTry 38 = .ok (.bipush 21, 2) := by decide +kernel
theorem dX12_mayTry_40 : decode cX12_mayTry 40 = .ok (.iload_n 2, 1) := by decide +kernel
theorem dX12_mayTry_41 : decode cX12_mayTry 41 = .ok (.iadd, 1) := by decide +kernel
theorem dX12_mayTry_42 : decode cX12_mayTry 42 = .ok (.iaload, 1) := by decide +kernel
theorem dX12_mayTry_43 : decode cX12_mayTry 43 = .ok (.iconst (-1), 1) := by decide +kernel
theorem dX12_mayTry_44 : decode cX12_mayTry 44 = .ok (.if_icmp .ne 20, 3) := by decide +kernel
theorem dX12_mayTry_47 : decode cX12_mayTry 47 = .ok (.aload_n 0, 1) := by decide +kernel
theorem dX12_mayTry_48 : decode cX12_mayTry 48 = .ok (.iload_n 1, 1) := by decide +kernel
theorem dX12_mayTry_49 : decode cX12_mayTry 49 = .ok (.invokevirtual 273, 3) := by decide +kernel
theorem dX12_mayTry_52 : decode cX12_mayTry 52 = .ok (.aload_n 0, 1) := by decide +kernel
theorem dX12_mayTry_53 : decode cX12_mayTry 53 = .ok (.iload_n 2, 1) := by decide +kernel
theorem dX12_mayTry_54 : decode cX12_mayTry 54 = .ok (.invokevirtual 273, 3) := by decide +kernel
theorem dX12_mayTry_57 : decode cX12_mayTry 57 = .ok (.if_icmp .eq 7, 3) := by decide +kernel
theorem dX12_mayTry_60 : decode cX12_mayTry 60 = .ok (.iconst 1, 1) := by decide +kernel
theorem dX12_mayTry_61 : decode cX12_mayTry 61 = .ok (.goto 4, 3) := by decide +kernel
theorem dX12_mayTry_64 : decode cX12_mayTry 64 = .ok (.iconst 0, 1) := by decide +kernel
theorem dX12_mayTry_65 : decode cX12_mayTry 65 = .ok (.ireturn, 1) := by decide +kernel
theorem dX12_fadeNow_0 : decode cX12_fadeNow 0 = .ok (.aload_n 0, 1) := by decide +kernel
theorem dX12_fadeNow_1 : decode cX12_fadeNow 1 = .ok (.getfield 52, 3) := by decide +kernel
theorem dX12_fadeNow_4 : decode cX12_fadeNow 4 = .ok (.iconst 0, 1) := by decide +kernel
theorem dX12_fadeNow_5 : decode cX12_fadeNow 5 = .ok (.iload_n 1, 1) := by decide +kernel
theorem dX12_fadeNow_6 : decode cX12_fadeNow 6 = .ok (.iadd, 1) := by decide +kernel
theorem dX12_fadeNow_7 : decode cX12_fadeNow 7 = .ok (.iconst 0, 1) := by decide +kernel
theorem dX12_fadeNow_8 : decode cX12_fadeNow 8 = .ok (.aload_n 0, 1) := by decide +kernel
theorem dX12_fadeNow_9 : decode cX12_fadeNow 9 = .ok (.getfield 52, 3) := by decide +kernel
theorem dX12_fadeNow_12 : decode cX12_fadeNow 12 = .ok (.iconst 0, 1) := by decide +kernel
theorem dX12_fadeNow_13 : decode cX12_fadeNow 13 = .ok (.iload_n 1, 1) := by decide +kernel
theorem dX12_fadeNow_14 : decode cX12_fadeNow 14 = .ok (.iadd, 1) := by decide +kernel
theorem dX12_fadeNow_15 : decode cX12_fadeNow 15 = .ok (.iaload, 1) := by decide +kernel
theorem dX12_fadeNow_16 : decode cX12_fadeNow 16 = .ok (.aload_n 0, 1) := by decide +kernel
theorem dX12_fadeNow_17 : decode cX12_fadeNow 17 = .ok (.getfield 46, 3) := by decide +kernel
theorem dX12_fadeNow_20 : decode cX12_fadeNow 20 = .ok (.iconst 1, 1) := by decide +kernel
theorem dX12_fadeNow_21 : decode cX12_fadeNow 21 = .ok (.iaload, 1) := by decide +kernel
theorem dX12_fadeNow_22 : decode cX12_fadeNow 22 = .ok (.isub, 1) := by decide +kernel
theorem dX12_fadeNow_23 : decode cX12_fadeNow 23 = .ok (.invokestatic 292, 3) := by decide +kernel
theorem dX12_fadeNow_26 : decode cX12_fadeNow 26 = .ok (.iastore, 1) := by decide +kernel
theorem dX12_fadeNow_27 : decode cX12_fadeNow 27 = .ok (.return_, 1) := by decide +kernel
theorem dX12_tryNow_0 : decode cX12_tryNow 0 = .ok (.aload_n 0, 1) := by decide +kernel
theorem dX12_tryNow_1 : decode cX12_tryNow 1 = .ok (.iload_n 1, 1) := by decide +kernel
theorem dX12_tryNow_2 : decode cX12_tryNow 2 = .ok (.iload_n 2, 1) := by decide +kernel
theorem dX12_tryNow_3 : decode cX12_tryNow 3 = .ok (.invokevirtual 294, 3) := by decide +kernel
theorem dX12_tryNow_6 : decode cX12_tryNow 6 = .ok (.istore_n 3, 1) := by decide +kernel
theorem dX12_tryNow_7 : decode cX12_tryNow 7 = .ok (.iload_n 3, 1) := by decide +kernel
theorem dX12_tryNow_8 : decode cX12_tryNow 8 = .ok (.ifCond .eq 36, 3) := by decide +kernel
theorem dX12_tryNow_11 : decode cX12_tryNow 11 = .ok (.aload_n 0, 1) := by decide +kernel
theorem dX12_tryNow_12 : decode cX12_tryNow 12 = .ok (.getfield 52, 3) := by decide +kernel
theorem dX12_tryNow_15 : decode cX12_tryNow 15 = .ok (.bipush 14, 2) := by decide +kernel
theorem dX12_tryNow_17 : decode cX12_tryNow 17 = .ok (.iload_n 1, 1) := by decide +kernel
theorem dX12_tryNow_18 : decode cX12_tryNow 18 = .ok (.iadd, 1) := by decide +kernel
theorem dX12_tryNow_19 : decode cX12_tryNow 19 = .ok (.iload_n 2, 1) := by decide +kernel
theorem dX12_tryNow_20 : decode cX12_tryNow 20 = .ok (.iastore, 1) := by decide +kernel
theorem dX12_tryNow_21 : decode cX12_tryNow 21 = .ok (.aload_n 0, 1) := by decide +kernel
theorem dX12_tryNow_22 : decode cX12_tryNow 22 = .ok (.getfield 52, 3) := by decide +kernel
theorem dX12_tryNow_25 : decode cX12_tryNow 25 = .ok (.bipush 21, 2) := by decide +kernel
theorem dX12_tryNow_27 : decode cX12_tryNow 27 = .ok (.iload_n 2, 1) := by decide +kernel
theorem dX12_tryNow_28 : decode cX12_tryNow 28 = .ok (.iadd, 1) := by decide +kernel
theorem dX12_tryNow_29 : decode cX12_tryNow 29 = .ok (.iload_n 1, 1) := by decide +kernel
theorem dX12_tryNow_30 : decode cX12_tryNow 30 = .ok (.iastore, 1) := by decide +kernel
theorem dX12_tryNow_31 : decode cX12_tryNow 31 = .ok (.aload_n 0, 1) := by decide +kernel
theorem dX12_tryNow_32 : decode cX12_tryNow 32 = .ok (.getfield 52, 3) := by decide +kernel
theorem dX12_tryNow_35 : decode cX12_tryNow 35 = .ok (.bipush 30, 2) := by decide +kernel
theorem dX12_tryNow_37 : decode cX12_tryNow 37 = .ok (.dup2, 1) := by decide +kernel
theorem dX12_tryNow_38 : decode cX12_tryNow 38 = .ok (.iaload, 1) := by decide +kernel
theorem dX12_tryNow_39 : decode cX12_tryNow 39 = .ok (.iconst 1, 1) := by decide +kernel
theorem dX12_tryNow_40 : decode cX12_tryNow 40 = .ok (.iload_n 1, 1) := by decide +kernel
theorem dX12_tryNow_41 : decode cX12_tryNow 41 = .ok (.ishl, 1) := by decide +kernel
theorem dX12_tryNow_42 : decode cX12_tryNow 42 = .ok (.ior, 1) := by decide +kernel
theorem dX12_tryNow_43 : decode cX12_tryNow 43 = .ok (.iastore, 1) := by decide +kernel
theorem dX12_tryNow_44 : decode cX12_tryNow 44 = .ok (.aload_n 0, 1) := by decide +kernel
theorem dX12_tryNow_45 : decode cX12_tryNow 45 = .ok (.iload_n 1, 1) := by decide +kernel
theorem dX12_tryNow_46 : decode cX12_tryNow 46 = .ok (.invokevirtual 297, 3) := by decide +kernel
theorem dX12_tryNow_49 : decode cX12_tryNow 49 = .ok (.aload_n 0, 1) := by decide +kernel
theorem dX12_tryNow_50 : decode cX12_tryNow 50 = .ok (.iload_n 2, 1) := by decide +kernel
theorem dX12_tryNow_51 : decode cX12_tryNow 51 = .ok (.invokevirtual 297, 3) := by decide +kernel
theorem dX12_tryNow_54 : decode cX12_tryNow 54 = .ok (.aload_n 0, 1) := by decide +kernel
theorem dX12_tryNow_55 : decode cX12_tryNow 55 = .ok (.getfield 52, 3) := by decide +kernel
theorem dX12_tryNow_58 : decode cX12_tryNow 58 = .ok (.bipush 29, 2) := by decide +kernel
theorem dX12_tryNow_60 : decode cX12_tryNow 60 = .ok (.dup2, 1) := by decide +kernel
theorem dX12_tryNow_61 : decode cX12_tryNow 61 = .ok (.iaload, 1) := by decide +kernel
theorem dX12_tryNow_62 : decode cX12_tryNow 62 = .ok (.iconst 1, 1) := by decide +kernel
theorem dX12_tryNow_63 : decode cX12_tryNow 63 = .ok (.iadd, 1) := by decide +kernel
theorem dX12_tryNow_64 : decode cX12_tryNow 64 = .ok (.iastore, 1) := by decide +kernel
theorem dX12_tryNow_65 : decode cX12_tryNow 65 = .ok (.iload_n 3, 1) := by decide +kernel
theorem dX12_tryNow_66 : decode cX12_tryNow 66 = .ok (.ifCond .eq 7, 3) := by decide +kernel
theorem dX12_tryNow_69 : decode cX12_tryNow 69 = .ok (.iconst 1, 1) := by decide +kernel
theorem dX12_tryNow_70 : decode cX12_tryNow 70 = .ok (.goto 4, 3) := by decide +kernel
theorem dX12_tryNow_73 : decode cX12_tryNow 73 = .ok (.iconst 0, 1) := by decide +kernel
theorem dX12_tryNow_74 : decode cX12_tryNow 74 = .ok (.ireturn, 1) := by decide +kernel
theorem dX12_shorten_0 : decode cX12_shorten 0 = .ok (.aload_n 0, 1) := by decide +kernel
theorem dX12_shorten_1 : decode cX12_shorten 1 = .ok (.getfield 52, 3) := by decide +kernel
theorem dX12_shorten_4 : decode cX12_shorten 4 = .ok (.bipush 7, 2) := by decide +kernel
theorem dX12_shorten_6 : decode cX12_shorten 6 = .ok (.iload_n 1, 1) := by decide +kernel
theorem dX12_shorten_7 : decode cX12_shorten 7 = .ok (.iadd, 1) := by decide +kernel
theorem dX12_shorten_8 : decode cX12_shorten 8 = .ok (.iconst 1, 1) := by decide +kernel
theorem dX12_shorten_9 : decode cX12_shorten 9 = .ok (.aload_n 0, 1) := by decide +kernel
theorem dX12_shorten_10 : decode cX12_shorten 10 = .ok (.getfield 52, 3) := by decide +kernel
theorem dX12_shorten_13 : decode cX12_shorten 13 = .ok (.bipush 7, 2) := by decide +kernel
theorem dX12_shorten_15 : decode cX12_shorten 15 = .ok (.iload_n 1, 1) := by decide +kernel
theorem dX12_shorten_16 : decode cX12_shorten 16 = .ok (.iadd, 1) := by decide +kernel
theorem dX12_shorten_17 : decode cX12_shorten 17 = .ok (.iaload, 1) := by decide +kernel
theorem dX12_shorten_18 : decode cX12_shorten 18 = .ok (.iconst 1, 1) := by decide +kernel
theorem dX12_shorten_19 : decode cX12_shorten 19 = .ok (.isub, 1) := by decide +kernel
theorem dX12_shorten_20 : decode cX12_shorten 20 = .ok (.invokestatic 292, 3) := by decide +kernel
theorem dX12_shorten_23 : decode cX12_shorten 23 = .ok (.iastore, 1) := by decide +kernel
theorem dX12_shorten_24 : decode cX12_shorten 24 = .ok (.return_, 1) := by decide +kernel
theorem dX12_pullNow_0 : decode cX12_pullNow 0 = .ok (.iconst 0, 1) := by decide +kernel
theorem dX12_pullNow_1 : decode cX12_pullNow 1 = .ok (.istore_n 2, 1) := by decide +kernel
theorem dX12_pullNow_2 : decode cX12_pullNow 2 = .ok (.aload_n 0, 1) := by decide +kernel
theorem dX12_pullNow_3 : decode cX12_pullNow 3 = .ok (.getfield 52, 3) := by decide +kernel
theorem dX12_pullNow_6 : decode cX12_pullNow 6 = .ok (.bipush 14, 2) := by decide +kernel
theorem dX12_pullNow_8 : decode cX12_pullNow 8 = .ok (.iload_n 1, 1) := by decide +kernel
theorem dX12_pullNow_9 : decode cX12_pullNow 9 = .ok (.iadd, 1) := by decide +kernel
theorem dX12_pullNow_10 : decode cX12_pullNow 10 = .ok (.iaload, 1) := by decide +kernel
theorem dX12_pullNow_11 : decode cX12_pullNow 11 = .ok (.istore_n 3, 1) := by decide +kernel
theorem dX12_pullNow_12 : decode cX12_pullNow 12 = .ok (.aload_n 0, 1) := by decide +kernel
theorem dX12_pullNow_13 : decode cX12_pullNow 13 = .ok (.getfield 52, 3) := by decide +kernel
theorem dX12_pullNow_16 : decode cX12_pullNow 16 = .ok (.bipush 21, 2) := by decide +kernel
theorem dX12_pullNow_18 : decode cX12_pullNow 18 = .ok (.iload_n 1, 1) := by decide +kernel
theorem dX12_pullNow_19 : decode cX12_pullNow 19 = .ok (.iadd, 1) := by decide +kernel
theorem dX12_pullNow_20 : decode cX12_pullNow 20 = .ok (.iaload, 1) := by decide +kernel
theorem dX12_pullNow_21 : decode cX12_pullNow 21 = .ok (.istore 4, 2) := by decide +kernel
theorem dX12_pullNow_23 : decode cX12_pullNow 23 = .ok (.iload_n 3, 1) := by decide +kernel
theorem dX12_pullNow_24 : decode cX12_pullNow 24 = .ok (.iconst (-1), 1) := by decide +kernel
theorem dX12_pullNow_25 : decode cX12_pullNow 25 = .ok (.if_icmp .eq 21, 3) := by decide +kernel
theorem dX12_pullNow_28 : decode cX12_pullNow 28 = .ok (.aload_n 0, 1) := by decide +kernel
theorem dX12_pullNow_29 : decode cX12_pullNow 29 = .ok (.getfield 52, 3) := by decide +kernel
theorem dX12_pullNow_32 : decode cX12_pullNow 32 = .ok (.bipush 21, 2) := by decide +kernel
theorem dX12_pullNow_34 : decode cX12_pullNow 34 = .ok (.iload_n 3, 1) := by decide +kernel
theorem dX12_pullNow_35 : decode cX12_pullNow 35 = .ok (.iadd, 1) := by decide +kernel
theorem dX12_pullNow_36 : decode cX12_pullNow 36 = .ok (.iconst (-1), 1) := by decide +kernel
theorem dX12_pullNow_37 : decode cX12_pullNow 37 = .ok (.iastore, 1) := by decide +kernel
theorem dX12_pullNow_38 : decode cX12_pullNow 38 = .ok (.aload_n 0, 1) := by decide +kernel
theorem dX12_pullNow_39 : decode cX12_pullNow 39 = .ok (.iload_n 3, 1) := by decide +kernel
theorem dX12_pullNow_40 : decode cX12_pullNow 40 = .ok (.invokevirtual 300, 3) := by decide +kernel
theorem dX12_pullNow_43 : decode cX12_pullNow 43 = .ok (.iinc 2 1, 3) := by decide +kernel
theorem dX12_pullNow_46 : decode cX12_pullNow 46 = .ok (.iload 4, 2) := by decide +kernel
theorem dX12_pullNow_48 : decode cX12_pullNow 48 = .ok (.iconst (-1), 1) := by decide +kernel
theorem dX12_pullNow_49 : decode cX12_pullNow 49 = .ok (.if_icmp .eq 23, 3) := by decide +kernel
theorem dX12_pullNow_52 : decode cX12_pullNow 52 = .ok (.aload_n 0, 1) := by decide +kernel
theorem dX12_pullNow_53 : decode cX12_pullNow 53 = .ok (.getfield 52, 3) := by decide +kernel
theorem dX12_pullNow_56 : decode cX12_pullNow 56 = .ok (.bipush 14, 2) := by decide +kernel
theorem dX12_pullNow_58 : decode cX12_pullNow 58 = .ok (.iload 4, 2) := by decide +kernel
theorem dX12_pullNow_60 : decode cX12_pullNow 60 = .ok (.iadd, 1) := by decide +kernel
theorem dX12_pullNow_61 : decode cX12_pullNow 61 = .ok (.iconst (-1), 1) := by decide +kernel
theorem dX12_pullNow_62 : decode cX12_pullNow 62 = .ok (.iastore, 1) := by decide +kernel
theorem dX12_pullNow_63 : decode cX12_pullNow 63 = .ok (.aload_n 0, 1) := by decide +kernel
theorem dX12_pullNow_64 : decode cX12_pullNow 64 = .ok (.iload 4, 2) := by decide +kernel
theorem dX12_pullNow_66 : decode cX12_pullNow 66 = .ok (.invokevirtual 300, 3) := by decide +kernel
theorem dX12_pullNow_69 : decode cX12_pullNow 69 = .ok (.iinc 2 1, 3) := by decide +kernel
theorem dX12_pullNow_72 : decode cX12_pullNow 72 = .ok (.aload_n 0, 1) := by decide +kernel
theorem dX12_pullNow_73 : decode cX12_pullNow 73 = .ok (.getfield 52, 3) := by decide +kernel
theorem dX12_pullNow_76 : decode cX12_pullNow 76 = .ok (.bipush 14, 2) := by decide +kernel
theorem dX12_pullNow_78 : decode cX12_pullNow 78 = .ok (.iload_n 1, 1) := by decide +kernel
theorem dX12_pullNow_79 : decode cX12_pullNow 79 = .ok (.iadd, 1) := by decide +kernel
theorem dX12_pullNow_80 : decode cX12_pullNow 80 = .ok (.iconst (-1), 1) := by decide +kernel
theorem dX12_pullNow_81 : decode cX12_pullNow 81 = .ok (.iastore, 1) := by decide +kernel
theorem dX12_pullNow_82 : decode cX12_pullNow 82 = .ok (.aload_n 0, 1) := by decide +kernel
theorem dX12_pullNow_83 : decode cX12_pullNow 83 = .ok (.getfield 52, 3) := by decide +kernel
theorem dX12_pullNow_86 : decode cX12_pullNow 86 = .ok (.bipush 21, 2) := by decide +kernel
theorem dX12_pullNow_88 : decode cX12_pullNow 88 = .ok (.iload_n 1, 1) := by decide +kernel
theorem dX12_pullNow_89 : decode cX12_pullNow 89 = .ok (.iadd, 1) := by decide +kernel
theorem dX12_pullNow_90 : decode cX12_pullNow 90 = .ok (.iconst (-1), 1) := by decide +kernel
theorem dX12_pullNow_91 : decode cX12_pullNow 91 = .ok (.iastore, 1) := by decide +kernel
theorem dX12_pullNow_92 : decode cX12_pullNow 92 = .ok (.iload_n 2, 1) := by decide +kernel
theorem dX12_pullNow_93 : decode cX12_pullNow 93 = .ok (.ireturn, 1) := by decide +kernel
theorem dX12_worthOfTale_0 : decode cX12_worthOfTale 0 = .ok (.aload_n 0, 1) := by decide +kernel
theorem dX12_worthOfTale_1 : decode cX12_worthOfTale 1 = .ok (.iload_n 1, 1) := by decide +kernel
theorem dX12_worthOfTale_2 : decode cX12_worthOfTale 2 = .ok (.invokevirtual 303, 3) := by decide +kernel
theorem dX12_worthOfTale_5 : decode cX12_worthOfTale 5 = .ok (.aload_n 0, 1) := by decide +kernel
theorem dX12_worthOfTale_6 : decode cX12_worthOfTale 6 = .ok (.iload_n 1, 1) := by decide +kernel
theorem dX12_worthOfTale_7 : decode cX12_worthOfTale 7 = .ok (.invokevirtual 286, 3) := by decide +kernel
theorem dX12_worthOfTale_10 : decode cX12_worthOfTale 10 = .ok (.imul, 1) := by decide +kernel
theorem dX12_worthOfTale_11 : decode cX12_worthOfTale 11 = .ok (.iconst 4, 1) := by decide +kernel
theorem dX12_worthOfTale_12 : decode cX12_worthOfTale 12 = .ok (.idiv, 1) := by decide +kernel
theorem dX12_worthOfTale_13 : decode cX12_worthOfTale 13 = .ok (.ireturn, 1) := by decide +kernel
theorem dX12_rule_0 : decode cX12_rule 0 = .ok (.aload_n 0, 1) := by decide +kernel
theorem dX12_rule_1 : decode cX12_rule 1 = .ok (.getfield 245, 3) := by decide +kernel
theorem dX12_rule_4 : decode cX12_rule 4 = .ok (.ifCond .eq 12, 3) := by decide +kernel
theorem dX12_rule_7 : decode cX12_rule 7 = .ok (.iload_n 1, 1) := by decide +kernel
theorem dX12_rule_8 : decode cX12_rule 8 = .ok (.iconst 0, 1) := by decide +kernel
theorem dX12_rule_9 : decode cX12_rule 9 = .ok (.iconst 3, 1) := by decide +kernel
theorem dX12_rule_10 : decode cX12_rule 10 = .ok (.invokestatic 208, 3) := by decide +kernel
theorem dX12_rule_13 : decode cX12_rule 13 = .ok (.ifCond .ne 7, 3) := by decide +kernel
theorem dX12_rule_16 : decode cX12_rule 16 = .ok (.iconst (-1), 1) := by decide +kernel
theorem dX12_rule_17 : decode cX12_rule 17 = .ok (.goto 24, 3) := by decide +kernel
theorem dX12_rule_20 : decode cX12_rule 20 = .ok (.iload_n 1, 1) := by decide +kernel
theorem dX12_rule_21 : decode cX12_rule 21 = .ok (.iconst 3, 1) := by decide +kernel
theorem dX12_rule_22 : decode cX12_rule 22 = .ok (.if_icmp .ne 13, 3) := by decide +kernel
theorem dX12_rule_25 : decode cX12_rule 25 = .ok (.aload_n 0, 1) := by decide +kernel
theorem dX12_rule_26 : decode cX12_rule 26 = .ok (.getfield 52, 3) := by decide +kernel
theorem dX12_rule_29 : decode cX12_rule 29 = .ok (.bipush 31, 2) := by decide +kernel
theorem dX12_rule_31 : decode cX12_rule 31 = .ok (.iaload, 1) := by decide +kernel
theorem dX12_rule_32 : decode cX12_rule 32 = .ok (.goto 9, 3) := by decide +kernel
theorem dX12_rule_35 : decode cX12_rule 35 = .ok (.aload_n 0, 1) := by decide +kernel
theorem dX12_rule_36 : decode cX12_rule 36 = .ok (.getfield 46, 3) := by decide +kernel
theorem dX12_rule_39 : decode cX12_rule 39 = .ok (.iload_n 1, 1) := by decide +kernel
theorem dX12_rule_40 : decode cX12_rule 40 = .ok (.iaload, 1) := by decide +kernel
theorem dX12_rule_41 : decode cX12_rule 41 = .ok (.ireturn, 1) := by decide +kernel
theorem dX12_thread_0 : decode cX12_thread 0 = .ok (.aload_n 0, 1) := by decide +kernel
theorem dX12_thread_1 : decode cX12_thread 1 = .ok (.aload_n 0, 1) := by decide +kernel
theorem dX12_thread_2 : decode cX12_thread 2 = .ok (.iload_n 1, 1) := by decide +kernel
theorem dX12_thread_3 : decode cX12_thread 3 = .ok (.invokevirtual 306, 3) := by decide +kernel
theorem dX12_thread_6 : decode cX12_thread 6 = .ok (.ifCond .eq 16, 3) := by decide +kernel
theorem dX12_thread_9 : decode cX12_thread 9 = .ok (.iload_n 2, 1) := by decide +kernel
theorem dX12_thread_10 : decode cX12_thread 10 = .ok (.iconst 0, 1) := by decide +kernel
theorem dX12_thread_11 : decode cX12_thread 11 = .ok (.iconst 5, 1) := by decide +kernel
theorem dX12_thread_12 : decode cX12_thread 12 = .ok (.invokestatic 208, 3) := by decide +kernel
theorem dX12_thread_15 : decode cX12_thread 15 = .ok (.ifCond .eq 7, 3) := by decide +kernel
theorem dX12_thread_18 : decode cX12_thread 18 = .ok (.iconst 0, 1) := by decide +kernel
theorem dX12_thread_19 : decode cX12_thread 19 = .ok (.goto 4, 3) := by decide +kernel
theorem dX12_thread_22 : decode cX12_thread 22 = .ok (.iconst 1, 1) := by decide +kernel
theorem dX12_thread_23 : decode cX12_thread 23 = .ok (.putfield 93, 3) := by decide +kernel
theorem dX12_thread_26 : decode cX12_thread 26 = .ok (.aload_n 0, 1) := by decide +kernel
theorem dX12_thread_27 : decode cX12_thread 27 = .ok (.getfield 93, 3) := by decide +kernel
theorem dX12_thread_30 : decode cX12_thread 30 = .ok (.iconst 1, 1) := by decide +kernel
theorem dX12_thread_31 : decode cX12_thread 31 = .ok (.if_icmp .ne 5, 3) := by decide +kernel
theorem dX12_thread_34 : decode cX12_thread 34 = .ok (.iconst 0, 1) := by decide +kernel
theorem dX12_thread_35 : decode cX12_thread 35 = .ok (.ireturn, 1) := by decide +kernel
theorem dX12_thread_36 : decode cX12_thread 36 = .ok (.iload_n 2, 1) := by decide +kernel
theorem dX12_thread_37 : decode cX12_thread 37 = .ok (.tableswitch 85 0 4 #[35, 44, 51, 61, 75], 35) := by decide +kernel
theorem dX12_thread_72 : decode cX12_thread 72 = .ok (.aload_n 0, 1) := by decide +kernel
theorem dX12_thread_73 : decode cX12_thread 73 = .ok (.getfield 52, 3) := by decide +kernel
theorem dX12_thread_76 : decode cX12_thread 76 = .ok (.iconst 0, 1) := by decide +kernel
theorem dX12_thread_77 : decode cX12_thread 77 = .ok (.iload_n 1, 1) := by decide +kernel
theorem dX12_thread_78 : decode cX12_thread 78 = .ok (.iadd, 1) := by decide +kernel
theorem dX12_thread_79 : decode cX12_thread 79 = .ok (.iaload, 1) := by decide +kernel
theorem dX12_thread_80 : decode cX12_thread 80 = .ok (.ireturn, 1) := by decide +kernel
theorem dX12_thread_81 : decode cX12_thread 81 = .ok (.aload_n 0, 1) := by decide +kernel
theorem dX12_thread_82 : decode cX12_thread 82 = .ok (.iload_n 1, 1) := by decide +kernel
theorem dX12_thread_83 : decode cX12_thread 83 = .ok (.iconst 1, 1) := by decide +kernel
theorem dX12_thread_84 : decode cX12_thread 84 = .ok (.invokevirtual 248, 3) := by decide +kernel
theorem dX12_thread_87 : decode cX12_thread 87 = .ok (.ireturn, 1) := by decide +kernel
theorem dX12_thread_88 : decode cX12_thread 88 = .ok (.aload_n 0, 1) := by decide +kernel
theorem dX12_thread_89 : decode cX12_thread 89 = .ok (.getfield 52, 3) := by decide +kernel
theorem dX12_thread_92 : decode cX12_thread 92 = .ok (.bipush 7, 2) := by decide +kernel
theorem dX12_thread_94 : decode cX12_thread 94 = .ok (.iload_n 1, 1) := by decide +kernel
theorem dX12_thread_95 : decode cX12_thread 95 = .ok (.iadd, 1) := by decide +kernel
theorem dX12_thread_96 : decode cX12_thread 96 = .ok (.iaload, 1) := by decide +kernel
theorem dX12_thread_97 : decode cX12_thread 97 = .ok (.ireturn, 1) := by decide +kernel
theorem dX12_thread_98 : decode cX12_thread 98 = .ok (.aload_n 0, 1) := by decide +kernel
theorem dX12_thread_99 : decode cX12_thread 99 = .ok (.iload_n 1, 1) := by decide +kernel
theorem dX12_thread_100 : decode cX12_thread 100 = .ok (.invokevirtual 267, 3) := by decide +kernel
theorem dX12_thread_103 : decode cX12_thread 103 = .ok (.ifCond .eq 7, 3) := by decide +kernel
theorem dX12_thread_106 : decode cX12_thread 106 = .ok (.iconst 1, 1) := by decide +kernel
theorem dX12_thread_107 : decode cX12_thread 107 = .ok (.goto 4, 3) := by decide +kernel
theorem dX12_thread_110 : decode cX12_thread 110 = .ok (.iconst 0, 1) := by decide +kernel
theorem dX12_thread_111 : decode cX12_thread 111 = .ok (.ireturn, 1) := by decide +kernel
theorem dX12_thread_112 : decode cX12_thread 112 = .ok (.aload_n 0, 1) := by decide +kernel
theorem dX12_thread_113 : decode cX12_thread 113 = .ok (.getfield 52, 3) := by decide +kernel
theorem dX12_thread_116 : decode cX12_thread 116 = .ok (.bipush 14, 2) := by decide +kernel
theorem dX12_thread_118 : decode cX12_thread 118 = .ok (.iload_n 1, 1) := by decide +kernel
theorem dX12_thread_119 : decode cX12_thread 119 = .ok (.iadd, 1) := by decide +kernel
theorem dX12_thread_120 : decode cX12_thread 120 = .ok (.iaload, 1) := by decide +kernel
theorem dX12_thread_121 : decode cX12_thread 121 = .ok (.ireturn, 1) := by decide +kernel
theorem dX12_thread_122 : decode cX12_thread 122 = .ok (.aload_n 0, 1) := by decide +kernel
theorem dX12_thread_123 : decode cX12_thread 123 = .ok (.getfield 52, 3) := by decide +kernel
theorem dX12_thread_126 : decode cX12_thread 126 = .ok (.bipush 21, 2) := by decide +kernel
theorem dX12_thread_128 : decode cX12_thread 128 = .ok (.iload_n 1, 1) := by decide +kernel
theorem dX12_thread_129 : decode cX12_thread 129 = .ok (.iadd, 1) := by decide +kernel
theorem dX12_thread_130 : decode cX12_thread 130 = .ok (.iaload, 1) := by decide +kernel
theorem dX12_thread_131 : decode cX12_thread 131 = .ok (.ireturn, 1) := by decide +kernel
theorem dX12_law_0 : decode cX12_law 0 = .ok (.iload_n 1, 1) := by decide +kernel
theorem dX12_law_1 : decode cX12_law 1 = .ok (.iconst (-1), 1) := by decide +kernel
theorem dX12_law_2 : decode cX12_law 2 = .ok (.aload_n 0, 1) := by decide +kernel
theorem dX12_law_3 : decode cX12_law 3 = .ok (.getfield 264, 3) := by decide +kernel
theorem dX12_law_6 : decode cX12_law 6 = .ok (.iconst 1, 1) := by decide +kernel
theorem dX12_law_7 : decode cX12_law 7 = .ok (.isub, 1) := by decide +kernel
theorem dX12_law_8 : decode cX12_law 8 = .ok (.invokestatic 208, 3) := by decide +kernel
theorem dX12_law_11 : decode cX12_law 11 = .ok (.ifCond .ne 5, 3) := by decide +kernel
theorem dX12_law_14 : decode cX12_law 14 = .ok (.iconst 0, 1) := by decide +kernel
theorem dX12_law_15 : decode cX12_law 15 = .ok (.ireturn, 1) := by decide +kernel
theorem dX12_law_16 : decode cX12_law 16 = .ok (.aload_n 0, 1) := by decide +kernel
theorem dX12_law_17 : decode cX12_law 17 = .ok (.iload_n 1, 1) := by decide +kernel
theorem dX12_law_18 : decode cX12_law 18 = .ok (.putfield 58, 3) := by decide +kernel
theorem dX12_law_21 : decode cX12_law 21 = .ok (.iconst 1, 1) := by decide +kernel
theorem dX12_law_22 : decode cX12_law 22 = .ok (.ireturn, 1) := by decide +kernel
theorem dX12_keep_0 : decode cX12_keep 0 = .ok (.aload_n 0, 1) := by decide +kernel
theorem dX12_keep_1 : decode cX12_keep 1 = .ok (.getfield 254, 3) := by decide +kernel
theorem dX12_keep_4 : decode cX12_keep 4 = .ok (.bipush 40, 2) := by decide +kernel
theorem dX12_keep_6 : decode cX12_keep 6 = .ok (.if_icmp .ne 46, 3) := by decide +kernel
theorem dX12_keep_9 : decode cX12_keep 9 = .ok (.sipush 214, 3) := by decide +kernel
theorem dX12_keep_12 : decode cX12_keep 12 = .ok (.istore_n 1, 1) := by decide +kernel
theorem dX12_keep_13 : decode cX12_keep 13 = .ok (.iload_n 1, 1) := by decide +kernel
theorem dX12_keep_14 : decode cX12_keep 14 = .ok (.sipush 8560, 3) := by decide +kernel
theorem dX12_keep_17 : decode cX12_keep 17 = .ok (.if_icmp .ge 25, 3) := by decide +kernel
theorem dX12_keep_20 : decode cX12_keep 20 = .ok (.aload_n 0, 1) := by decide +kernel
theorem dX12_keep_21 : decode cX12_keep 21 = .ok (.getfield 65, 3) := by decide +kernel
theorem dX12_keep_24 : decode cX12_keep 24 = .ok (.iload_n 1, 1) := by decide +kernel
theorem dX12_keep_25 : decode cX12_keep 25 = .ok (.sipush 214, 3) := by decide +kernel
theorem dX12_keep_28 : decode cX12_keep 28 = .ok (.isub, 1) := by decide +kernel
theorem dX12_keep_29 : decode cX12_keep 29 = .ok (.aload_n 0, 1) := by decide +kernel
theorem dX12_keep_30 : decode cX12_keep 30 = .ok (.getfield 65, 3) := by decide +kernel
theorem dX12_keep_33 : decode cX12_keep 33 = .ok (.iload_n 1, 1) := by decide +kernel
theorem dX12_keep_34 : decode cX12_keep 34 = .ok (.iaload, 1) := by decide +kernel
theorem dX12_keep_35 : decode cX12_keep 35 = .ok (.iastore, 1) := by decide +kernel
theorem dX12_keep_36 : decode cX12_keep 36 = .ok (.iinc 1 1, 3) := by decide +kernel
theorem dX12_keep_39 : decode cX12_keep 39 = .ok (.goto (-26), 3) := by decide +kernel
theorem dX12_keep_42 : decode cX12_keep 42 = .ok (.aload_n 0, 1) := by decide +kernel
theorem dX12_keep_43 : decode cX12_keep 43 = .ok (.dup, 1) := by decide +kernel
theorem dX12_keep_44 : decode cX12_keep 44 = .ok (.getfield 254, 3) := by decide +kernel
theorem dX12_keep_47 : decode cX12_keep 47 = .ok (.iconst 1, 1) := by decide +kernel
theorem dX12_keep_48 : decode cX12_keep 48 = .ok (.isub, 1) := by decide +kernel
theorem dX12_keep_49 : decode cX12_keep 49 = .ok (.putfield 254, 3) := by decide +kernel
theorem dX12_keep_52 : decode cX12_keep 52 = .ok (.iconst 0, 1) := by decide +kernel
theorem dX12_keep_53 : decode cX12_keep 53 = .ok (.istore_n 1, 1) := by decide +kernel
theorem dX12_keep_54 : decode cX12_keep 54 = .ok (.iload_n 1, 1) := by decide +kernel
theorem dX12_keep_55 : decode cX12_keep 55 = .ok (.sipush 214, 3) := by decide +kernel
theorem dX12_keep_58 : decode cX12_keep 58 = .ok (.if_icmp .ge 30, 3) := by decide +kernel
theorem dX12_keep_61 : decode cX12_keep 61 = .ok (.aload_n 0, 1) := by decide +kernel
theorem dX12_keep_62 : decode cX12_keep 62 = .ok (.getfield 65, 3) := by decide +kernel
theorem dX12_keep_65 : decode cX12_keep 65 = .ok (.sipush 214, 3) := by decide +kernel
theorem dX12_keep_68 : decode cX12_keep 68 = .ok (.aload_n 0, 1) := by decide +kernel
theorem dX12_keep_69 : decode cX12_keep 69 = .ok (.getfield 254, 3) := by decide +kernel
theorem dX12_keep_72 : decode cX12_keep 72 = .ok (.imul, 1) := by decide +kernel
theorem dX12_keep_73 : decode cX12_keep 73 = .ok (.iload_n 1, 1) := by decide +kernel
theorem dX12_keep_74 : decode cX12_keep 74 = .ok (.iadd, 1) := by decide +kernel
theorem dX12_keep_75 : decode cX12_keep 75 = .ok (.aload_n 0, 1) := by decide +kernel
theorem dX12_keep_76 : decode cX12_keep 76 = .ok (.getfield 52, 3) := by decide +kernel
theorem dX12_keep_79 : decode cX12_keep 79 = .ok (.iload_n 1, 1) := by decide +kernel
theorem dX12_keep_80 : decode cX12_keep 80 = .ok (.iaload, 1) := by decide +kernel
theorem dX12_keep_81 : decode cX12_keep 81 = .ok (.iastore, 1) := by decide +kernel
theorem dX12_keep_82 : decode cX12_keep 82 = .ok (.iinc 1 1, 3) := by decide +kernel
theorem dX12_keep_85 : decode cX12_keep 85 = .ok (.goto (-31), 3) := by decide +kernel
theorem dX12_keep_88 : decode cX12_keep 88 = .ok (.aload_n 0, 1) := by decide +kernel
theorem dX12_keep_89 : decode cX12_keep 89 = .ok (.dup, 1) := by decide +kernel
theorem dX12_keep_90 : decode cX12_keep 90 = .ok (.getfield 254, 3) := by decide +kernel
theorem dX12_keep_93 : decode cX12_keep 93 = .ok (.iconst 1, 1) := by decide +kernel
theorem dX12_keep_94 : decode cX12_keep 94 = .ok (.iadd, 1) := by decide +kernel
theorem dX12_keep_95 : decode cX12_keep 95 = .ok (.putfield 254, 3) := by decide +kernel
theorem dX12_keep_98 : decode cX12_keep 98 = .ok (.return_, 1) := by decide +kernel
theorem dX12_isRefused_0 : decode cX12_isRefused 0 = .ok (.iload_n 1, 1) := by decide +kernel
theorem dX12_isRefused_1 : decode cX12_isRefused 1 = .ok (.iconst (-1), 1) := by decide +kernel
theorem dX12_isRefused_2 : decode cX12_isRefused 2 = .ok (.if_icmp .eq 13, 3) := by decide +kernel
theorem dX12_isRefused_5 : decode cX12_isRefused 5 = .ok (.aload_n 0, 1) := by decide +kernel
theorem dX12_isRefused_6 : decode cX12_isRefused 6 = .ok (.getfield 55, 3) := by decide +kernel
theorem dX12_isRefused_9 : decode cX12_isRefused 9 = .ok (.iload_n 1, 1) := by decide +kernel
theorem dX12_isRefused_10 : decode cX12_isRefused 10 = .ok (.dup2, 1) := by decide +kernel
theorem dX12_isRefused_11 : decode cX12_isRefused 11 = .ok (.iaload, 1) := by decide +kernel
theorem dX12_isRefused_12 : decode cX12_isRefused 12 = .ok (.iconst 1, 1) := by decide +kernel
theorem dX12_isRefused_13 : decode cX12_isRefused 13 = .ok (.iadd, 1) := by decide +kernel
theorem dX12_isRefused_14 : decode cX12_isRefused 14 = .ok (.iastore, 1) := by decide +kernel
theorem dX12_isRefused_15 : decode cX12_isRefused 15 = .ok (.iload_n 1, 1) := by decide +kernel
theorem dX12_isRefused_16 : decode cX12_isRefused 16 = .ok (.iconst (-1), 1) := by decide +kernel
theorem dX12_isRefused_17 : decode cX12_isRefused 17 = .ok (.if_icmp .eq 7, 3) := by decide +kernel
theorem dX12_isRefused_20 : decode cX12_isRefused 20 = .ok (.iconst 1, 1) := by decide +kernel
theorem dX12_isRefused_21 : decode cX12_isRefused 21 = .ok (.goto 4, 3) := by decide +kernel
theorem dX12_isRefused_24 : decode cX12_isRefused 24 = .ok (.iconst 0, 1) := by decide +kernel
theorem dX12_isRefused_25 : decode cX12_isRefused 25 = .ok (.ireturn, 1) := by decide +kernel
theorem dX12_attempt_0 : decode cX12_attempt 0 = .ok (.aload_n 0, 1) := by decide +kernel
theorem dX12_attempt_1 : decode cX12_attempt 1 = .ok (.aload_n 0, 1) := by decide +kernel
theorem dX12_attempt_2 : decode cX12_attempt 2 = .ok (.iload_n 1, 1) := by decide +kernel
theorem dX12_attempt_3 : decode cX12_attempt 3 = .ok (.invokevirtual 306, 3) := by decide +kernel
theorem dX12_attempt_6 : decode cX12_attempt 6 = .ok (.ifCond .eq 11, 3) := by decide +kernel
theorem dX12_attempt_9 : decode cX12_attempt 9 = .ok (.aload_n 0, 1) := by decide +kernel
theorem dX12_attempt_10 : decode cX12_attempt 10 = .ok (.iload_n 2, 1) := by decide +kernel
theorem dX12_attempt_11 : decode cX12_attempt 11 = .ok (.invokevirtual 306, 3) := by decide +kernel
theorem dX12_attempt_14 : decode cX12_attempt 14 = .ok (.ifCond .ne 7, 3) := by decide +kernel
theorem dX12_attempt_17 : decode cX12_attempt 17 = .ok (.iconst 0, 1) := by decide +kernel
theorem dX12_attempt_18 : decode cX12_attempt 18 = .ok (.goto 46, 3) := by decide +kernel
theorem dX12_attempt_21 : decode cX12_attempt 21 = .ok (.iload_n 1, 1) := by decide +kernel
theorem dX12_attempt_22 : decode cX12_attempt 22 = .ok (.iload_n 2, 1) := by decide +kernel
theorem dX12_attempt_23 : decode cX12_attempt 23 = .ok (.if_icmp .ne 7, 3) := by decide +kernel
theorem dX12_attempt_26 : decode cX12_attempt 26 = .ok (.iconst 1, 1) := by decide +kernel
theorem dX12_attempt_27 : decode cX12_attempt 27 = .ok (.goto 37, 3) := by decide +kernel
theorem dX12_attempt_30 : decode cX12_attempt 30 = .ok (.aload_n 0, 1) := by decide +kernel
theorem dX12_attempt_31 : decode cX12_attempt 31 = .ok (.iload_n 1, 1) := by decide +kernel
theorem dX12_attempt_32 : decode cX12_attempt 32 = .ok (.iload_n 2, 1) := by decide +kernel
theorem dX12_attempt_33 : decode cX12_attempt 33 = .ok (.invokevirtual 309, 3) := by decide +kernel
theorem dX12_attempt_36 : decode cX12_attempt 36 = .ok (.ifCond .ne 7, 3) := by decide +kernel
theorem dX12_attempt_39 : decode cX12_attempt 39 = .ok (.iconst 2, 1) := by decide +kernel
theorem dX12_attempt_40 : decode cX12_attempt 40 = .ok (.goto 24, 3) := by decide +kernel
theorem dX12_attempt_43 : decode cX12_attempt 43 = .ok (.aload_n 0, 1) := by decide +kernel
theorem dX12_attempt_44 : decode cX12_attempt 44 = .ok (.getfield 52, 3) := by decide +kernel
theorem dX12_attempt_47 : decode cX12_attempt 47 = .ok (.bipush 29, 2) := by decide +kernel
theorem dX12_attempt_49 : decode cX12_attempt 49 = .ok (.iaload, 1) := by decide +kernel
theorem dX12_attempt_50 : decode cX12_attempt 50 = .ok (.aload_n 0, 1) := by decide +kernel
theorem dX12_attempt_51 : decode cX12_attempt 51 = .ok (.getfield 46, 3) := by decide +kernel
theorem dX12_attempt_54 : decode cX12_attempt 54 = .ok (.iconst 2, 1) := by decide +kernel
theorem dX12_attempt_55 : decode cX12_attempt 55 = .ok (.iaload, 1) := by decide +kernel
theorem dX12_attempt_56 : decode cX12_attempt 56 = .ok (.if_icmp .lt 7, 3) := by decide +kernel
theorem dX12_attempt_59 : decode cX12_attempt 59 = .ok (.iconst 3, 1) := by decide +kernel
theorem dX12_attempt_60 : decode cX12_attempt 60 = .ok (.goto 4, 3) := by decide +kernel
theorem dX12_attempt_63 : decode cX12_attempt 63 = .ok (.iconst (-1), 1) := by decide +kernel
theorem dX12_attempt_64 : decode cX12_attempt 64 = .ok (.invokevirtual 312, 3) := by decide +kernel
theorem dX12_attempt_67 : decode cX12_attempt 67 = .ok (.ifCond .eq 5, 3) := by decide +kernel
theorem dX12_attempt_70 : decode cX12_attempt 70 = .ok (.iconst (-1), 1) := by decide +kernel
theorem dX12_attempt_71 : decode cX12_attempt 71 = .ok (.ireturn, 1) := by decide +kernel
theorem dX12_attempt_72 : decode cX12_attempt 72 = .ok (.aload_n 0, 1) := by decide +kernel
theorem dX12_attempt_73 : decode cX12_attempt 73 = .ok (.invokevirtual 315, 3) := by decide +kernel
theorem dX12_attempt_76 : decode cX12_attempt 76 = .ok (.aload_n 0, 1) := by decide +kernel
theorem dX12_attempt_77 : decode cX12_attempt 77 = .ok (.iload_n 1, 1) := by decide +kernel
theorem dX12_attempt_78 : decode cX12_attempt 78 = .ok (.iload_n 2, 1) := by decide +kernel
theorem dX12_attempt_79 : decode cX12_attempt 79 = .ok (.invokevirtual 318, 3) := by decide +kernel
theorem dX12_attempt_82 : decode cX12_attempt 82 = .ok (.ireturn, 1) := by decide +kernel
theorem dX12_pull_0 : decode cX12_pull 0 = .ok (.aload_n 0, 1) := by decide +kernel
theorem dX12_pull_1 : decode cX12_pull 1 = .ok (.aload_n 0, 1) := by decide +kernel
theorem dX12_pull_2 : decode cX12_pull 2 = .ok (.iload_n 1, 1) := by decide +kernel
theorem dX12_pull_3 : decode cX12_pull 3 = .ok (.invokevirtual 306, 3) := by decide +kernel
theorem dX12_pull_6 : decode cX12_pull 6 = .ok (.ifCond .ne 7, 3) := by decide +kernel
theorem dX12_pull_9 : decode cX12_pull 9 = .ok (.iconst 0, 1) := by decide +kernel
theorem dX12_pull_10 : decode cX12_pull 10 = .ok (.goto 28, 3) := by decide +kernel
theorem dX12_pull_13 : decode cX12_pull 13 = .ok (.aload_n 0, 1) := by decide +kernel
theorem dX12_pull_14 : decode cX12_pull 14 = .ok (.iload_n 1, 1) := by decide +kernel
theorem dX12_pull_15 : decode cX12_pull 15 = .ok (.invokevirtual 267, 3) := by decide +kernel
theorem dX12_pull_18 : decode cX12_pull 18 = .ok (.ifCond .eq 7, 3) := by decide +kernel
theorem dX12_pull_21 : decode cX12_pull 21 = .ok (.iconst 2, 1) := by decide +kernel
theorem dX12_pull_22 : decode cX12_pull 22 = .ok (.goto 16, 3) := by decide +kernel
theorem dX12_pull_25 : decode cX12_pull 25 = .ok (.aload_n 0, 1) := by decide +kernel
theorem dX12_pull_26 : decode cX12_pull 26 = .ok (.iload_n 1, 1) := by decide +kernel
theorem dX12_pull_27 : decode cX12_pull 27 = .ok (.invokevirtual 270, 3) := by decide +kernel
theorem dX12_pull_30 : decode cX12_pull 30 = .ok (.ifCond .ne 7, 3) := by decide +kernel
theorem dX12_pull_33 : decode cX12_pull 33 = .ok (.iconst 3, 1) := by decide +kernel
theorem dX12_pull_34 : decode cX12_pull 34 = .ok (.goto 4, 3) := by decide +kernel
theorem dX12_pull_37 : decode cX12_pull 37 = .ok (.iconst (-1), 1) := by decide +kernel
theorem dX12_pull_38 : decode cX12_pull 38 = .ok (.invokevirtual 312, 3) := by decide +kernel
theorem dX12_pull_41 : decode cX12_pull 41 = .ok (.ifCond .eq 5, 3) := by decide +kernel
theorem dX12_pull_44 : decode cX12_pull 44 = .ok (.iconst (-1), 1) := by decide +kernel
theorem dX12_pull_45 : decode cX12_pull 45 = .ok (.ireturn, 1) := by decide +kernel
theorem dX12_pull_46 : decode cX12_pull 46 = .ok (.aload_n 0, 1) := by decide +kernel
theorem dX12_pull_47 : decode cX12_pull 47 = .ok (.invokevirtual 315, 3) := by decide +kernel
theorem dX12_pull_50 : decode cX12_pull 50 = .ok (.aload_n 0, 1) := by decide +kernel
theorem dX12_pull_51 : decode cX12_pull 51 = .ok (.iload_n 1, 1) := by decide +kernel
theorem dX12_pull_52 : decode cX12_pull 52 = .ok (.invokevirtual 321, 3) := by decide +kernel
theorem dX12_pull_55 : decode cX12_pull 55 = .ok (.ireturn, 1) := by decide +kernel
theorem dX12_sell_0 : decode cX12_sell 0 = .ok (.aload_n 0, 1) := by decide +kernel
theorem dX12_sell_1 : decode cX12_sell 1 = .ok (.aload_n 0, 1) := by decide +kernel
theorem dX12_sell_2 : decode cX12_sell 2 = .ok (.iload_n 1, 1) := by decide +kernel
theorem dX12_sell_3 : decode cX12_sell 3 = .ok (.invokevirtual 306, 3) := by decide +kernel
theorem dX12_sell_6 : decode cX12_sell 6 = .ok (.ifCond .ne 7, 3) := by decide +kernel
theorem dX12_sell_9 : decode cX12_sell 9 = .ok (.iconst 0, 1) := by decide +kernel
theorem dX12_sell_10 : decode cX12_sell 10 = .ok (.goto 50, 3) := by decide +kernel
theorem dX12_sell_13 : decode cX12_sell 13 = .ok (.aload_n 0, 1) := by decide +kernel
theorem dX12_sell_14 : decode cX12_sell 14 = .ok (.getfield 52, 3) := by decide +kernel
theorem dX12_sell_17 : decode cX12_sell 17 = .ok (.bipush 21, 2) := by decide +kernel
theorem dX12_sell_19 : decode cX12_sell 19 = .ok (.iload_n 1, 1) := by decide +kernel
theorem dX12_sell_20 : decode cX12_sell 20 = .ok (.iadd, 1) := by decide +kernel
theorem dX12_sell_21 : decode cX12_sell 21 = .ok (.iaload, 1) := by decide +kernel
theorem dX12_sell_22 : decode cX12_sell 22 = .ok (.iconst (-1), 1) := by decide +kernel
theorem dX12_sell_23 : decode cX12_sell 23 = .ok (.if_icmp .eq 7, 3) := by decide +kernel
theorem dX12_sell_26 : decode cX12_sell 26 = .ok (.iconst 1, 1) := by decide +kernel
theorem dX12_sell_27 : decode cX12_sell 27 = .ok (.goto 33, 3) := by decide +kernel
theorem dX12_sell_30 : decode cX12_sell 30 = .ok (.aload_n 0, 1) := by decide +kernel
theorem dX12_sell_31 : decode cX12_sell 31 = .ok (.iload_n 1, 1) := by decide +kernel
theorem dX12_sell_32 : decode cX12_sell 32 = .ok (.invokevirtual 267, 3) := by decide +kernel
theorem dX12_sell_35 : decode cX12_sell 35 = .ok (.ifCond .eq 7, 3) := by decide +kernel
theorem dX12_sell_38 : decode cX12_sell 38 = .ok (.iconst 2, 1) := by decide +kernel
theorem dX12_sell_39 : decode cX12_sell 39 = .ok (.goto 21, 3) := by decide +kernel
theorem dX12_sell_42 : decode cX12_sell 42 = .ok (.aload_n 0, 1) := by decide +kernel
theorem dX12_sell_43 : decode cX12_sell 43 = .ok (.getfield 52, 3) := by decide +kernel
theorem dX12_sell_46 : decode cX12_sell 46 = .ok (.bipush 14, 2) := by decide +kernel
theorem dX12_sell_48 : decode cX12_sell 48 = .ok (.iload_n 1, 1) := by decide +kernel
theorem dX12_sell_49 : decode cX12_sell 49 = .ok (.iadd, 1) := by decide +kernel
theorem dX12_sell_50 : decode cX12_sell 50 = .ok (.iaload, 1) := by decide +kernel
theorem dX12_sell_51 : decode cX12_sell 51 = .ok (.iconst (-1), 1) := by decide +kernel
theorem dX12_sell_52 : decode cX12_sell 52 = .ok (.if_icmp .ne 7, 3) := by decide +kernel
theorem dX12_sell_55 : decode cX12_sell 55 = .ok (.iconst 3, 1) := by decide +kernel
theorem dX12_sell_56 : decode cX12_sell 56 = .ok (.goto 4, 3) := by decide +kernel
theorem dX12_sell_59 : decode cX12_sell 59 = .ok (.iconst (-1), 1) := by decide +kernel
theorem dX12_sell_60 : decode cX12_sell 60 = .ok (.invokevirtual 312, 3) := by decide +kernel
theorem dX12_sell_63 : decode cX12_sell 63 = .ok (.ifCond .eq 5, 3) := by decide +kernel
theorem dX12_sell_66 : decode cX12_sell 66 = .ok (.iconst (-1), 1) := by decide +kernel
theorem dX12_sell_67 : decode cX12_sell 67 = .ok (.ireturn, 1) := by decide +kernel
theorem dX12_sell_68 : decode cX12_sell 68 = .ok (.aload_n 0, 1) := by decide +kernel
theorem dX12_sell_69 : decode cX12_sell 69 = .ok (.invokevirtual 315, 3) := by decide +kernel
theorem dX12_sell_72 : decode cX12_sell 72 = .ok (.aload_n 0, 1) := by decide +kernel
theorem dX12_sell_73 : decode cX12_sell 73 = .ok (.getfield 52, 3) := by decide +kernel
theorem dX12_sell_76 : decode cX12_sell 76 = .ok (.bipush 31, 2) := by decide +kernel
theorem dX12_sell_78 : decode cX12_sell 78 = .ok (.sipush 9999, 3) := by decide +kernel
theorem dX12_sell_81 : decode cX12_sell 81 = .ok (.aload_n 0, 1) := by decide +kernel
theorem dX12_sell_82 : decode cX12_sell 82 = .ok (.getfield 52, 3) := by decide +kernel
theorem dX12_sell_85 : decode cX12_sell 85 = .ok (.bipush 31, 2) := by decide +kernel
theorem dX12_sell_87 : decode cX12_sell 87 = .ok (.iaload, 1) := by decide +kernel
theorem dX12_sell_88 : decode cX12_sell 88 = .ok (.aload_n 0, 1) := by decide +kernel
theorem dX12_sell_89 : decode cX12_sell 89 = .ok (.iload_n 1, 1) := by decide +kernel
theorem dX12_sell_90 : decode cX12_sell 90 = .ok (.invokevirtual 324, 3) := by decide +kernel
theorem dX12_sell_93 : decode cX12_sell 93 = .ok (.iadd, 1) := by decide +kernel
theorem dX12_sell_94 : decode cX12_sell 94 = .ok (.invokestatic 327, 3) := by decide +kernel
theorem dX12_sell_97 : decode cX12_sell 97 = .ok (.iastore, 1) := by decide +kernel
theorem dX12_sell_98 : decode cX12_sell 98 = .ok (.iload_n 1, 1) := by decide +kernel
theorem dX12_sell_99 : decode cX12_sell 99 = .ok (.istore_n 2, 1) := by decide +kernel
theorem dX12_sell_100 : decode cX12_sell 100 = .ok (.iload_n 2, 1) := by decide +kernel
theorem dX12_sell_101 : decode cX12_sell 101 = .ok (.iconst (-1), 1) := by decide +kernel
theorem dX12_sell_102 : decode cX12_sell 102 = .ok (.if_icmp .eq 29, 3) := by decide +kernel
theorem dX12_sell_105 : decode cX12_sell 105 = .ok (.aload_n 0, 1) := by decide +kernel
theorem dX12_sell_106 : decode cX12_sell 106 = .ok (.getfield 52, 3) := by decide +kernel
theorem dX12_sell_109 : decode cX12_sell 109 = .ok (.bipush 28, 2) := by decide +kernel
theorem dX12_sell_111 : decode cX12_sell 111 = .ok (.dup2, 1) := by decide +kernel
theorem dX12_sell_112 : decode cX12_sell 112 = .ok (.iaload, 1) := by decide +kernel
theorem dX12_sell_113 : decode cX12_sell 113 = .ok (.iconst 1, 1) := by decide +kernel
theorem dX12_sell_114 : decode cX12_sell 114 = .ok (.iload_n 2, 1) := by decide +kernel
theorem dX12_sell_115 : decode cX12_sell 115 = .ok (.ishl, 1) := by decide +kernel
theorem dX12_sell_116 : decode cX12_sell 116 = .ok (.ior, 1) := by decide +kernel
theorem dX12_sell_117 : decode cX12_sell 117 = .ok (.iastore, 1) := by decide +kernel
theorem dX12_sell_118 : decode cX12_sell 118 = .ok (.aload_n 0, 1) := by decide +kernel
theorem dX12_sell_119 : decode cX12_sell 119 = .ok (.getfield 52, 3) := by decide +kernel
theorem dX12_sell_122 : decode cX12_sell 122 = .ok (.bipush 14, 2) := by decide +kernel
theorem dX12_sell_124 : decode cX12_sell 124 = .ok (.iload_n 2, 1) := by decide +kernel
theorem dX12_sell_125 : decode cX12_sell 125 = .ok (.iadd, 1) := by decide +kernel
theorem dX12_sell_126 : decode cX12_sell 126 = .ok (.iaload, 1) := by decide +kernel
theorem dX12_sell_127 : decode cX12_sell 127 = .ok (.istore_n 2, 1) := by decide +kernel
theorem dX12_sell_128 : decode cX12_sell 128 = .ok (.goto (-28), 3) := by decide +kernel
theorem dX12_sell_131 : decode cX12_sell 131 = .ok (.aload_n 0, 1) := by decide +kernel
theorem dX12_sell_132 : decode cX12_sell 132 = .ok (.getfield 52, 3) := by decide +kernel
theorem dX12_sell_135 : decode cX12_sell 135 = .ok (.bipush 31, 2) := by decide +kernel
theorem dX12_sell_137 : decode cX12_sell 137 = .ok (.iaload, 1) := by decide +kernel
theorem dX12_sell_138 : decode cX12_sell 138 = .ok (.ireturn, 1) := by decide +kernel
theorem dX12_dye_0 : decode cX12_dye 0 = .ok (.aload_n 0, 1) := by decide +kernel
theorem dX12_dye_1 : decode cX12_dye 1 = .ok (.aload_n 0, 1) := by decide +kernel
theorem dX12_dye_2 : decode cX12_dye 2 = .ok (.iload_n 1, 1) := by decide +kernel
theorem dX12_dye_3 : decode cX12_dye 3 = .ok (.invokevirtual 306, 3) := by decide +kernel
theorem dX12_dye_6 : decode cX12_dye 6 = .ok (.ifCond .ne 7, 3) := by decide +kernel
theorem dX12_dye_9 : decode cX12_dye 9 = .ok (.iconst 0, 1) := by decide +kernel
theorem dX12_dye_10 : decode cX12_dye 10 = .ok (.goto 57, 3) := by decide +kernel
theorem dX12_dye_13 : decode cX12_dye 13 = .ok (.iload_n 2, 1) := by decide +kernel
theorem dX12_dye_14 : decode cX12_dye 14 = .ok (.iconst 0, 1) := by decide +kernel
theorem dX12_dye_15 : decode cX12_dye 15 = .ok (.bipush 20, 2) := by decide +kernel
theorem dX12_dye_17 : decode cX12_dye 17 = .ok (.invokestatic 208, 3) := by decide +kernel
theorem dX12_dye_20 : decode cX12_dye 20 = .ok (.ifCond .ne 7, 3) := by decide +kernel
theorem dX12_dye_23 : decode cX12_dye 23 = .ok (.iconst 1, 1) := by decide +kernel
theorem dX12_dye_24 : decode cX12_dye 24 = .ok (.goto 43, 3) := by decide +kernel
theorem dX12_dye_27 : decode cX12_dye 27 = .ok (.aload_n 0, 1) := by decide +kernel
theorem dX12_dye_28 : decode cX12_dye 28 = .ok (.iload_n 1, 1) := by decide +kernel
theorem dX12_dye_29 : decode cX12_dye 29 = .ok (.invokevirtual 329, 3) := by decide +kernel
theorem dX12_dye_32 : decode cX12_dye 32 = .ok (.ifCond .eq 15, 3) := by decide +kernel
theorem dX12_dye_35 : decode cX12_dye 35 = .ok (.aload_n 0, 1) := by decide +kernel
theorem dX12_dye_36 : decode cX12_dye 36 = .ok (.getfield 52, 3) := by decide +kernel
theorem dX12_dye_39 : decode cX12_dye 39 = .ok (.iconst 0, 1) := by decide +kernel
theorem dX12_dye_40 : decode cX12_dye 40 = .ok (.iload_n 1, 1) := by decide +kernel
theorem dX12_dye_41 : decode cX12_dye 41 = .ok (.iadd, 1) := by decide +kernel
theorem dX12_dye_42 : decode cX12_dye 42 = .ok (.iaload, 1) := by decide +kernel
theorem dX12_dye_43 : decode cX12_dye 43 = .ok (.iload_n 2, 1) := by decide +kernel
theorem dX12_dye_44 : decode cX12_dye 44 = .ok (.if_icmp .ne 7, 3) := by decide +kernel
theorem dX12_dye_47 : decode cX12_dye 47 = .ok (.iconst 2, 1) := by decide +kernel
theorem dX12_dye_48 : decode cX12_dye 48 = .ok (.goto 19, 3) := by decide +kernel
theorem dX12_dye_51 : decode cX12_dye 51 = .ok (.aload_n 0, 1) := by decide +kernel
theorem dX12_dye_52 : decode cX12_dye 52 = .ok (.getfield 52, 3) := by decide +kernel
theorem dX12_dye_55 : decode cX12_dye 55 = .ok (.bipush 31, 2) := by decide +kernel
theorem dX12_dye_57 : decode cX12_dye 57 = .ok (.iaload, 1) := by decide +kernel
theorem dX12_dye_58 : decode cX12_dye 58 = .ok (.iconst 2, 1) := by decide +kernel
theorem dX12_dye_59 : decode cX12_dye 59 = .ok (.if_icmp .ge 7, 3) := by decide +kernel
theorem dX12_dye_62 : decode cX12_dye 62 = .ok (.iconst 3, 1) := by decide +kernel
theorem dX12_dye_63 : decode cX12_dye 63 = .ok (.goto 4, 3) := by decide +kernel
theorem dX12_dye_66 : decode cX12_dye 66 = .ok (.iconst (-1), 1) := by decide +kernel
theorem dX12_dye_67 : decode cX12_dye 67 = .ok (.invokevirtual 312, 3) := by decide +kernel
theorem dX12_dye_70 : decode cX12_dye 70 = .ok (.ifCond .eq 5, 3) := by decide +kernel
theorem dX12_dye_73 : decode cX12_dye 73 = .ok (.iconst (-1), 1) := by decide +kernel
theorem dX12_dye_74 : decode cX12_dye 74 = .ok (.ireturn, 1) := by decide +kernel
theorem dX12_dye_75 : decode cX12_dye 75 = .ok (.aload_n 0, 1) := by decide +kernel
theorem dX12_dye_76 : decode cX12_dye 76 = .ok (.invokevirtual 315, 3) := by decide +kernel
theorem dX12_dye_79 : decode cX12_dye 79 = .ok (.aload_n 0, 1) := by decide +kernel
theorem dX12_dye_80 : decode cX12_dye 80 = .ok (.getfield 52, 3) := by decide +kernel
theorem dX12_dye_83 : decode cX12_dye 83 = .ok (.iconst 0, 1) := by decide +kernel
theorem dX12_dye_84 : decode cX12_dye 84 = .ok (.iload_n 1, 1) := by decide +kernel
theorem dX12_dye_85 : decode cX12_dye 85 = .ok (.iadd, 1) := by decide +kernel
theorem dX12_dye_86 : decode cX12_dye 86 = .ok (.iaload, 1) := by decide +kernel
theorem dX12_dye_87 : decode cX12_dye 87 = .ok (.istore_n 3, 1) := by decide +kernel
theorem dX12_dye_88 : decode cX12_dye 88 = .ok (.aload_n 0, 1) := by decide +kernel
theorem dX12_dye_89 : decode cX12_dye 89 = .ok (.getfield 52, 3) := by decide +kernel
theorem dX12_dye_92 : decode cX12_dye 92 = .ok (.iconst 0, 1) := by decide +kernel
theorem dX12_dye_93 : decode cX12_dye 93 = .ok (.iload_n 1, 1) := by decide +kernel
theorem dX12_dye_94 : decode cX12_dye 94 = .ok (.iadd, 1) := by decide +kernel
theorem dX12_dye_95 : decode cX12_dye 95 = .ok (.iload_n 2, 1) := by decide +kernel
theorem dX12_dye_96 : decode cX12_dye 96 = .ok (.iastore, 1) := by decide +kernel
theorem dX12_dye_97 : decode cX12_dye 97 = .ok (.aload_n 0, 1) := by decide +kernel
theorem dX12_dye_98 : decode cX12_dye 98 = .ok (.getfield 52, 3) := by decide +kernel
theorem dX12_dye_101 : decode cX12_dye 101 = .ok (.bipush 31, 2) := by decide +kernel
theorem dX12_dye_103 : decode cX12_dye 103 = .ok (.dup2, 1) := by decide +kernel
theorem dX12_dye_104 : decode cX12_dye 104 = .ok (.iaload, 1) := by decide +kernel
theorem dX12_dye_105 : decode cX12_dye 105 = .ok (.iconst 2, 1) := by decide +kernel
theorem dX12_dye_106 : decode cX12_dye 106 = .ok (.isub, 1) := by decide +kernel
theorem dX12_dye_107 : decode cX12_dye 107 = .ok (.iastore, 1) := by decide +kernel
theorem dX12_dye_108 : decode cX12_dye 108 = .ok (.iload_n 3, 1) := by decide +kernel
theorem dX12_dye_109 : decode cX12_dye 109 = .ok (.ireturn, 1) := by decide +kernel
theorem dX12_give_0 : decode cX12_give 0 = .ok (.aload_n 0, 1) := by decide +kernel
theorem dX12_give_1 : decode cX12_give 1 = .ok (.aload_n 0, 1) := by decide +kernel
theorem dX12_give_2 : decode cX12_give 2 = .ok (.getfield 245, 3) := by decide +kernel
theorem dX12_give_5 : decode cX12_give 5 = .ok (.ifCond .ne 7, 3) := by decide +kernel
theorem dX12_give_8 : decode cX12_give 8 = .ok (.iconst 0, 1) := by decide +kernel
theorem dX12_give_9 : decode cX12_give 9 = .ok (.goto 33, 3) := by decide +kernel
theorem dX12_give_12 : decode cX12_give 12 = .ok (.iload_n 1, 1) := by decide +kernel
theorem dX12_give_13 : decode cX12_give 13 = .ok (.iconst 1, 1) := by decide +kernel
theorem dX12_give_14 : decode cX12_give 14 = .ok (.bipush 50, 2) := by decide +kernel
theorem dX12_give_16 : decode cX12_give 16 = .ok (.invokestatic 208, 3) := by decide +kernel
theorem dX12_give_19 : decode cX12_give 19 = .ok (.ifCond .eq 18, 3) := by decide +kernel
theorem dX12_give_22 : decode cX12_give 22 = .ok (.aload_n 0, 1) := by decide +kernel
theorem dX12_give_23 : decode cX12_give 23 = .ok (.getfield 52, 3) := by decide +kernel
theorem dX12_give_26 : decode cX12_give 26 = .ok (.bipush 31, 2) := by decide +kernel
theorem dX12_give_28 : decode cX12_give 28 = .ok (.iaload, 1) := by decide +kernel
theorem dX12_give_29 : decode cX12_give 29 = .ok (.iload_n 1, 1) := by decide +kernel
theorem dX12_give_30 : decode cX12_give 30 = .ok (.iadd, 1) := by decide +kernel
theorem dX12_give_31 : decode cX12_give 31 = .ok (.sipush 9999, 3) := by decide +kernel
theorem dX12_give_34 : decode cX12_give 34 = .ok (.if_icmp .le 7, 3) := by decide +kernel
theorem dX12_give_37 : decode cX12_give 37 = .ok (.iconst 1, 1) := by decide +kernel
theorem dX12_give_38 : decode cX12_give 38 = .ok (.goto 4, 3) := by decide +kernel
theorem dX12_give_41 : decode cX12_give 41 = .ok (.iconst (-1), 1) := by decide +kernel
theorem dX12_give_42 : decode cX12_give 42 = .ok (.invokevirtual 312, 3) := by decide +kernel
theorem dX12_give_45 : decode cX12_give 45 = .ok (.ifCond .eq 5, 3) := by decide +kernel
theorem dX12_give_48 : decode cX12_give 48 = .ok (.iconst (-1), 1) := by decide +kernel
theorem dX12_give_49 : decode cX12_give 49 = .ok (.ireturn, 1) := by decide +kernel
theorem dX12_give_50 : decode cX12_give 50 = .ok (.aload_n 0, 1) := by decide +kernel
theorem dX12_give_51 : decode cX12_give 51 = .ok (.invokevirtual 315, 3) := by decide +kernel
theorem dX12_give_54 : decode cX12_give 54 = .ok (.aload_n 0, 1) := by decide +kernel
theorem dX12_give_55 : decode cX12_give 55 = .ok (.getfield 52, 3) := by decide +kernel
theorem dX12_give_58 : decode cX12_give 58 = .ok (.bipush 31, 2) := by decide +kernel
theorem dX12_give_60 : decode cX12_give 60 = .ok (.dup2, 1) := by decide +kernel
theorem dX12_give_61 : decode cX12_give 61 = .ok (.iaload, 1) := by decide +kernel
theorem dX12_give_62 : decode cX12_give 62 = .ok (.iload_n 1, 1) := by decide +kernel
theorem dX12_give_63 : decode cX12_give 63 = .ok (.iadd, 1) := by decide +kernel
theorem dX12_give_64 : decode cX12_give 64 = .ok (.iastore, 1) := by decide +kernel
theorem dX12_give_65 : decode cX12_give 65 = .ok (.aload_n 0, 1) := by decide +kernel
theorem dX12_give_66 : decode cX12_give 66 = .ok (.getfield 52, 3) := by decide +kernel
theorem dX12_give_69 : decode cX12_give 69 = .ok (.bipush 31, 2) := by decide +kernel
theorem dX12_give_71 : decode cX12_give 71 = .ok (.iaload, 1) := by decide +kernel
theorem dX12_give_72 : decode cX12_give 72 = .ok (.ireturn, 1) := by decide +kernel
theorem dX12_passDay_0 : decode cX12_passDay 0 = .ok (.aload_n 0, 1) := by decide +kernel
theorem dX12_passDay_1 : decode cX12_passDay 1 = .ok (.getfield 52, 3) := by decide +kernel
theorem dX12_passDay_4 : decode cX12_passDay 4 = .ok (.bipush 33, 2) := by decide +kernel
theorem dX12_passDay_6 : decode cX12_passDay 6 = .ok (.iaload, 1) := by decide +kernel
theorem dX12_passDay_7 : decode cX12_passDay 7 = .ok (.bipush 60, 2) := by decide +kernel
theorem dX12_passDay_9 : decode cX12_passDay 9 = .ok (.if_icmp .ne 49, 3) := by decide +kernel
theorem dX12_passDay_12 : decode cX12_passDay 12 = .ok (.iconst 3, 1) := by decide +kernel
theorem dX12_passDay_13 : decode cX12_passDay 13 = .ok (.istore_n 1, 1) := by decide +kernel
theorem dX12_passDay_14 : decode cX12_passDay 14 = .ok (.iload_n 1, 1) := by decide +kernel
theorem dX12_passDay_15 : decode cX12_passDay 15 = .ok (.sipush 180, 3) := by decide +kernel
theorem dX12_passDay_18 : decode cX12_passDay 18 = .ok (.if_icmp .ge 29, 3) := by decide +kernel
theorem dX12_passDay_21 : decode cX12_passDay 21 = .ok (.aload_n 0, 1) := by decide +kernel
theorem dX12_passDay_22 : decode cX12_passDay 22 = .ok (.getfield 52, 3) := by decide +kernel
theorem dX12_passDay_25 : decode cX12_passDay 25 = .ok (.bipush 34, 2) := by decide +kernel
theorem dX12_passDay_27 : decode cX12_passDay 27 = .ok (.iload_n 1, 1) := by decide +kernel
theorem dX12_passDay_28 : decode cX12_passDay 28 = .ok (.iadd, 1) := by decide +kernel
theorem dX12_passDay_29 : decode cX12_passDay 29 = .ok (.iconst 3, 1) := by decide +kernel
theorem dX12_passDay_30 : decode cX12_passDay 30 = .ok (.isub, 1) := by decide +kernel
theorem dX12_passDay_31 : decode cX12_passDay 31 = .ok (.aload_n 0, 1) := by decide +kernel
theorem dX12_passDay_32 : decode cX12_passDay 32 = .ok (.getfield 52, 3) := by decide +kernel
theorem dX12_passDay_35 : decode cX12_passDay 35 = .ok (.bipush 34, 2) := by decide +kernel
theorem dX12_passDay_37 : decode cX12_passDay 37 = .ok (.iload_n 1, 1) := by decide +kernel
theorem dX12_passDay_38 : decode cX12_passDay 38 = .ok (.iadd, 1) := by decide +kernel
theorem dX12_passDay_39 : decode cX12_passDay 39 = .ok (.iaload, 1) := by decide +kernel
theorem dX12_passDay_40 : decode cX12_passDay 40 = .ok (.iastore, 1) := by decide +kernel
theorem dX12_passDay_41 : decode cX12_passDay 41 = .ok (.iinc 1 1, 3) := by decide +kernel
theorem dX12_passDay_44 : decode cX12_passDay 44 = .ok (.goto (-30), 3) := by decide +kernel
theorem dX12_passDay_47 : decode cX12_passDay 47 = .ok (.aload_n 0, 1) := by decide +kernel
theorem dX12_passDay_48 : decode cX12_passDay 48 = .ok (.getfield 52, 3) := by decide +kernel
theorem dX12_passDay_51 : decode cX12_passDay 51 = .ok (.bipush 33, 2) := by decide +kernel
theorem dX12_passDay_53 : decode cX12_passDay 53 = .ok (.dup2, 1) := by decide +kernel
theorem dX12_passDay_54 : decode cX12_passDay 54 = .ok (.iaload, 1) := by decide +kernel
theorem dX12_passDay_55 : decode cX12_passDay 55 = .ok (.iconst 1, 1) := by decide +kernel
theorem dX12_passDay_56 : decode cX12_passDay 56 = .ok (.isub, 1) := by decide +kernel
theorem dX12_passDay_57 : decode cX12_passDay 57 = .ok (.iastore, 1) := by decide +kernel
theorem dX12_passDay_58 : decode cX12_passDay 58 = .ok (.bipush 34, 2) := by decide +kernel
theorem dX12_passDay_60 : decode cX12_passDay 60 = .ok (.iconst 3, 1) := by decide +kernel
theorem dX12_passDay_61 : decode cX12_passDay 61 = .ok (.aload_n 0, 1) := by decide +kernel
theorem dX12_passDay_62 : decode cX12_passDay 62 = .ok (.getfield 52, 3) := by decide +kernel
theorem dX12_passDay_65 : decode cX12_passDay 65 = .ok (.bipush 33, 2) := by decide +kernel
theorem dX12_passDay_67 : decode cX12_passDay 67 = .ok (.iaload, 1) := by decide +kernel
theorem dX12_passDay_68 : decode cX12_passDay 68 = .ok (.imul, 1) := by decide +kernel
theorem dX12_passDay_69 : decode cX12_passDay 69 = .ok (.iadd, 1) := by decide +kernel
theorem dX12_passDay_70 : decode cX12_passDay 70 = .ok (.istore_n 1, 1) := by decide +kernel
theorem dX12_passDay_71 : decode cX12_passDay 71 = .ok (.aload_n 0, 1) := by decide +kernel
theorem dX12_passDay_72 : decode cX12_passDay 72 = .ok (.getfield 52, 3) := by decide +kernel
theorem dX12_passDay_75 : decode cX12_passDay 75 = .ok (.iload_n 1, 1) := by decide +kernel
theorem dX12_passDay_76 : decode cX12_passDay 76 = .ok (.aload_n 0, 1) := by decide +kernel
theorem dX12_passDay_77 : decode cX12_passDay 77 = .ok (.getfield 52, 3) := by decide +kernel
theorem dX12_passDay_80 : decode cX12_passDay 80 = .ok (.bipush 29, 2) := by decide +kernel
theorem dX12_passDay_82 : decode cX12_passDay 82 = .ok (.iaload, 1) := by decide +kernel
theorem dX12_passDay_83 : decode cX12_passDay 83 = .ok (.iastore, 1) := by decide +kernel
theorem dX12_passDay_84 : decode cX12_passDay 84 = .ok (.aload_n 0, 1) := by decide +kernel
theorem dX12_passDay_85 : decode cX12_passDay 85 = .ok (.getfield 52, 3) := by decide +kernel
theorem dX12_passDay_88 : decode cX12_passDay 88 = .ok (.iload_n 1, 1) := by decide +kernel
theorem dX12_passDay_89 : decode cX12_passDay 89 = .ok (.iconst 1, 1) := by decide +kernel
theorem dX12_passDay_90 : decode cX12_passDay 90 = .ok (.iadd, 1) := by decide +kernel
theorem dX12_passDay_91 : decode cX12_passDay 91 = .ok (.aload_n 0, 1) := by decide +kernel
theorem dX12_passDay_92 : decode cX12_passDay 92 = .ok (.getfield 52, 3) := by decide +kernel
theorem dX12_passDay_95 : decode cX12_passDay 95 = .ok (.bipush 30, 2) := by decide +kernel
theorem dX12_passDay_97 : decode cX12_passDay 97 = .ok (.iaload, 1) := by decide +kernel
theorem dX12_passDay_98 : decode cX12_passDay 98 = .ok (.iastore, 1) := by decide +kernel
theorem dX12_passDay_99 : decode cX12_passDay 99 = .ok (.aload_n 0, 1) := by decide +kernel
theorem dX12_passDay_100 : decode cX12_passDay 100 = .ok (.getfield 52, 3) := by decide +kernel
theorem dX12_passDay_103 : decode cX12_passDay 103 = .ok (.iload_n 1, 1) := by decide +kernel
theorem dX12_passDay_104 : decode cX12_passDay 104 = .ok (.iconst 2, 1) := by decide +kernel
theorem dX12_passDay_105 : decode cX12_passDay 105 = .ok (.iadd, 1) := by decide +kernel
theorem dX12_passDay_106 : decode cX12_passDay 106 = .ok (.aload_n 0, 1) := by decide +kernel
theorem dX12_passDay_107 : decode cX12_passDay 107 = .ok (.getfield 52, 3) := by decide +kernel
theorem dX12_passDay_110 : decode cX12_passDay 110 = .ok (.bipush 31, 2) := by decide +kernel
theorem dX12_passDay_112 : decode cX12_passDay 112 = .ok (.iaload, 1) := by decide +kernel
theorem dX12_passDay_113 : decode cX12_passDay 113 = .ok (.iastore, 1) := by decide +kernel
theorem dX12_passDay_114 : decode cX12_passDay 114 = .ok (.aload_n 0, 1) := by decide +kernel
theorem dX12_passDay_115 : decode cX12_passDay 115 = .ok (.getfield 52, 3) := by decide +kernel
theorem dX12_passDay_118 : decode cX12_passDay 118 = .ok (.bipush 33, 2) := by decide +kernel
theorem dX12_passDay_120 : decode cX12_passDay 120 = .ok (.dup2, 1) := by decide +kernel
theorem dX12_passDay_121 : decode cX12_passDay 121 = .ok (.iaload, 1) := by decide +kernel
theorem dX12_passDay_122 : decode cX12_passDay 122 = .ok (.iconst 1, 1) := by decide +kernel
theorem dX12_passDay_123 : decode cX12_passDay 123 = .ok (.iadd, 1) := by decide +kernel
theorem dX12_passDay_124 : decode cX12_passDay 124 = .ok (.iastore, 1) := by decide +kernel
theorem dX12_passDay_125 : decode cX12_passDay 125 = .ok (.aload_n 0, 1) := by decide +kernel
theorem dX12_passDay_126 : decode cX12_passDay 126 = .ok (.getfield 52, 3) := by decide +kernel
theorem dX12_passDay_129 : decode cX12_passDay 129 = .ok (.bipush 29, 2) := by decide +kernel
theorem dX12_passDay_131 : decode cX12_passDay 131 = .ok (.iconst 0, 1) := by decide +kernel
theorem dX12_passDay_132 : decode cX12_passDay 132 = .ok (.iastore, 1) := by decide +kernel
theorem dX12_passDay_133 : decode cX12_passDay 133 = .ok (.aload_n 0, 1) := by decide +kernel
theorem dX12_passDay_134 : decode cX12_passDay 134 = .ok (.getfield 52, 3) := by decide +kernel
theorem dX12_passDay_137 : decode cX12_passDay 137 = .ok (.bipush 30, 2) := by decide +kernel
theorem dX12_passDay_139 : decode cX12_passDay 139 = .ok (.iconst 0, 1) := by decide +kernel
theorem dX12_passDay_140 : decode cX12_passDay 140 = .ok (.iastore, 1) := by decide +kernel
theorem dX12_passDay_141 : decode cX12_passDay 141 = .ok (.aload_n 0, 1) := by decide +kernel
theorem dX12_passDay_142 : decode cX12_passDay 142 = .ok (.getfield 52, 3) := by decide +kernel
theorem dX12_passDay_145 : decode cX12_passDay 145 = .ok (.bipush 31, 2) := by decide +kernel
theorem dX12_passDay_147 : decode cX12_passDay 147 = .ok (.sipush 9999, 3) := by decide +kernel
theorem dX12_passDay_150 : decode cX12_passDay 150 = .ok (.aload_n 0, 1) := by decide +kernel
theorem dX12_passDay_151 : decode cX12_passDay 151 = .ok (.getfield 52, 3) := by decide +kernel
theorem dX12_passDay_154 : decode cX12_passDay 154 = .ok (.bipush 31, 2) := by decide +kernel
theorem dX12_passDay_156 : decode cX12_passDay 156 = .ok (.iaload, 1) := by decide +kernel
theorem dX12_passDay_157 : decode cX12_passDay 157 = .ok (.iconst 1, 1) := by decide +kernel
theorem dX12_passDay_158 : decode cX12_passDay 158 = .ok (.iadd, 1) := by decide +kernel
theorem dX12_passDay_159 : decode cX12_passDay 159 = .ok (.invokestatic 327, 3) := by decide +kernel
theorem dX12_passDay_162 : decode cX12_passDay 162 = .ok (.iastore, 1) := by decide +kernel
theorem dX12_passDay_163 : decode cX12_passDay 163 = .ok (.aload_n 0, 1) := by decide +kernel
theorem dX12_passDay_164 : decode cX12_passDay 164 = .ok (.getfield 52, 3) := by decide +kernel
theorem dX12_passDay_167 : decode cX12_passDay 167 = .ok (.bipush 32, 2) := by decide +kernel
theorem dX12_passDay_169 : decode cX12_passDay 169 = .ok (.dup2, 1) := by decide +kernel
theorem dX12_passDay_170 : decode cX12_passDay 170 = .ok (.iaload, 1) := by decide +kernel
theorem dX12_passDay_171 : decode cX12_passDay 171 = .ok (.iconst 1, 1) := by decide +kernel
theorem dX12_passDay_172 : decode cX12_passDay 172 = .ok (.iadd, 1) := by decide +kernel
theorem dX12_passDay_173 : decode cX12_passDay 173 = .ok (.iastore, 1) := by decide +kernel
theorem dX12_passDay_174 : decode cX12_passDay 174 = .ok (.return_, 1) := by decide +kernel
theorem dX12_areDays_0 : decode cX12_areDays 0 = .ok (.iload_n 1, 1) := by decide +kernel
theorem dX12_areDays_1 : decode cX12_areDays 1 = .ok (.iconst 1, 1) := by decide +kernel
theorem dX12_areDays_2 : decode cX12_areDays 2 = .ok (.bipush 60, 2) := by decide +kernel
theorem dX12_areDays_4 : decode cX12_areDays 4 = .ok (.invokestatic 208, 3) := by decide +kernel
theorem dX12_areDays_7 : decode cX12_areDays 7 = .ok (.ifCond .eq 22, 3) := by decide +kernel
theorem dX12_areDays_10 : decode cX12_areDays 10 = .ok (.aload_n 0, 1) := by decide +kernel
theorem dX12_areDays_11 : decode cX12_areDays 11 = .ok (.getfield 52, 3) := by decide +kernel
theorem dX12_areDays_14 : decode cX12_areDays 14 = .ok (.bipush 32, 2) := by decide +kernel
theorem dX12_areDays_16 : decode cX12_areDays 16 = .ok (.iaload, 1) := by decide +kernel
theorem dX12_areDays_17 : decode cX12_areDays 17 = .ok (.iload_n 1, 1) := by decide +kernel
theorem dX12_areDays_18 : decode cX12_areDays 18 = .ok (.iadd, 1) := by decide +kernel
theorem dX12_areDays_19 : decode cX12_areDays 19 = .ok (.sipush 999, 3) := by decide +kernel
theorem dX12_areDays_22 : decode cX12_areDays 22 = .ok (.if_icmp .gt 7, 3) := by decide +kernel
theorem dX12_areDays_25 : decode cX12_areDays 25 = .ok (.iconst 1, 1) := by decide +kernel
theorem dX12_areDays_26 : decode cX12_areDays 26 = .ok (.goto 4, 3) := by decide +kernel
theorem dX12_areDays_29 : decode cX12_areDays 29 = .ok (.iconst 0, 1) := by decide +kernel
theorem dX12_areDays_30 : decode cX12_areDays 30 = .ok (.ireturn, 1) := by decide +kernel
theorem dX12_days_0 : decode cX12_days 0 = .ok (.aload_n 0, 1) := by decide +kernel
theorem dX12_days_1 : decode cX12_days 1 = .ok (.aload_n 0, 1) := by decide +kernel
theorem dX12_days_2 : decode cX12_days 2 = .ok (.getfield 245, 3) := by decide +kernel
theorem dX12_days_5 : decode cX12_days 5 = .ok (.ifCond .ne 7, 3) := by decide +kernel
theorem dX12_days_8 : decode cX12_days 8 = .ok (.iconst 0, 1) := by decide +kernel
theorem dX12_days_9 : decode cX12_days 9 = .ok (.goto 30, 3) := by decide +kernel
theorem dX12_days_12 : decode cX12_days 12 = .ok (.iload_n 1, 1) := by decide +kernel
theorem dX12_days_13 : decode cX12_days 13 = .ok (.iconst 1, 1) := by decide +kernel
theorem dX12_days_14 : decode cX12_days 14 = .ok (.bipush 60, 2) := by decide +kernel
theorem dX12_days_16 : decode cX12_days 16 = .ok (.invokestatic 208, 3) := by decide +kernel
theorem dX12_days_19 : decode cX12_days 19 = .ok (.ifCond .ne 7, 3) := by decide +kernel
theorem dX12_days_22 : decode cX12_days 22 = .ok (.iconst 1, 1) := by decide +kernel
theorem dX12_days_23 : decode cX12_days 23 = .ok (.goto 16, 3) := by decide +kernel
theorem dX12_days_26 : decode cX12_days 26 = .ok (.aload_n 0, 1) := by decide +kernel
theorem dX12_days_27 : decode cX12_days 27 = .ok (.iload_n 1, 1) := by decide +kernel
theorem dX12_days_28 : decode cX12_days 28 = .ok (.invokevirtual 332, 3) := by decide +kernel
theorem dX12_days_31 : decode cX12_days 31 = .ok (.ifCond .ne 7, 3) := by decide +kernel
theorem dX12_days_34 : decode cX12_days 34 = .ok (.iconst 4, 1) := by decide +kernel
theorem dX12_days_35 : decode cX12_days 35 = .ok (.goto 4, 3) := by decide +kernel
theorem dX12_days_38 : decode cX12_days 38 = .ok (.iconst (-1), 1) := by decide +kernel
theorem dX12_days_39 : decode cX12_days 39 = .ok (.invokevirtual 312, 3) := by decide +kernel
theorem dX12_days_42 : decode cX12_days 42 = .ok (.ifCond .eq 5, 3) := by decide +kernel
theorem dX12_days_45 : decode cX12_days 45 = .ok (.iconst (-1), 1) := by decide +kernel
theorem dX12_days_46 : decode cX12_days 46 = .ok (.ireturn, 1) := by decide +kernel
theorem dX12_days_47 : decode cX12_days 47 = .ok (.iconst 0, 1) := by decide +kernel
theorem dX12_days_48 : decode cX12_days 48 = .ok (.istore_n 2, 1) := by decide +kernel
theorem dX12_days_49 : decode cX12_days 49 = .ok (.iload_n 2, 1) := by decide +kernel
theorem dX12_days_50 : decode cX12_days 50 = .ok (.iload_n 1, 1) := by decide +kernel
theorem dX12_days_51 : decode cX12_days 51 = .ok (.if_icmp .ge 17, 3) := by decide +kernel
theorem dX12_days_54 : decode cX12_days 54 = .ok (.aload_n 0, 1) := by decide +kernel
theorem dX12_days_55 : decode cX12_days 55 = .ok (.invokevirtual 315, 3) := by decide +kernel
theorem dX12_days_58 : decode cX12_days 58 = .ok (.aload_n 0, 1) := by decide +kernel
theorem dX12_days_59 : decode cX12_days 59 = .ok (.invokevirtual 335, 3) := by decide +kernel
theorem dX12_days_62 : decode cX12_days 62 = .ok (.iinc 2 1, 3) := by decide +kernel
theorem dX12_days_65 : decode cX12_days 65 = .ok (.goto (-16), 3) := by decide +kernel
theorem dX12_days_68 : decode cX12_days 68 = .ok (.aload_n 0, 1) := by decide +kernel
theorem dX12_days_69 : decode cX12_days 69 = .ok (.getfield 52, 3) := by decide +kernel
theorem dX12_days_72 : decode cX12_days 72 = .ok (.bipush 32, 2) := by decide +kernel
theorem dX12_days_74 : decode cX12_days 74 = .ok (.iaload, 1) := by decide +kernel
theorem dX12_days_75 : decode cX12_days 75 = .ok (.ireturn, 1) := by decide +kernel
theorem dX12_wakes_0 : decode cX12_wakes 0 = .ok (.iload_n 1, 1) := by decide +kernel
theorem dX12_wakes_1 : decode cX12_wakes 1 = .ok (.iconst 0, 1) := by decide +kernel
theorem dX12_wakes_2 : decode cX12_wakes 2 = .ok (.bipush 9, 2) := by decide +kernel
theorem dX12_wakes_4 : decode cX12_wakes 4 = .ok (.invokestatic 208, 3) := by decide +kernel
theorem dX12_wakes_7 : decode cX12_wakes 7 = .ok (.ifCond .eq 11, 3) := by decide +kernel
theorem dX12_wakes_10 : decode cX12_wakes 10 = .ok (.iload_n 1, 1) := by decide +kernel
theorem dX12_wakes_11 : decode cX12_wakes 11 = .ok (.aload_n 0, 1) := by decide +kernel
theorem dX12_wakes_12 : decode cX12_wakes 12 = .ok (.getfield 62, 3) := by decide +kernel
theorem dX12_wakes_15 : decode cX12_wakes 15 = .ok (.if_icmp .ne 5, 3) := by decide +kernel
theorem dX12_wakes_18 : decode cX12_wakes 18 = .ok (.iconst 0, 1) := by decide +kernel
theorem dX12_wakes_19 : decode cX12_wakes 19 = .ok (.ireturn, 1) := by decide +kernel
theorem dX12_wakes_20 : decode cX12_wakes 20 = .ok (.aload_n 0, 1) := by decide +kernel
theorem dX12_wakes_21 : decode cX12_wakes 21 = .ok (.iload_n 1, 1) := by decide +kernel
theorem dX12_wakes_22 : decode cX12_wakes 22 = .ok (.putfield 62, 3) := by decide +kernel
theorem dX12_wakes_25 : decode cX12_wakes 25 = .ok (.iconst 1, 1) := by decide +kernel
theorem dX12_wakes_26 : decode cX12_wakes 26 = .ok (.ireturn, 1) := by decide +kernel
theorem dX12_draw_0 : decode cX12_draw 0 = .ok (.aload_n 0, 1) := by decide +kernel
theorem dX12_draw_1 : decode cX12_draw 1 = .ok (.aload_n 0, 1) := by decide +kernel
theorem dX12_draw_2 : decode cX12_draw 2 = .ok (.getfield 338, 3) := by decide +kernel
theorem dX12_draw_5 : decode cX12_draw 5 = .ok (.ldc2_w 342, 3) := by decide +kernel
theorem dX12_draw_8 : decode cX12_draw 8 = .ok (.lmul, 1) := by decide +kernel
theorem dX12_draw_9 : decode cX12_draw 9 = .ok (.ldc2_w 344, 3) := by decide +kernel
theorem dX12_draw_12 : decode cX12_draw 12 = .ok (.ladd, 1) := by decide +kernel
theorem dX12_draw_13 : decode cX12_draw 13 = .ok (.putfield 338, 3) := by decide +kernel
theorem dX12_draw_16 : decode cX12_draw 16 = .ok (.aload_n 0, 1) := by decide +kernel
theorem dX12_draw_17 : decode cX12_draw 17 = .ok (.getfield 338, 3) := by decide +kernel
theorem dX12_draw_20 : decode cX12_draw 20 = .ok (.bipush 33, 2) := by decide +kernel
theorem dX12_draw_22 : decode cX12_draw 22 = .ok (.lushr, 1) := by decide +kernel
theorem dX12_draw_23 : decode cX12_draw 23 = .ok (.iload_n 1, 1) := by decide +kernel
theorem dX12_draw_24 : decode cX12_draw 24 = .ok (.i2l, 1) := by decide +kernel
theorem dX12_draw_25 : decode cX12_draw 25 = .ok (.lrem, 1) := by decide +kernel
theorem dX12_draw_26 : decode cX12_draw 26 = .ok (.l2i, 1) := by decide +kernel
theorem dX12_draw_27 : decode cX12_draw 27 = .ok (.ireturn, 1) := by decide +kernel
theorem dX12_drawDay_0 : decode cX12_drawDay 0 = .ok (.iconst 0, 1) := by decide +kernel
theorem dX12_drawDay_1 : decode cX12_drawDay 1 = .ok (.istore_n 1, 1) := by decide +kernel
theorem dX12_drawDay_2 : decode cX12_drawDay 2 = .ok (.iload_n 1, 1) := by decide +kernel
theorem dX12_drawDay_3 : decode cX12_drawDay 3 = .ok (.iconst 3, 1) := by decide +kernel
theorem dX12_drawDay_4 : decode cX12_drawDay 4 = .ok (.if_icmp .ge 59, 3) := by decide +kernel
theorem dX12_drawDay_7 : decode cX12_drawDay 7 = .ok (.aload_n 0, 1) := by decide +kernel
theorem dX12_drawDay_8 : decode cX12_drawDay 8 = .ok (.aload_n 0, 1) := by decide +kernel
theorem dX12_drawDay_9 : decode cX12_drawDay 9 = .ok (.getfield 245, 3) := by decide +kernel
theorem dX12_drawDay_12 : decode cX12_drawDay 12 = .ok (.invokevirtual 346, 3) := by decide +kernel
theorem dX12_drawDay_15 : decode cX12_drawDay 15 = .ok (.istore_n 2, 1) := by decide +kernel
theorem dX12_drawDay_16 : decode cX12_drawDay 16 = .ok (.aload_n 0, 1) := by decide +kernel
theorem dX12_drawDay_17 : decode cX12_drawDay 17 = .ok (.aload_n 0, 1) := by decide +kernel
theorem dX12_drawDay_18 : decode cX12_drawDay 18 = .ok (.getfield 245, 3) := by decide +kernel
theorem dX12_drawDay_21 : decode cX12_drawDay 21 = .ok (.invokevirtual 346, 3) := by decide +kernel
theorem dX12_drawDay_24 : decode cX12_drawDay 24 = .ok (.istore_n 3, 1) := by decide +kernel
theorem dX12_drawDay_25 : decode cX12_drawDay 25 = .ok (.aload_n 0, 1) := by decide +kernel
theorem dX12_drawDay_26 : decode cX12_drawDay 26 = .ok (.iload_n 2, 1) := by decide +kernel
theorem dX12_drawDay_27 : decode cX12_drawDay 27 = .ok (.iload_n 3, 1) := by decide +kernel
theorem dX12_drawDay_28 : decode cX12_drawDay 28 = .ok (.invokevirtual 309, 3) := by decide +kernel
theorem dX12_drawDay_31 : decode cX12_drawDay 31 = .ok (.ifCond .eq 26, 3) := by decide +kernel
theorem dX12_drawDay_34 : decode cX12_drawDay 34 = .ok (.aload_n 0, 1) := by decide +kernel
theorem dX12_drawDay_35 : decode cX12_drawDay 35 = .ok (.getfield 52, 3) := by decide +kernel
theorem dX12_drawDay_38 : decode cX12_drawDay 38 = .ok (.bipush 29, 2) := by decide +kernel
theorem dX12_drawDay_40 : decode cX12_drawDay 40 = .ok (.iaload, 1) := by decide +kernel
theorem dX12_drawDay_41 : decode cX12_drawDay 41 = .ok (.aload_n 0, 1) := by decide +kernel
theorem dX12_drawDay_42 : decode cX12_drawDay 42 = .ok (.getfield 46, 3) := by decide +kernel
theorem dX12_drawDay_45 : decode cX12_drawDay 45 = .ok (.iconst 2, 1) := by decide +kernel
theorem dX12_drawDay_46 : decode cX12_drawDay 46 = .ok (.iaload, 1) := by decide +kernel
theorem dX12_drawDay_47 : decode cX12_drawDay 47 = .ok (.if_icmp .ge 10, 3) := by decide +kernel
theorem dX12_drawDay_50 : decode cX12_drawDay 50 = .ok (.aload_n 0, 1) := by decide +kernel
theorem dX12_drawDay_51 : decode cX12_drawDay 51 = .ok (.iload_n 2, 1) := by decide +kernel
theorem dX12_drawDay_52 : decode cX12_drawDay 52 = .ok (.iload_n 3, 1) := by decide +kernel
theorem dX12_drawDay_53 : decode cX12_drawDay 53 = .ok (.invokevirtual 318, 3) := by decide +kernel
theorem dX12_drawDay_56 : decode cX12_drawDay 56 = .ok (.pop, 1) := by decide +kernel
theorem dX12_drawDay_57 : decode cX12_drawDay 57 = .ok (.iinc 1 1, 3) := by decide +kernel
theorem dX12_drawDay_60 : decode cX12_drawDay 60 = .ok (.goto (-58), 3) := by decide +kernel
theorem dX12_drawDay_63 : decode cX12_drawDay 63 = .ok (.aload_n 0, 1) := by decide +kernel
theorem dX12_drawDay_64 : decode cX12_drawDay 64 = .ok (.bipush 10, 2) := by decide +kernel
theorem dX12_drawDay_66 : decode cX12_drawDay 66 = .ok (.invokevirtual 346, 3) := by decide +kernel
theorem dX12_drawDay_69 : decode cX12_drawDay 69 = .ok (.aload_n 0, 1) := by decide +kernel
theorem dX12_drawDay_70 : decode cX12_drawDay 70 = .ok (.getfield 62, 3) := by decide +kernel
theorem dX12_drawDay_73 : decode cX12_drawDay 73 = .ok (.if_icmp .ge 34, 3) := by decide +kernel
theorem dX12_drawDay_76 : decode cX12_drawDay 76 = .ok (.aload_n 0, 1) := by decide +kernel
theorem dX12_drawDay_77 : decode cX12_drawDay 77 = .ok (.aload_n 0, 1) := by decide +kernel
theorem dX12_drawDay_78 : decode cX12_drawDay 78 = .ok (.getfield 245, 3) := by decide +kernel
theorem dX12_drawDay_81 : decode cX12_drawDay 81 = .ok (.invokevirtual 346, 3) := by decide +kernel
theorem dX12_drawDay_84 : decode cX12_drawDay 84 = .ok (.istore_n 1, 1) := by decide +kernel
theorem dX12_drawDay_85 : decode cX12_drawDay 85 = .ok (.aload_n 0, 1) := by decide +kernel
theorem dX12_drawDay_86 : decode cX12_drawDay 86 = .ok (.iload_n 1, 1) := by decide +kernel
theorem dX12_drawDay_87 : decode cX12_drawDay 87 = .ok (.invokevirtual 267, 3) := by decide +kernel
theorem dX12_drawDay_90 : decode cX12_drawDay 90 = .ok (.ifCond .ne 17, 3) := by decide +kernel
theorem dX12_drawDay_93 : decode cX12_drawDay 93 = .ok (.aload_n 0, 1) := by decide +kernel
theorem dX12_drawDay_94 : decode cX12_drawDay 94 = .ok (.iload_n 1, 1) := by decide +kernel
theorem dX12_drawDay_95 : decode cX12_drawDay 95 = .ok (.invokevirtual 270, 3) := by decide +kernel
theorem dX12_drawDay_98 : decode cX12_drawDay 98 = .ok (.ifCond .eq 9, 3) := by decide +kernel
theorem dX12_drawDay_101 : decode cX12_drawDay 101 = .ok (.aload_n 0, 1) := by decide +kernel
theorem dX12_drawDay_102 : decode cX12_drawDay 102 = .ok (.iload_n 1, 1) := by decide +kernel
theorem dX12_drawDay_103 : decode cX12_drawDay 103 = .ok (.invokevirtual 321, 3) := by decide +kernel
theorem dX12_drawDay_106 : decode cX12_drawDay 106 = .ok (.pop, 1) := by decide +kernel
theorem dX12_drawDay_107 : decode cX12_drawDay 107 = .ok (.return_, 1) := by decide +kernel
theorem dX12_years_0 : decode cX12_years 0 = .ok (.aload_n 0, 1) := by decide +kernel
theorem dX12_years_1 : decode cX12_years 1 = .ok (.getfield 245, 3) := by decide +kernel
theorem dX12_years_4 : decode cX12_years 4 = .ok (.ifCond .eq 11, 3) := by decide +kernel
theorem dX12_years_7 : decode cX12_years 7 = .ok (.aload_n 0, 1) := by decide +kernel
theorem dX12_years_8 : decode cX12_years 8 = .ok (.iload_n 1, 1) := by decide +kernel
theorem dX12_years_9 : decode cX12_years 9 = .ok (.invokevirtual 332, 3) := by decide +kernel
theorem dX12_years_12 : decode cX12_years 12 = .ok (.ifCond .ne 5, 3) := by decide +kernel
theorem dX12_years_15 : decode cX12_years 15 = .ok (.iconst (-1), 1) := by decide +kernel
theorem dX12_years_16 : decode cX12_years 16 = .ok (.ireturn, 1) := by decide +kernel
theorem dX12_years_17 : decode cX12_years 17 = .ok (.aload_n 0, 1) := by decide +kernel
theorem dX12_years_18 : decode cX12_years 18 = .ok (.lload_n 2, 1) := by decide +kernel
theorem dX12_years_19 : decode cX12_years 19 = .ok (.putfield 338, 3) := by decide +kernel
theorem dX12_years_22 : decode cX12_years 22 = .ok (.iconst 0, 1) := by decide +kernel
theorem dX12_years_23 : decode cX12_years 23 = .ok (.istore 4, 2) := by decide +kernel
theorem dX12_years_25 : decode cX12_years 25 = .ok (.iload 4, 2) := by decide +kernel
theorem dX12_years_27 : decode cX12_years 27 = .ok (.iload_n 1, 1) := by decide +kernel
theorem dX12_years_28 : decode cX12_years 28 = .ok (.if_icmp .ge 21, 3) := by decide +kernel
theorem dX12_years_31 : decode cX12_years 31 = .ok (.aload_n 0, 1) := by decide +kernel
theorem dX12_years_32 : decode cX12_years 32 = .ok (.invokevirtual 315, 3) := by decide +kernel
theorem dX12_years_35 : decode cX12_years 35 = .ok (.aload_n 0, 1) := by decide +kernel
theorem dX12_years_36 : decode cX12_years 36 = .ok (.invokevirtual 349, 3) := by decide +kernel
theorem dX12_years_39 : decode cX12_years 39 = .ok (.aload_n 0, 1) := by decide +kernel
theorem dX12_years_40 : decode cX12_years 40 = .ok (.invokevirtual 335, 3) := by decide +kernel
theorem dX12_years_43 : decode cX12_years 43 = .ok (.iinc 4 1, 3) := by decide +kernel
theorem dX12_years_46 : decode cX12_years 46 = .ok (.goto (-21), 3) := by decide +kernel
theorem dX12_years_49 : decode cX12_years 49 = .ok (.aload_n 0, 1) := by decide +kernel
theorem dX12_years_50 : decode cX12_years 50 = .ok (.getfield 52, 3) := by decide +kernel
theorem dX12_years_53 : decode cX12_years 53 = .ok (.bipush 32, 2) := by decide +kernel
theorem dX12_years_55 : decode cX12_years 55 = .ok (.iaload, 1) := by decide +kernel
theorem dX12_years_56 : decode cX12_years 56 = .ok (.ireturn, 1) := by decide +kernel
theorem dX12_status_0 : decode cX12_status 0 = .ok (.iload_n 1, 1) := by decide +kernel
theorem dX12_status_1 : decode cX12_status 1 = .ok (.iconst 0, 1) := by decide +kernel
theorem dX12_status_2 : decode cX12_status 2 = .ok (.iconst 4, 1) := by decide +kernel
theorem dX12_status_3 : decode cX12_status 3 = .ok (.invokestatic 208, 3) := by decide +kernel
theorem dX12_status_6 : decode cX12_status 6 = .ok (.ifCond .eq 12, 3) := by decide +kernel
theorem dX12_status_9 : decode cX12_status 9 = .ok (.aload_n 0, 1) := by decide +kernel
theorem dX12_status_10 : decode cX12_status 10 = .ok (.getfield 55, 3) := by decide +kernel
theorem dX12_status_13 : decode cX12_status 13 = .ok (.iload_n 1, 1) := by decide +kernel
theorem dX12_status_14 : decode cX12_status 14 = .ok (.iaload, 1) := by decide +kernel
theorem dX12_status_15 : decode cX12_status 15 = .ok (.goto 4, 3) := by decide +kernel
theorem dX12_status_18 : decode cX12_status 18 = .ok (.iconst (-1), 1) := by decide +kernel
theorem dX12_status_19 : decode cX12_status 19 = .ok (.ireturn, 1) := by decide +kernel
theorem dX12_undo_0 : decode cX12_undo 0 = .ok (.aload_n 0, 1) := by decide +kernel
theorem dX12_undo_1 : decode cX12_undo 1 = .ok (.getfield 254, 3) := by decide +kernel
theorem dX12_undo_4 : decode cX12_undo 4 = .ok (.ifCond .ne 5, 3) := by decide +kernel
theorem dX12_undo_7 : decode cX12_undo 7 = .ok (.iconst (-1), 1) := by decide +kernel
theorem dX12_undo_8 : decode cX12_undo 8 = .ok (.ireturn, 1) := by decide +kernel
theorem dX12_undo_9 : decode cX12_undo 9 = .ok (.aload_n 0, 1) := by decide +kernel
theorem dX12_undo_10 : decode cX12_undo 10 = .ok (.dup, 1) := by decide +kernel
theorem dX12_undo_11 : decode cX12_undo 11 = .ok (.getfield 254, 3) := by decide +kernel
theorem dX12_undo_14 : decode cX12_undo 14 = .ok (.iconst 1, 1) := by decide +kernel
theorem dX12_undo_15 : decode cX12_undo 15 = .ok (.isub, 1) := by decide +kernel
theorem dX12_undo_16 : decode cX12_undo 16 = .ok (.putfield 254, 3) := by decide +kernel
theorem dX12_undo_19 : decode cX12_undo 19 = .ok (.iconst 0, 1) := by decide +kernel
theorem dX12_undo_20 : decode cX12_undo 20 = .ok (.istore_n 1, 1) := by decide +kernel
theorem dX12_undo_21 : decode cX12_undo 21 = .ok (.iload_n 1, 1) := by decide +kernel
theorem dX12_undo_22 : decode cX12_undo 22 = .ok (.sipush 214, 3) := by decide +kernel
theorem dX12_undo_25 : decode cX12_undo 25 = .ok (.if_icmp .ge 30, 3) := by decide +kernel
theorem dX12_undo_28 : decode cX12_undo 28 = .ok (.aload_n 0, 1) := by decide +kernel
theorem dX12_undo_29 : decode cX12_undo 29 = .ok (.getfield 52, 3) := by decide +kernel
theorem dX12_undo_32 : decode cX12_undo 32 = .ok (.iload_n 1, 1) := by decide +kernel
theorem dX12_undo_33 : decode cX12_undo 33 = .ok (.aload_n 0, 1) := by decide +kernel
theorem dX12_undo_34 : decode cX12_undo 34 = .ok (.getfield 65, 3) := by decide +kernel
theorem dX12_undo_37 : decode cX12_undo 37 = .ok (.sipush 214, 3) := by decide +kernel
theorem dX12_undo_40 : decode cX12_undo 40 = .ok (.aload_n 0, 1) := by decide +kernel
theorem dX12_undo_41 : decode cX12_undo 41 = .ok (.getfield 254, 3) := by decide +kernel
theorem dX12_undo_44 : decode cX12_undo 44 = .ok (.imul, 1) := by decide +kernel
theorem dX12_undo_45 : decode cX12_undo 45 = .ok (.iload_n 1, 1) := by decide +kernel
theorem dX12_undo_46 : decode cX12_undo 46 = .ok (.iadd, 1) := by decide +kernel
theorem dX12_undo_47 : decode cX12_undo 47 = .ok (.iaload, 1) := by decide +kernel
theorem dX12_undo_48 : decode cX12_undo 48 = .ok (.iastore, 1) := by decide +kernel
theorem dX12_undo_49 : decode cX12_undo 49 = .ok (.iinc 1 1, 3) := by decide +kernel
theorem dX12_undo_52 : decode cX12_undo 52 = .ok (.goto (-31), 3) := by decide +kernel
theorem dX12_undo_55 : decode cX12_undo 55 = .ok (.aload_n 0, 1) := by decide +kernel
theorem dX12_undo_56 : decode cX12_undo 56 = .ok (.getfield 254, 3) := by decide +kernel
theorem dX12_undo_59 : decode cX12_undo 59 = .ok (.ireturn, 1) := by decide +kernel
theorem dX12_log_0 : decode cX12_log 0 = .ok (.iload_n 1, 1) := by decide +kernel
theorem dX12_log_1 : decode cX12_log 1 = .ok (.iconst 0, 1) := by decide +kernel
theorem dX12_log_2 : decode cX12_log 2 = .ok (.aload_n 0, 1) := by decide +kernel
theorem dX12_log_3 : decode cX12_log 3 = .ok (.getfield 52, 3) := by decide +kernel
theorem dX12_log_6 : decode cX12_log 6 = .ok (.bipush 33, 2) := by decide +kernel
theorem dX12_log_8 : decode cX12_log 8 = .ok (.iaload, 1) := by decide +kernel
theorem dX12_log_9 : decode cX12_log 9 = .ok (.iconst 1, 1) := by decide +kernel
theorem dX12_log_10 : decode cX12_log 10 = .ok (.isub, 1) := by decide +kernel
theorem dX12_log_11 : decode cX12_log 11 = .ok (.invokestatic 208, 3) := by decide +kernel
theorem dX12_log_14 : decode cX12_log 14 = .ok (.ifCond .eq 38, 3) := by decide +kernel
theorem dX12_log_17 : decode cX12_log 17 = .ok (.iload_n 2, 1) := by decide +kernel
theorem dX12_log_18 : decode cX12_log 18 = .ok (.iconst 0, 1) := by decide +kernel
theorem dX12_log_19 : decode cX12_log 19 = .ok (.iconst 2, 1) := by decide +kernel
theorem dX12_log_20 : decode cX12_log 20 = .ok (.invokestatic 208, 3) := by decide +kernel
theorem dX12_log_23 : decode cX12_log 23 = .ok (.ifCond .eq 29, 3) := by decide +kernel
theorem dX12_log_26 : decode cX12_log 26 = .ok (.aload_n 0, 1) := by decide +kernel
theorem dX12_log_27 : decode cX12_log 27 = .ok (.getfield 52, 3) := by decide +kernel
theorem dX12_log_30 : decode cX12_log 30 = .ok (.bipush 34, 2) := by decide +kernel
theorem dX12_log_32 : decode cX12_log 32 = .ok (.iconst 3, 1) := by decide +kernel
theorem dX12_log_33 : decode cX12_log 33 = .ok (.aload_n 0, 1) := by decide +kernel
theorem dX12_log_34 : decode cX12_log 34 = .ok (.getfield 52, 3) := by decide +kernel
theorem dX12_log_37 : decode cX12_log 37 = .ok (.bipush 33, 2) := by decide +kernel
theorem dX12_log_39 : decode cX12_log 39 = .ok (.iaload, 1) := by decide +kernel
theorem dX12_log_40 : decode cX12_log 40 = .ok (.iconst 1, 1) := by decide +kernel
theorem dX12_log_41 : decode cX12_log 41 = .ok (.isub, 1) := by decide +kernel
theorem dX12_log_42 : decode cX12_log 42 = .ok (.iload_n 1, 1) := by decide +kernel
theorem dX12_log_43 : decode cX12_log 43 = .ok (.isub, 1) := by decide +kernel
theorem dX12_log_44 : decode cX12_log 44 = .ok (.imul, 1) := by decide +kernel
theorem dX12_log_45 : decode cX12_log 45 = .ok (.iadd, 1) := by decide +kernel
theorem dX12_log_46 : decode cX12_log 46 = .ok (.iload_n 2, 1) := by decide +kernel
theorem dX12_log_47 : decode cX12_log 47 = .ok (.iadd, 1) := by decide +kernel
theorem dX12_log_48 : decode cX12_log 48 = .ok (.iaload, 1) := by decide +kernel
theorem dX12_log_49 : decode cX12_log 49 = .ok (.goto 4, 3) := by decide +kernel
theorem dX12_log_52 : decode cX12_log 52 = .ok (.iconst (-1), 1) := by decide +kernel
theorem dX12_log_53 : decode cX12_log 53 = .ok (.ireturn, 1) := by decide +kernel
theorem dX12_areTwo_0 : decode cX12_areTwo 0 = .ok (.aload_n 0, 1) := by decide +kernel
theorem dX12_areTwo_1 : decode cX12_areTwo 1 = .ok (.iload_n 1, 1) := by decide +kernel
theorem dX12_areTwo_2 : decode cX12_areTwo 2 = .ok (.invokevirtual 306, 3) := by decide +kernel
theorem dX12_areTwo_5 : decode cX12_areTwo 5 = .ok (.ifCond .eq 20, 3) := by decide +kernel
theorem dX12_areTwo_8 : decode cX12_areTwo 8 = .ok (.aload_n 0, 1) := by decide +kernel
theorem dX12_areTwo_9 : decode cX12_areTwo 9 = .ok (.iload_n 2, 1) := by decide +kernel
theorem dX12_areTwo_10 : decode cX12_areTwo 10 = .ok (.invokevirtual 306, 3) := by decide +kernel
theorem dX12_areTwo_13 : decode cX12_areTwo 13 = .ok (.ifCond .eq 12, 3) := by decide +kernel
theorem dX12_areTwo_16 : decode cX12_areTwo 16 = .ok (.iload_n 1, 1) := by decide +kernel
theorem dX12_areTwo_17 : decode cX12_areTwo 17 = .ok (.iload_n 2, 1) := by decide +kernel
theorem dX12_areTwo_18 : decode cX12_areTwo 18 = .ok (.if_icmp .eq 7, 3) := by decide +kernel
theorem dX12_areTwo_21 : decode cX12_areTwo 21 = .ok (.iconst 1, 1) := by decide +kernel
theorem dX12_areTwo_22 : decode cX12_areTwo 22 = .ok (.goto 4, 3) := by decide +kernel
theorem dX12_areTwo_25 : decode cX12_areTwo 25 = .ok (.iconst 0, 1) := by decide +kernel
theorem dX12_areTwo_26 : decode cX12_areTwo 26 = .ok (.ireturn, 1) := by decide +kernel
theorem dX12_fits_0 : decode cX12_fits 0 = .ok (.aload_n 0, 1) := by decide +kernel
theorem dX12_fits_1 : decode cX12_fits 1 = .ok (.iload_n 1, 1) := by decide +kernel
theorem dX12_fits_2 : decode cX12_fits 2 = .ok (.iload_n 2, 1) := by decide +kernel
theorem dX12_fits_3 : decode cX12_fits 3 = .ok (.invokevirtual 352, 3) := by decide +kernel
theorem dX12_fits_6 : decode cX12_fits 6 = .ok (.ifCond .ne 7, 3) := by decide +kernel
theorem dX12_fits_9 : decode cX12_fits 9 = .ok (.iconst (-1), 1) := by decide +kernel
theorem dX12_fits_10 : decode cX12_fits 10 = .ok (.goto 17, 3) := by decide +kernel
theorem dX12_fits_13 : decode cX12_fits 13 = .ok (.aload_n 0, 1) := by decide +kernel
theorem dX12_fits_14 : decode cX12_fits 14 = .ok (.iload_n 1, 1) := by decide +kernel
theorem dX12_fits_15 : decode cX12_fits 15 = .ok (.iload_n 2, 1) := by decide +kernel
theorem dX12_fits_16 : decode cX12_fits 16 = .ok (.invokevirtual 294, 3) := by decide +kernel
theorem dX12_fits_19 : decode cX12_fits 19 = .ok (.ifCond .eq 7, 3) := by decide +kernel
theorem dX12_fits_22 : decode cX12_fits 22 = .ok (.iconst 1, 1) := by decide +kernel
theorem dX12_fits_23 : decode cX12_fits 23 = .ok (.goto 4, 3) := by decide +kernel
theorem dX12_fits_26 : decode cX12_fits 26 = .ok (.iconst 0, 1) := by decide +kernel
theorem dX12_fits_27 : decode cX12_fits 27 = .ok (.ireturn, 1) := by decide +kernel
theorem dX12_couldOf_0 : decode cX12_couldOf 0 = .ok (.iconst 0, 1) := by decide +kernel
theorem dX12_couldOf_1 : decode cX12_couldOf 1 = .ok (.istore_n 2, 1) := by decide +kernel
theorem dX12_couldOf_2 : decode cX12_couldOf 2 = .ok (.iconst 0, 1) := by decide +kernel
theorem dX12_couldOf_3 : decode cX12_couldOf 3 = .ok (.istore_n 3, 1) := by decide +kernel
theorem dX12_couldOf_4 : decode cX12_couldOf 4 = .ok (.iload_n 3, 1) := by decide +kernel
theorem dX12_couldOf_5 : decode cX12_couldOf 5 = .ok (.aload_n 0, 1) := by decide +kernel
theorem dX12_couldOf_6 : decode cX12_couldOf 6 = .ok (.getfield 245, 3) := by decide +kernel
theorem dX12_couldOf_9 : decode cX12_couldOf 9 = .ok (.if_icmp .ge 37, 3) := by decide +kernel
theorem dX12_couldOf_12 : decode cX12_couldOf 12 = .ok (.iload_n 2, 1) := by decide +kernel
theorem dX12_couldOf_13 : decode cX12_couldOf 13 = .ok (.aload_n 0, 1) := by decide +kernel
theorem dX12_couldOf_14 : decode cX12_couldOf 14 = .ok (.iload_n 1, 1) := by decide +kernel
theorem dX12_couldOf_15 : decode cX12_couldOf 15 = .ok (.iload_n 3, 1) := by decide +kernel
theorem dX12_couldOf_16 : decode cX12_couldOf 16 = .ok (.invokevirtual 309, 3) := by decide +kernel
theorem dX12_couldOf_19 : decode cX12_couldOf 19 = .ok (.ifCond .eq 18, 3) := by decide +kernel
theorem dX12_couldOf_22 : decode cX12_couldOf 22 = .ok (.aload_n 0, 1) := by decide +kernel
theorem dX12_couldOf_23 : decode cX12_couldOf 23 = .ok (.iload_n 1, 1) := by decide +kernel
theorem dX12_couldOf_24 : decode cX12_couldOf 24 = .ok (.iload_n 3, 1) := by decide +kernel
theorem dX12_couldOf_25 : decode cX12_couldOf 25 = .ok (.invokevirtual 294, 3) := by decide +kernel
theorem dX12_couldOf_28 : decode cX12_couldOf 28 = .ok (.ifCond .eq 9, 3) := by decide +kernel
theorem dX12_couldOf_31 : decode cX12_couldOf 31 = .ok (.iconst 1, 1) := by decide +kernel
theorem dX12_couldOf_32 : decode cX12_couldOf 32 = .ok (.iload_n 3, 1) := by decide +kernel
theorem dX12_couldOf_33 : decode cX12_couldOf 33 = .ok (.ishl, 1) := by decide +kernel
theorem dX12_couldOf_34 : decode cX12_couldOf 34 = .ok (.goto 4, 3) := by decide +kernel
theorem dX12_couldOf_37 : decode cX12_couldOf 37 = .ok (.iconst 0, 1) := by decide +kernel
theorem dX12_couldOf_38 : decode cX12_couldOf 38 = .ok (.ior, 1) := by decide +kernel
theorem dX12_couldOf_39 : decode cX12_couldOf 39 = .ok (.istore_n 2, 1) := by decide +kernel
theorem dX12_couldOf_40 : decode cX12_couldOf 40 = .ok (.iinc 3 1, 3) := by decide +kernel
theorem dX12_couldOf_43 : decode cX12_couldOf 43 = .ok (.goto (-39), 3) := by decide +kernel
theorem dX12_couldOf_46 : decode cX12_couldOf 46 = .ok (.iload_n 2, 1) := by decide +kernel
theorem dX12_couldOf_47 : decode cX12_couldOf 47 = .ok (.ireturn, 1) := by decide +kernel
theorem dX12_could_0 : decode cX12_could 0 = .ok (.aload_n 0, 1) := by decide +kernel
theorem dX12_could_1 : decode cX12_could 1 = .ok (.iload_n 1, 1) := by decide +kernel
theorem dX12_could_2 : decode cX12_could 2 = .ok (.invokevirtual 306, 3) := by decide +kernel
theorem dX12_could_5 : decode cX12_could 5 = .ok (.ifCond .eq 11, 3) := by decide +kernel
theorem dX12_could_8 : decode cX12_could 8 = .ok (.aload_n 0, 1) := by decide +kernel
theorem dX12_could_9 : decode cX12_could 9 = .ok (.iload_n 1, 1) := by decide +kernel
theorem dX12_could_10 : decode cX12_could 10 = .ok (.invokevirtual 355, 3) := by decide +kernel
theorem dX12_could_13 : decode cX12_could 13 = .ok (.goto 4, 3) := by decide +kernel
theorem dX12_could_16 : decode cX12_could 16 = .ok (.iconst (-1), 1) := by decide +kernel
theorem dX12_could_17 : decode cX12_could 17 = .ok (.ireturn, 1) := by decide +kernel
theorem dX12_isBetter_0 : decode cX12_isBetter 0 = .ok (.aload_n 0, 1) := by decide +kernel
theorem dX12_isBetter_1 : decode cX12_isBetter 1 = .ok (.getfield 358, 3) := by decide +kernel
theorem dX12_isBetter_4 : decode cX12_isBetter 4 = .ok (.iconst (-1), 1) := by decide +kernel
theorem dX12_isBetter_5 : decode cX12_isBetter 5 = .ok (.if_icmp .eq 27, 3) := by decide +kernel
theorem dX12_isBetter_8 : decode cX12_isBetter 8 = .ok (.iload_n 1, 1) := by decide +kernel
theorem dX12_isBetter_9 : decode cX12_isBetter 9 = .ok (.aload_n 0, 1) := by decide +kernel
theorem dX12_isBetter_10 : decode cX12_isBetter 10 = .ok (.getfield 361, 3) := by decide +kernel
theorem dX12_isBetter_13 : decode cX12_isBetter 13 = .ok (.if_icmp .gt 19, 3) := by decide +kernel
theorem dX12_isBetter_16 : decode cX12_isBetter 16 = .ok (.iload_n 1, 1) := by decide +kernel
theorem dX12_isBetter_17 : decode cX12_isBetter 17 = .ok (.aload_n 0, 1) := by decide +kernel
theorem dX12_isBetter_18 : decode cX12_isBetter 18 = .ok (.getfield 361, 3) := by decide +kernel
theorem dX12_isBetter_21 : decode cX12_isBetter 21 = .ok (.if_icmp .ne 15, 3) := by decide +kernel
theorem dX12_isBetter_24 : decode cX12_isBetter 24 = .ok (.iload_n 2, 1) := by decide +kernel
theorem dX12_isBetter_25 : decode cX12_isBetter 25 = .ok (.aload_n 0, 1) := by decide +kernel
theorem dX12_isBetter_26 : decode cX12_isBetter 26 = .ok (.getfield 358, 3) := by decide +kernel
theorem dX12_isBetter_29 : decode cX12_isBetter 29 = .ok (.if_icmp .ge 7, 3) := by decide +kernel
theorem dX12_isBetter_32 : decode cX12_isBetter 32 = .ok (.iconst 1, 1) := by decide +kernel
theorem dX12_isBetter_33 : decode cX12_isBetter 33 = .ok (.goto 4, 3) := by decide +kernel
theorem dX12_isBetter_36 : decode cX12_isBetter 36 = .ok (.iconst 0, 1) := by decide +kernel
theorem dX12_isBetter_37 : decode cX12_isBetter 37 = .ok (.ireturn, 1) := by decide +kernel
theorem dX12_tryKnots_0 : decode cX12_tryKnots 0 = .ok (.iload_n 1, 1) := by decide +kernel
theorem dX12_tryKnots_1 : decode cX12_tryKnots 1 = .ok (.aload_n 0, 1) := by decide +kernel
theorem dX12_tryKnots_2 : decode cX12_tryKnots 2 = .ok (.getfield 245, 3) := by decide +kernel
theorem dX12_tryKnots_5 : decode cX12_tryKnots 5 = .ok (.if_icmp .ne 23, 3) := by decide +kernel
theorem dX12_tryKnots_8 : decode cX12_tryKnots 8 = .ok (.aload_n 0, 1) := by decide +kernel
theorem dX12_tryKnots_9 : decode cX12_tryKnots 9 = .ok (.iload_n 3, 1) := by decide +kernel
theorem dX12_tryKnots_10 : decode cX12_tryKnots 10 = .ok (.iload_n 2, 1) := by decide +kernel
theorem dX12_tryKnots_11 : decode cX12_tryKnots 11 = .ok (.invokevirtual 364, 3) := by decide +kernel
theorem dX12_tryKnots_14 : decode cX12_tryKnots 14 = .ok (.ifCond .eq 13, 3) := by decide +kernel
theorem dX12_tryKnots_17 : decode cX12_tryKnots 17 = .ok (.aload_n 0, 1) := by decide +kernel
theorem dX12_tryKnots_18 : decode cX12_tryKnots 18 = .ok (.iload_n 2, 1) := by decide +kernel
theorem dX12_tryKnots_19 : decode cX12_tryKnots 19 = .ok (.putfield 358, 3) := by decide +kernel
theorem dX12_tryKnots_22 : decode cX12_tryKnots 22 = .ok (.aload_n 0, 1) := by decide +kernel
theorem dX12_tryKnots_23 : decode cX12_tryKnots 23 = .ok (.iload_n 3, 1) := by decide +kernel
theorem dX12_tryKnots_24 : decode cX12_tryKnots 24 = .ok (.putfield 361, 3) := by decide +kernel
theorem dX12_tryKnots_27 : decode cX12_tryKnots 27 = .ok (.return_, 1) := by decide +kernel
theorem dX12_tryKnots_28 : decode cX12_tryKnots 28 = .ok (.iconst 0, 1) := by decide +kernel
theorem dX12_tryKnots_29 : decode cX12_tryKnots 29 = .ok (.istore 4, 2) := by decide +kernel
theorem dX12_tryKnots_31 : decode cX12_tryKnots 31 = .ok (.iload 4, 2) := by decide +kernel
theorem dX12_tryKnots_33 : decode cX12_tryKnots 33 = .ok (.aload_n 0, 1) := by decide +kernel
theorem dX12_tryKnots_34 : decode cX12_tryKnots 34 = .ok (.getfield 245, 3) := by decide +kernel
theorem dX12_tryKnots_37 : decode cX12_tryKnots 37 = .ok (.if_icmp .ge 107, 3) := by decide +kernel
theorem dX12_tryKnots_40 : decode cX12_tryKnots 40 = .ok (.aload_n 0, 1) := by decide +kernel
theorem dX12_tryKnots_41 : decode cX12_tryKnots 41 = .ok (.getfield 68, 3) := by decide +kernel
theorem dX12_tryKnots_44 : decode cX12_tryKnots 44 = .ok (.iload_n 1, 1) := by decide +kernel
theorem dX12_tryKnots_45 : decode cX12_tryKnots 45 = .ok (.iaload, 1) := by decide +kernel
theorem dX12_tryKnots_46 : decode cX12_tryKnots 46 = .ok (.iload 4, 2) := by decide +kernel
theorem dX12_tryKnots_48 : decode cX12_tryKnots 48 = .ok (.invokestatic 219, 3) := by decide +kernel
theorem dX12_tryKnots_51 : decode cX12_tryKnots 51 = .ok (.ifCond .eq 87, 3) := by decide +kernel
theorem dX12_tryKnots_54 : decode cX12_tryKnots 54 = .ok (.aload_n 0, 1) := by decide +kernel
theorem dX12_tryKnots_55 : decode cX12_tryKnots 55 = .ok (.getfield 52, 3) := by decide +kernel
theorem dX12_tryKnots_58 : decode cX12_tryKnots 58 = .ok (.bipush 21, 2) := by decide +kernel
theorem dX12_tryKnots_60 : decode cX12_tryKnots 60 = .ok (.iload 4, 2) := by decide +kernel
theorem dX12_tryKnots_62 : decode cX12_tryKnots 62 = .ok (.iadd, 1) := by decide +kernel
theorem dX12_tryKnots_63 : decode cX12_tryKnots 63 = .ok (.iaload, 1) := by decide +kernel
theorem dX12_tryKnots_64 : decode cX12_tryKnots 64 = .ok (.iconst (-1), 1) := by decide +kernel
theorem dX12_tryKnots_65 : decode cX12_tryKnots 65 = .ok (.if_icmp .ne 73, 3) := by decide +kernel
theorem dX12_tryKnots_68 : decode cX12_tryKnots 68 = .ok (.aload_n 0, 1) := by decide +kernel
theorem dX12_tryKnots_69 : decode cX12_tryKnots 69 = .ok (.iload_n 1, 1) := by decide +kernel
theorem dX12_tryKnots_70 : decode cX12_tryKnots 70 = .ok (.invokevirtual 273, 3) := by decide +kernel
theorem dX12_tryKnots_73 : decode cX12_tryKnots 73 = .ok (.iload 4, 2) := by decide +kernel
theorem dX12_tryKnots_75 : decode cX12_tryKnots 75 = .ok (.if_icmp .eq 63, 3) := by decide +kernel
theorem dX12_tryKnots_78 : decode cX12_tryKnots 78 = .ok (.aload_n 0, 1) := by decide +kernel
theorem dX12_tryKnots_79 : decode cX12_tryKnots 79 = .ok (.getfield 52, 3) := by decide +kernel
theorem dX12_tryKnots_82 : decode cX12_tryKnots 82 = .ok (.bipush 14, 2) := by decide +kernel
theorem dX12_tryKnots_84 : decode cX12_tryKnots 84 = .ok (.iload_n 1, 1) := by decide +kernel
theorem dX12_tryKnots_85 : decode cX12_tryKnots 85 = .ok (.iadd, 1) := by decide +kernel
theorem dX12_tryKnots_86 : decode cX12_tryKnots 86 = .ok (.iload 4, 2) := by decide +kernel
theorem dX12_tryKnots_88 : decode cX12_tryKnots 88 = .ok (.iastore, 1) := by decide +kernel
theorem dX12_tryKnots_89 : decode cX12_tryKnots 89 = .ok (.aload_n 0, 1) := by decide +kernel
theorem dX12_tryKnots_90 : decode cX12_tryKnots 90 = .ok (.getfield 52, 3) := by decide +kernel
theorem dX12_tryKnots_93 : decode cX12_tryKnots 93 = .ok (.bipush 21, 2) := by decide +kernel
theorem dX12_tryKnots_95 : decode cX12_tryKnots 95 = .ok (.iload 4, 2) := by decide +kernel
theorem dX12_tryKnots_97 : decode cX12_tryKnots 97 = .ok (.iadd, 1) := by decide +kernel
theorem dX12_tryKnots_98 : decode cX12_tryKnots 98 = .ok (.iload_n 1, 1) := by decide +kernel
theorem dX12_tryKnots_99 : decode cX12_tryKnots 99 = .ok (.iastore, 1) := by decide +kernel
theorem dX12_tryKnots_100 : decode cX12_tryKnots 100 = .ok (.aload_n 0, 1) := by decide +kernel
theorem dX12_tryKnots_101 : decode cX12_tryKnots 101 = .ok (.iload_n 1, 1) := by decide +kernel
theorem dX12_tryKnots_102 : decode cX12_tryKnots 102 = .ok (.iconst 1, 1) := by decide +kernel
theorem dX12_tryKnots_103 : decode cX12_tryKnots 103 = .ok (.iadd, 1) := by decide +kernel
theorem dX12_tryKnots_104 : decode cX12_tryKnots 104 = .ok (.bipush 10, 2) := by decide +kernel
theorem dX12_tryKnots_106 : decode cX12_tryKnots 106 = .ok (.iload_n 2, 1) := by decide +kernel
theorem dX12_tryKnots_107 : decode cX12_tryKnots 107 = .ok (.imul, 1) := by decide +kernel
theorem dX12_tryKnots_108 : decode cX12_tryKnots 108 = .ok (.iload 4, 2) := by decide +kernel
theorem dX12_tryKnots_110 : decode cX12_tryKnots 110 = .ok (.iadd, 1) := by decide +kernel
theorem dX12_tryKnots_111 : decode cX12_tryKnots 111 = .ok (.iload_n 3, 1) := by decide +kernel
theorem dX12_tryKnots_112 : decode cX12_tryKnots 112 = .ok (.iconst 1, 1) := by decide +kernel
theorem dX12_tryKnots_113 : decode cX12_tryKnots 113 = .ok (.iadd, 1) := by decide +kernel
theorem dX12_tryKnots_114 : decode cX12_tryKnots 114 = .ok (.invokevirtual 367, 3) := by decide +kernel
theorem dX12_tryKnots_117 : decode cX12_tryKnots 117 = .ok (.aload_n 0, 1) := by decide +kernel
theorem dX12_tryKnots_118 : decode cX12_tryKnots 118 = .ok (.getfield 52, 3) := by decide +kernel
theorem dX12_tryKnots_121 : decode cX12_tryKnots 121 = .ok (.bipush 14, 2) := by decide +kernel
theorem dX12_tryKnots_123 : decode cX12_tryKnots 123 = .ok (.iload_n 1, 1) := by decide +kernel
theorem dX12_tryKnots_124 : decode cX12_tryKnots 124 = .ok (.iadd, 1) := by decide +kernel
theorem dX12_tryKnots_125 : decode cX12_tryKnots 125 = .ok (.iconst (-1), 1) := by decide +kernel
theorem dX12_tryKnots_126 : decode cX12_tryKnots 126 = .ok (.iastore, 1) := by decide +kernel
theorem dX12_tryKnots_127 : decode cX12_tryKnots 127 = .ok (.aload_n 0, 1) := by decide +kernel
theorem dX12_tryKnots_128 : decode cX12_tryKnots 128 = .ok (.getfield 52, 3) := by decide +kernel
theorem dX12_tryKnots_131 : decode cX12_tryKnots 131 = .ok (.bipush 21, 2) := by decide +kernel
theorem dX12_tryKnots_133 : decode cX12_tryKnots 133 = .ok (.iload 4, 2) := by decide +kernel
theorem dX12_tryKnots_135 : decode cX12_tryKnots 135 = .ok (.iadd, 1) := by decide +kernel
theorem dX12_tryKnots_136 : decode cX12_tryKnots 136 = .ok (.iconst (-1), 1) := by decide +kernel
theorem dX12_tryKnots_137 : decode cX12_tryKnots 137 = .ok (.iastore, 1) := by decide +kernel
theorem dX12_tryKnots_138 : decode cX12_tryKnots 138 = .ok (.iinc 4 1, 3) := by decide +kernel
theorem dX12_tryKnots_141 : decode cX12_tryKnots 141 = .ok (.goto (-110), 3) := by decide +kernel
theorem dX12_tryKnots_144 : decode cX12_tryKnots 144 = .ok (.aload_n 0, 1) := by decide +kernel
theorem dX12_tryKnots_145 : decode cX12_tryKnots 145 = .ok (.iload_n 1, 1) := by decide +kernel
theorem dX12_tryKnots_146 : decode cX12_tryKnots 146 = .ok (.iconst 1, 1) := by decide +kernel
theorem dX12_tryKnots_147 : decode cX12_tryKnots 147 = .ok (.iadd, 1) := by decide +kernel
theorem dX12_tryKnots_148 : decode cX12_tryKnots 148 = .ok (.bipush 10, 2) := by decide +kernel
theorem dX12_tryKnots_150 : decode cX12_tryKnots 150 = .ok (.iload_n 2, 1) := by decide +kernel
theorem dX12_tryKnots_151 : decode cX12_tryKnots 151 = .ok (.imul, 1) := by decide +kernel
theorem dX12_tryKnots_152 : decode cX12_tryKnots 152 = .ok (.bipush 9, 2) := by decide +kernel
theorem dX12_tryKnots_154 : decode cX12_tryKnots 154 = .ok (.iadd, 1) := by decide +kernel
theorem dX12_tryKnots_155 : decode cX12_tryKnots 155 = .ok (.iload_n 3, 1) := by decide +kernel
theorem dX12_tryKnots_156 : decode cX12_tryKnots 156 = .ok (.invokevirtual 367, 3) := by decide +kernel
theorem dX12_tryKnots_159 : decode cX12_tryKnots 159 = .ok (.return_, 1) := by decide +kernel
theorem dX12_knots_0 : decode cX12_knots 0 = .ok (.aload_n 0, 1) := by decide +kernel
theorem dX12_knots_1 : decode cX12_knots 1 = .ok (.getfield 245, 3) := by decide +kernel
theorem dX12_knots_4 : decode cX12_knots 4 = .ok (.ifCond .eq 12, 3) := by decide +kernel
theorem dX12_knots_7 : decode cX12_knots 7 = .ok (.iload_n 1, 1) := by decide +kernel
theorem dX12_knots_8 : decode cX12_knots 8 = .ok (.iconst 0, 1) := by decide +kernel
theorem dX12_knots_9 : decode cX12_knots 9 = .ok (.iconst 1, 1) := by decide +kernel
theorem dX12_knots_10 : decode cX12_knots 10 = .ok (.invokestatic 208, 3) := by decide +kernel
theorem dX12_knots_13 : decode cX12_knots 13 = .ok (.ifCond .ne 5, 3) := by decide +kernel
theorem dX12_knots_16 : decode cX12_knots 16 = .ok (.iconst (-1), 1) := by decide +kernel
theorem dX12_knots_17 : decode cX12_knots 17 = .ok (.ireturn, 1) := by decide +kernel
theorem dX12_knots_18 : decode cX12_knots 18 = .ok (.iconst 0, 1) := by decide +kernel
theorem dX12_knots_19 : decode cX12_knots 19 = .ok (.istore_n 2, 1) := by decide +kernel
theorem dX12_knots_20 : decode cX12_knots 20 = .ok (.iload_n 2, 1) := by decide +kernel
theorem dX12_knots_21 : decode cX12_knots 21 = .ok (.aload_n 0, 1) := by decide +kernel
theorem dX12_knots_22 : decode cX12_knots 22 = .ok (.getfield 245, 3) := by decide +kernel
theorem dX12_knots_25 : decode cX12_knots 25 = .ok (.if_icmp .ge 20, 3) := by decide +kernel
theorem dX12_knots_28 : decode cX12_knots 28 = .ok (.aload_n 0, 1) := by decide +kernel
theorem dX12_knots_29 : decode cX12_knots 29 = .ok (.getfield 68, 3) := by decide +kernel
theorem dX12_knots_32 : decode cX12_knots 32 = .ok (.iload_n 2, 1) := by decide +kernel
theorem dX12_knots_33 : decode cX12_knots 33 = .ok (.aload_n 0, 1) := by decide +kernel
theorem dX12_knots_34 : decode cX12_knots 34 = .ok (.iload_n 2, 1) := by decide +kernel
theorem dX12_knots_35 : decode cX12_knots 35 = .ok (.invokevirtual 355, 3) := by decide +kernel
theorem dX12_knots_38 : decode cX12_knots 38 = .ok (.iastore, 1) := by decide +kernel
theorem dX12_knots_39 : decode cX12_knots 39 = .ok (.iinc 2 1, 3) := by decide +kernel
theorem dX12_knots_42 : decode cX12_knots 42 = .ok (.goto (-22), 3) := by decide +kernel
theorem dX12_knots_45 : decode cX12_knots 45 = .ok (.aload_n 0, 1) := by decide +kernel
theorem dX12_knots_46 : decode cX12_knots 46 = .ok (.iconst (-1), 1) := by decide +kernel
theorem dX12_knots_47 : decode cX12_knots 47 = .ok (.putfield 358, 3) := by decide +kernel
theorem dX12_knots_50 : decode cX12_knots 50 = .ok (.aload_n 0, 1) := by decide +kernel
theorem dX12_knots_51 : decode cX12_knots 51 = .ok (.iconst 0, 1) := by decide +kernel
theorem dX12_knots_52 : decode cX12_knots 52 = .ok (.iconst 0, 1) := by decide +kernel
theorem dX12_knots_53 : decode cX12_knots 53 = .ok (.iconst 0, 1) := by decide +kernel
theorem dX12_knots_54 : decode cX12_knots 54 = .ok (.invokevirtual 367, 3) := by decide +kernel
theorem dX12_knots_57 : decode cX12_knots 57 = .ok (.iload_n 1, 1) := by decide +kernel
theorem dX12_knots_58 : decode cX12_knots 58 = .ok (.ifCond .ne 10, 3) := by decide +kernel
theorem dX12_knots_61 : decode cX12_knots 61 = .ok (.aload_n 0, 1) := by decide +kernel
theorem dX12_knots_62 : decode cX12_knots 62 = .ok (.getfield 358, 3) := by decide +kernel
theorem dX12_knots_65 : decode cX12_knots 65 = .ok (.goto 7, 3) := by decide +kernel
theorem dX12_knots_68 : decode cX12_knots 68 = .ok (.aload_n 0, 1) := by decide +kernel
theorem dX12_knots_69 : decode cX12_knots 69 = .ok (.getfield 361, 3) := by decide +kernel
theorem dX12_knots_72 : decode cX12_knots 72 = .ok (.ireturn, 1) := by decide +kernel
theorem dX12_tryTales_0 : decode cX12_tryTales 0 = .ok (.aload_n 0, 1) := by decide +kernel
theorem dX12_tryTales_1 : decode cX12_tryTales 1 = .ok (.getfield 358, 3) := by decide +kernel
theorem dX12_tryTales_4 : decode cX12_tryTales 4 = .ok (.iconst (-1), 1) := by decide +kernel
theorem dX12_tryTales_5 : decode cX12_tryTales 5 = .ok (.if_icmp .eq 12, 3) := by decide +kernel
theorem dX12_tryTales_8 : decode cX12_tryTales 8 = .ok (.iload 5, 2) := by decide +kernel
theorem dX12_tryTales_10 : decode cX12_tryTales 10 = .ok (.aload_n 0, 1) := by decide +kernel
theorem dX12_tryTales_11 : decode cX12_tryTales 11 = .ok (.getfield 361, 3) := by decide +kernel
theorem dX12_tryTales_14 : decode cX12_tryTales 14 = .ok (.if_icmp .le 7, 3) := by decide +kernel
theorem dX12_tryTales_17 : decode cX12_tryTales 17 = .ok (.iconst 1, 1) := by decide +kernel
theorem dX12_tryTales_18 : decode cX12_tryTales 18 = .ok (.goto 4, 3) := by decide +kernel
theorem dX12_tryTales_21 : decode cX12_tryTales 21 = .ok (.iconst 0, 1) := by decide +kernel
theorem dX12_tryTales_22 : decode cX12_tryTales 22 = .ok (.istore 6, 2) := by decide +kernel
theorem dX12_tryTales_24 : decode cX12_tryTales 24 = .ok (.iload 6, 2) := by decide +kernel
theorem dX12_tryTales_26 : decode cX12_tryTales 26 = .ok (.ifCond .ne 38, 3) := by decide +kernel
theorem dX12_tryTales_29 : decode cX12_tryTales 29 = .ok (.iload 5, 2) := by decide +kernel
theorem dX12_tryTales_31 : decode cX12_tryTales 31 = .ok (.aload_n 0, 1) := by decide +kernel
theorem dX12_tryTales_32 : decode cX12_tryTales 32 = .ok (.getfield 361, 3) := by decide +kernel
theorem dX12_tryTales_35 : decode cX12_tryTales 35 = .ok (.if_icmp .ne 46, 3) := by decide +kernel
theorem dX12_tryTales_38 : decode cX12_tryTales 38 = .ok (.iload 4, 2) := by decide +kernel
theorem dX12_tryTales_40 : decode cX12_tryTales 40 = .ok (.aload_n 0, 1) := by decide +kernel
theorem dX12_tryTales_41 : decode cX12_tryTales 41 = .ok (.getfield 371, 3) := by decide +kernel
theorem dX12_tryTales_44 : decode cX12_tryTales 44 = .ok (.if_icmp .lt 20, 3) := by decide +kernel
theorem dX12_tryTales_47 : decode cX12_tryTales 47 = .ok (.iload 4, 2) := by decide +kernel
theorem dX12_tryTales_49 : decode cX12_tryTales 49 = .ok (.aload_n 0, 1) := by decide +kernel
theorem dX12_tryTales_50 : decode cX12_tryTales 50 = .ok (.getfield 371, 3) := by decide +kernel
theorem dX12_tryTales_53 : decode cX12_tryTales 53 = .ok (.if_icmp .ne 28, 3) := by decide +kernel
theorem dX12_tryTales_56 : decode cX12_tryTales 56 = .ok (.iload_n 3, 1) := by decide +kernel
theorem dX12_tryTales_57 : decode cX12_tryTales 57 = .ok (.aload_n 0, 1) := by decide +kernel
theorem dX12_tryTales_58 : decode cX12_tryTales 58 = .ok (.getfield 358, 3) := by decide +kernel
theorem dX12_tryTales_61 : decode cX12_tryTales 61 = .ok (.if_icmp .ge 20, 3) := by decide +kernel
theorem dX12_tryTales_64 : decode cX12_tryTales 64 = .ok (.aload_n 0, 1) := by decide +kernel
theorem dX12_tryTales_65 : decode cX12_tryTales 65 = .ok (.iload_n 3, 1) := by decide +kernel
theorem dX12_tryTales_66 : decode cX12_tryTales 66 = .ok (.putfield 358, 3) := by decide +kernel
theorem dX12_tryTales_69 : decode cX12_tryTales 69 = .ok (.aload_n 0, 1) := by decide +kernel
theorem dX12_tryTales_70 : decode cX12_tryTales 70 = .ok (.iload 5, 2) := by decide +kernel
theorem dX12_tryTales_72 : decode cX12_tryTales 72 = .ok (.putfield 361, 3) := by decide +kernel
theorem dX12_tryTales_75 : decode cX12_tryTales 75 = .ok (.aload_n 0, 1) := by decide +kernel
theorem dX12_tryTales_76 : decode cX12_tryTales 76 = .ok (.iload 4, 2) := by decide +kernel
theorem dX12_tryTales_78 : decode cX12_tryTales 78 = .ok (.putfield 371, 3) := by decide +kernel
theorem dX12_tryTales_81 : decode cX12_tryTales 81 = .ok (.iconst 0, 1) := by decide +kernel
theorem dX12_tryTales_82 : decode cX12_tryTales 82 = .ok (.istore 7, 2) := by decide +kernel
theorem dX12_tryTales_84 : decode cX12_tryTales 84 = .ok (.iload 7, 2) := by decide +kernel
theorem dX12_tryTales_86 : decode cX12_tryTales 86 = .ok (.aload_n 0, 1) := by decide +kernel
theorem dX12_tryTales_87 : decode cX12_tryTales 87 = .ok (.getfield 245, 3) := by decide +kernel
theorem dX12_tryTales_90 : decode cX12_tryTales 90 = .ok (.if_icmp .ge 75, 3) := by decide +kernel
theorem dX12_tryTales_93 : decode cX12_tryTales 93 = .ok (.iload_n 2, 1) := by decide +kernel
theorem dX12_tryTales_94 : decode cX12_tryTales 94 = .ok (.iload 7, 2) := by decide +kernel
theorem dX12_tryTales_96 : decode cX12_tryTales 96 = .ok (.invokestatic 219, 3) := by decide +kernel
theorem dX12_tryTales_99 : decode cX12_tryTales 99 = .ok (.ifCond .ne 60, 3) := by decide +kernel
theorem dX12_tryTales_102 : decode cX12_tryTales 102 = .ok (.aload_n 0, 1) := by decide +kernel
theorem dX12_tryTales_103 : decode cX12_tryTales 103 = .ok (.iload 7, 2) := by decide +kernel
theorem dX12_tryTales_105 : decode cX12_tryTales 105 = .ok (.invokevirtual 329, 3) := by decide +kernel
theorem dX12_tryTales_108 : decode cX12_tryTales 108 = .ok (.ifCond .eq 51, 3) := by decide +kernel
theorem dX12_tryTales_111 : decode cX12_tryTales 111 = .ok (.aload_n 0, 1) := by decide +kernel
theorem dX12_tryTales_112 : decode cX12_tryTales 112 = .ok (.iload_n 1, 1) := by decide +kernel
theorem dX12_tryTales_113 : decode cX12_tryTales 113 = .ok (.iload 7, 2) := by decide +kernel
theorem dX12_tryTales_115 : decode cX12_tryTales 115 = .ok (.iload 4, 2) := by decide +kernel
theorem dX12_tryTales_117 : decode cX12_tryTales 117 = .ok (.invokevirtual 289, 3) := by decide +kernel
theorem dX12_tryTales_120 : decode cX12_tryTales 120 = .ok (.ifCond .eq 39, 3) := by decide +kernel
theorem dX12_tryTales_123 : decode cX12_tryTales 123 = .ok (.aload_n 0, 1) := by decide +kernel
theorem dX12_tryTales_124 : decode cX12_tryTales 124 = .ok (.iload 7, 2) := by decide +kernel
theorem dX12_tryTales_126 : decode cX12_tryTales 126 = .ok (.iload_n 2, 1) := by decide +kernel
theorem dX12_tryTales_127 : decode cX12_tryTales 127 = .ok (.iconst 1, 1) := by decide +kernel
theorem dX12_tryTales_128 : decode cX12_tryTales 128 = .ok (.iload 7, 2) := by decide +kernel
theorem dX12_tryTales_130 : decode cX12_tryTales 130 = .ok (.ishl, 1) := by decide +kernel
theorem dX12_tryTales_131 : decode cX12_tryTales 131 = .ok (.ior, 1) := by decide +kernel
theorem dX12_tryTales_132 : decode cX12_tryTales 132 = .ok (.bipush 10, 2) := by decide +kernel
theorem dX12_tryTales_134 : decode cX12_tryTales 134 = .ok (.iload_n 3, 1) := by decide +kernel
theorem dX12_tryTales_135 : decode cX12_tryTales 135 = .ok (.imul, 1) := by decide +kernel
theorem dX12_tryTales_136 : decode cX12_tryTales 136 = .ok (.iload 7, 2) := by decide +kernel
theorem dX12_tryTales_138 : decode cX12_tryTales 138 = .ok (.iadd, 1) := by decide +kernel
theorem dX12_tryTales_139 : decode cX12_tryTales 139 = .ok (.iload 4, 2) := by decide +kernel
theorem dX12_tryTales_141 : decode cX12_tryTales 141 = .ok (.iconst 1, 1) := by decide +kernel
theorem dX12_tryTales_142 : decode cX12_tryTales 142 = .ok (.iadd, 1) := by decide +kernel
theorem dX12_tryTales_143 : decode cX12_tryTales 143 = .ok (.iload 5, 2) := by decide +kernel
theorem dX12_tryTales_145 : decode cX12_tryTales 145 = .ok (.aload_n 0, 1) := by decide +kernel
theorem dX12_tryTales_146 : decode cX12_tryTales 146 = .ok (.getfield 52, 3) := by decide +kernel
theorem dX12_tryTales_149 : decode cX12_tryTales 149 = .ok (.bipush 7, 2) := by decide +kernel
theorem dX12_tryTales_151 : decode cX12_tryTales 151 = .ok (.iload 7, 2) := by decide +kernel
theorem dX12_tryTales_153 : decode cX12_tryTales 153 = .ok (.iadd, 1) := by decide +kernel
theorem dX12_tryTales_154 : decode cX12_tryTales 154 = .ok (.iaload, 1) := by decide +kernel
theorem dX12_tryTales_155 : decode cX12_tryTales 155 = .ok (.iadd, 1) := by decide +kernel
theorem dX12_tryTales_156 : decode cX12_tryTales 156 = .ok (.invokevirtual 374, 3) := by decide +kernel
theorem dX12_tryTales_159 : decode cX12_tryTales 159 = .ok (.iinc 7 1, 3) := by decide +kernel
theorem dX12_tryTales_162 : decode cX12_tryTales 162 = .ok (.goto (-78), 3) := by decide +kernel
theorem dX12_tryTales_165 : decode cX12_tryTales 165 = .ok (.return_, 1) := by decide +kernel
theorem dX12_tale_0 : decode cX12_tale 0 = .ok (.aload_n 0, 1) := by decide +kernel
theorem dX12_tale_1 : decode cX12_tale 1 = .ok (.getfield 245, 3) := by decide +kernel
theorem dX12_tale_4 : decode cX12_tale 4 = .ok (.ifCond .eq 12, 3) := by decide +kernel
theorem dX12_tale_7 : decode cX12_tale 7 = .ok (.iload_n 1, 1) := by decide +kernel
theorem dX12_tale_8 : decode cX12_tale 8 = .ok (.iconst 0, 1) := by decide +kernel
theorem dX12_tale_9 : decode cX12_tale 9 = .ok (.iconst 1, 1) := by decide +kernel
theorem dX12_tale_10 : decode cX12_tale 10 = .ok (.invokestatic 208, 3) := by decide +kernel
theorem dX12_tale_13 : decode cX12_tale 13 = .ok (.ifCond .ne 5, 3) := by decide +kernel
theorem dX12_tale_16 : decode cX12_tale 16 = .ok (.iconst (-1), 1) := by decide +kernel
theorem dX12_tale_17 : decode cX12_tale 17 = .ok (.ireturn, 1) := by decide +kernel
theorem dX12_tale_18 : decode cX12_tale 18 = .ok (.aload_n 0, 1) := by decide +kernel
theorem dX12_tale_19 : decode cX12_tale 19 = .ok (.iconst (-1), 1) := by decide +kernel
theorem dX12_tale_20 : decode cX12_tale 20 = .ok (.putfield 358, 3) := by decide +kernel
theorem dX12_tale_23 : decode cX12_tale 23 = .ok (.aload_n 0, 1) := by decide +kernel
theorem dX12_tale_24 : decode cX12_tale 24 = .ok (.iconst 0, 1) := by decide +kernel
theorem dX12_tale_25 : decode cX12_tale 25 = .ok (.putfield 361, 3) := by decide +kernel
theorem dX12_tale_28 : decode cX12_tale 28 = .ok (.iconst 0, 1) := by decide +kernel
theorem dX12_tale_29 : decode cX12_tale 29 = .ok (.istore_n 2, 1) := by decide +kernel
theorem dX12_tale_30 : decode cX12_tale 30 = .ok (.iload_n 2, 1) := by decide +kernel
theorem dX12_tale_31 : decode cX12_tale 31 = .ok (.aload_n 0, 1) := by decide +kernel
theorem dX12_tale_32 : decode cX12_tale 32 = .ok (.getfield 245, 3) := by decide +kernel
theorem dX12_tale_35 : decode cX12_tale 35 = .ok (.if_icmp .ge 36, 3) := by decide +kernel
theorem dX12_tale_38 : decode cX12_tale 38 = .ok (.aload_n 0, 1) := by decide +kernel
theorem dX12_tale_39 : decode cX12_tale 39 = .ok (.iload_n 2, 1) := by decide +kernel
theorem dX12_tale_40 : decode cX12_tale 40 = .ok (.invokevirtual 329, 3) := by decide +kernel
theorem dX12_tale_43 : decode cX12_tale 43 = .ok (.ifCond .eq 22, 3) := by decide +kernel
theorem dX12_tale_46 : decode cX12_tale 46 = .ok (.aload_n 0, 1) := by decide +kernel
theorem dX12_tale_47 : decode cX12_tale 47 = .ok (.iload_n 2, 1) := by decide +kernel
theorem dX12_tale_48 : decode cX12_tale 48 = .ok (.iconst 1, 1) := by decide +kernel
theorem dX12_tale_49 : decode cX12_tale 49 = .ok (.iload_n 2, 1) := by decide +kernel
theorem dX12_tale_50 : decode cX12_tale 50 = .ok (.ishl, 1) := by decide +kernel
theorem dX12_tale_51 : decode cX12_tale 51 = .ok (.iload_n 2, 1) := by decide +kernel
theorem dX12_tale_52 : decode cX12_tale 52 = .ok (.iconst 1, 1) := by decide +kernel
theorem dX12_tale_53 : decode cX12_tale 53 = .ok (.aload_n 0, 1) := by decide +kernel
theorem dX12_tale_54 : decode cX12_tale 54 = .ok (.getfield 52, 3) := by decide +kernel
theorem dX12_tale_57 : decode cX12_tale 57 = .ok (.bipush 7, 2) := by decide +kernel
theorem dX12_tale_59 : decode cX12_tale 59 = .ok (.iload_n 2, 1) := by decide +kernel
theorem dX12_tale_60 : decode cX12_tale 60 = .ok (.iadd, 1) := by decide +kernel
theorem dX12_tale_61 : decode cX12_tale 61 = .ok (.iaload, 1) := by decide +kernel
theorem dX12_tale_62 : decode cX12_tale 62 = .ok (.invokevirtual 374, 3) := by decide +kernel
theorem dX12_tale_65 : decode cX12_tale 65 = .ok (.iinc 2 1, 3) := by decide +kernel
theorem dX12_tale_68 : decode cX12_tale 68 = .ok (.goto (-38), 3) := by decide +kernel
theorem dX12_tale_71 : decode cX12_tale 71 = .ok (.iload_n 1, 1) := by decide +kernel
theorem dX12_tale_72 : decode cX12_tale 72 = .ok (.ifCond .ne 10, 3) := by decide +kernel
theorem dX12_tale_75 : decode cX12_tale 75 = .ok (.aload_n 0, 1) := by decide +kernel
theorem dX12_tale_76 : decode cX12_tale 76 = .ok (.getfield 358, 3) := by decide +kernel
theorem dX12_tale_79 : decode cX12_tale 79 = .ok (.goto 7, 3) := by decide +kernel
theorem dX12_tale_82 : decode cX12_tale 82 = .ok (.aload_n 0, 1) := by decide +kernel
theorem dX12_tale_83 : decode cX12_tale 83 = .ok (.getfield 361, 3) := by decide +kernel
theorem dX12_tale_86 : decode cX12_tale 86 = .ok (.ireturn, 1) := by decide +kernel
theorem dX12_putAside_0 : decode cX12_putAside 0 = .ok (.iconst 0, 1) := by decide +kernel
theorem dX12_putAside_1 : decode cX12_putAside 1 = .ok (.istore_n 2, 1) := by decide +kernel
theorem dX12_putAside_2 : decode cX12_putAside 2 = .ok (.iload_n 2, 1) := by decide +kernel
theorem dX12_putAside_3 : decode cX12_putAside 3 = .ok (.bipush 33, 2) := by decide +kernel
theorem dX12_putAside_5 : decode cX12_putAside 5 = .ok (.if_icmp .ge 26, 3) := by decide +kernel
theorem dX12_putAside_8 : decode cX12_putAside 8 = .ok (.aload_n 0, 1) := by decide +kernel
theorem dX12_putAside_9 : decode cX12_putAside 9 = .ok (.getfield 71, 3) := by decide +kernel
theorem dX12_putAside_12 : decode cX12_putAside 12 = .ok (.bipush 33, 2) := by decide +kernel
theorem dX12_putAside_14 : decode cX12_putAside 14 = .ok (.iload_n 1, 1) := by decide +kernel
theorem dX12_putAside_15 : decode cX12_putAside 15 = .ok (.imul, 1) := by decide +kernel
theorem dX12_putAside_16 : decode cX12_putAside 16 = .ok (.iload_n 2, 1) := by decide +kernel
theorem dX12_putAside_17 : decode cX12_putAside 17 = .ok (.iadd, 1) := by decide +kernel
theorem dX12_putAside_18 : decode cX12_putAside 18 = .ok (.aload_n 0, 1) := by decide +kernel
theorem dX12_putAside_19 : decode cX12_putAside 19 = .ok (.getfield 52, 3) := by decide +kernel
theorem dX12_putAside_22 : decode cX12_putAside 22 = .ok (.iload_n 2, 1) := by decide +kernel
theorem dX12_putAside_23 : decode cX12_putAside 23 = .ok (.iaload, 1) := by decide +kernel
theorem dX12_putAside_24 : decode cX12_putAside 24 = .ok (.iastore, 1) := by decide +kernel
theorem dX12_putAside_25 : decode cX12_putAside 25 = .ok (.iinc 2 1, 3) := by decide +kernel
theorem dX12_putAside_28 : decode cX12_putAside 28 = .ok (.goto (-26), 3) := by decide +kernel
theorem dX12_putAside_31 : decode cX12_putAside 31 = .ok (.return_, 1) := by decide +kernel
theorem dX12_takeBack_0 : decode cX12_takeBack 0 = .ok (.iconst 0, 1) := by decide +kernel
theorem dX12_takeBack_1 : decode cX12_takeBack 1 = .ok (.istore_n 2, 1) := by decide +kernel
theorem dX12_takeBack_2 : decode cX12_takeBack 2 = .ok (.iload_n 2, 1) := by decide +kernel
theorem dX12_takeBack_3 : decode cX12_takeBack 3 = .ok (.bipush 33, 2) := by decide +kernel
theorem dX12_takeBack_5 : decode cX12_takeBack 5 = .ok (.if_icmp .ge 26, 3) := by decide +kernel
theorem dX12_takeBack_8 : decode cX12_takeBack 8 = .ok (.aload_n 0, 1) := by decide +kernel
theorem dX12_takeBack_9 : decode cX12_takeBack 9 = .ok (.getfield 52, 3) := by decide +kernel
theorem dX12_takeBack_12 : decode cX12_takeBack 12 = .ok (.iload_n 2, 1) := by decide +kernel
theorem dX12_takeBack_13 : decode cX12_takeBack 13 = .ok (.aload_n 0, 1) := by decide +kernel
theorem dX12_takeBack_14 : decode cX12_takeBack 14 = .ok (.getfield 71, 3) := by decide +kernel
theorem dX12_takeBack_17 : decode cX12_takeBack 17 = .ok (.bipush 33, 2) := by decide +kernel
theorem dX12_takeBack_19 : decode cX12_takeBack 19 = .ok (.iload_n 1, 1) := by decide +kernel
theorem dX12_takeBack_20 : decode cX12_takeBack 20 = .ok (.imul, 1) := by decide +kernel
theorem dX12_takeBack_21 : decode cX12_takeBack 21 = .ok (.iload_n 2, 1) := by decide +kernel
theorem dX12_takeBack_22 : decode cX12_takeBack 22 = .ok (.iadd, 1) := by decide +kernel
theorem dX12_takeBack_23 : decode cX12_takeBack 23 = .ok (.iaload, 1) := by decide +kernel
theorem dX12_takeBack_24 : decode cX12_takeBack 24 = .ok (.iastore, 1) := by decide +kernel
theorem dX12_takeBack_25 : decode cX12_takeBack 25 = .ok (.iinc 2 1, 3) := by decide +kernel
theorem dX12_takeBack_28 : decode cX12_takeBack 28 = .ok (.goto (-26), 3) := by decide +kernel
theorem dX12_takeBack_31 : decode cX12_takeBack 31 = .ok (.return_, 1) := by decide +kernel
theorem dX12_tryPlan_0 : decode cX12_tryPlan 0 = .ok (.iconst 1, 1) := by decide +kernel
theorem dX12_tryPlan_1 : decode cX12_tryPlan 1 = .ok (.istore 5, 2) := by decide +kernel
theorem dX12_tryPlan_3 : decode cX12_tryPlan 3 = .ok (.aload_n 0, 1) := by decide +kernel
theorem dX12_tryPlan_4 : decode cX12_tryPlan 4 = .ok (.iload_n 1, 1) := by decide +kernel
theorem dX12_tryPlan_5 : decode cX12_tryPlan 5 = .ok (.invokevirtual 378, 3) := by decide +kernel
theorem dX12_tryPlan_8 : decode cX12_tryPlan 8 = .ok (.iconst 0, 1) := by decide +kernel
theorem dX12_tryPlan_9 : decode cX12_tryPlan 9 = .ok (.istore 6, 2) := by decide +kernel
theorem dX12_tryPlan_11 : decode cX12_tryPlan 11 = .ok (.iload 6, 2) := by decide +kernel
theorem dX12_tryPlan_13 : decode cX12_tryPlan 13 = .ok (.aload_n 0, 1) := by decide +kernel
theorem dX12_tryPlan_14 : decode cX12_tryPlan 14 = .ok (.getfield 245, 3) := by decide +kernel
theorem dX12_tryPlan_17 : decode cX12_tryPlan 17 = .ok (.aload_n 0, 1) := by decide +kernel
theorem dX12_tryPlan_18 : decode cX12_tryPlan 18 = .ok (.getfield 245, 3) := by decide +kernel
theorem dX12_tryPlan_21 : decode cX12_tryPlan 21 = .ok (.imul, 1) := by decide +kernel
theorem dX12_tryPlan_22 : decode cX12_tryPlan 22 = .ok (.if_icmp .ge 100, 3) := by decide +kernel
theorem dX12_tryPlan_25 : decode cX12_tryPlan 25 = .ok (.iload_n 2, 1) := by decide +kernel
theorem dX12_tryPlan_26 : decode cX12_tryPlan 26 = .ok (.ifCond .le 96, 3) := by decide +kernel
theorem dX12_tryPlan_29 : decode cX12_tryPlan 29 = .ok (.aload_n 0, 1) := by decide +kernel
theorem dX12_tryPlan_30 : decode cX12_tryPlan 30 = .ok (.iload 6, 2) := by decide +kernel
theorem dX12_tryPlan_32 : decode cX12_tryPlan 32 = .ok (.aload_n 0, 1) := by decide +kernel
theorem dX12_tryPlan_33 : decode cX12_tryPlan 33 = .ok (.getfield 245, 3) := by decide +kernel
theorem dX12_tryPlan_36 : decode cX12_tryPlan 36 = .ok (.idiv, 1) := by decide +kernel
theorem dX12_tryPlan_37 : decode cX12_tryPlan 37 = .ok (.iload 6, 2) := by decide +kernel
theorem dX12_tryPlan_39 : decode cX12_tryPlan 39 = .ok (.aload_n 0, 1) := by decide +kernel
theorem dX12_tryPlan_40 : decode cX12_tryPlan 40 = .ok (.getfield 245, 3) := by decide +kernel
theorem dX12_tryPlan_43 : decode cX12_tryPlan 43 = .ok (.irem, 1) := by decide +kernel
theorem dX12_tryPlan_44 : decode cX12_tryPlan 44 = .ok (.invokevirtual 309, 3) := by decide +kernel
theorem dX12_tryPlan_47 : decode cX12_tryPlan 47 = .ok (.ifCond .eq 69, 3) := by decide +kernel
theorem dX12_tryPlan_50 : decode cX12_tryPlan 50 = .ok (.iconst 0, 1) := by decide +kernel
theorem dX12_tryPlan_51 : decode cX12_tryPlan 51 = .ok (.istore 5, 2) := by decide +kernel
theorem dX12_tryPlan_53 : decode cX12_tryPlan 53 = .ok (.aload_n 0, 1) := by decide +kernel
theorem dX12_tryPlan_54 : decode cX12_tryPlan 54 = .ok (.iload 6, 2) := by decide +kernel
theorem dX12_tryPlan_56 : decode cX12_tryPlan 56 = .ok (.aload_n 0, 1) := by decide +kernel
theorem dX12_tryPlan_57 : decode cX12_tryPlan 57 = .ok (.getfield 245, 3) := by decide +kernel
theorem dX12_tryPlan_60 : decode cX12_tryPlan 60 = .ok (.idiv, 1) := by decide +kernel
theorem dX12_tryPlan_61 : decode cX12_tryPlan 61 = .ok (.iload 6, 2) := by decide +kernel
theorem dX12_tryPlan_63 : decode cX12_tryPlan 63 = .ok (.aload_n 0, 1) := by decide +kernel
theorem dX12_tryPlan_64 : decode cX12_tryPlan 64 = .ok (.getfield 245, 3) := by decide +kernel
theorem dX12_tryPlan_67 : decode cX12_tryPlan 67 = .ok (.irem, 1) := by decide +kernel
theorem dX12_tryPlan_68 : decode cX12_tryPlan 68 = .ok (.invokevirtual 318, 3) := by decide +kernel
theorem dX12_tryPlan_71 : decode cX12_tryPlan 71 = .ok (.istore 7, 2) := by decide +kernel
theorem dX12_tryPlan_73 : decode cX12_tryPlan 73 = .ok (.aload_n 0, 1) := by decide +kernel
theorem dX12_tryPlan_74 : decode cX12_tryPlan 74 = .ok (.iload_n 1, 1) := by decide +kernel
theorem dX12_tryPlan_75 : decode cX12_tryPlan 75 = .ok (.iconst 1, 1) := by decide +kernel
theorem dX12_tryPlan_76 : decode cX12_tryPlan 76 = .ok (.iadd, 1) := by decide +kernel
theorem dX12_tryPlan_77 : decode cX12_tryPlan 77 = .ok (.iload_n 2, 1) := by decide +kernel
theorem dX12_tryPlan_78 : decode cX12_tryPlan 78 = .ok (.iconst 1, 1) := by decide +kernel
theorem dX12_tryPlan_79 : decode cX12_tryPlan 79 = .ok (.isub, 1) := by decide +kernel
theorem dX12_tryPlan_80 : decode cX12_tryPlan 80 = .ok (.bipush 100, 2) := by decide +kernel
theorem dX12_tryPlan_82 : decode cX12_tryPlan 82 = .ok (.iload_n 3, 1) := by decide +kernel
theorem dX12_tryPlan_83 : decode cX12_tryPlan 83 = .ok (.imul, 1) := by decide +kernel
theorem dX12_tryPlan_84 : decode cX12_tryPlan 84 = .ok (.bipush 10, 2) := by decide +kernel
theorem dX12_tryPlan_86 : decode cX12_tryPlan 86 = .ok (.iload 6, 2) := by decide +kernel
theorem dX12_tryPlan_88 : decode cX12_tryPlan 88 = .ok (.aload_n 0, 1) := by decide +kernel
theorem dX12_tryPlan_89 : decode cX12_tryPlan 89 = .ok (.getfield 245, 3) := by decide +kernel
theorem dX12_tryPlan_92 : decode cX12_tryPlan 92 = .ok (.idiv, 1) := by decide +kernel
theorem dX12_tryPlan_93 : decode cX12_tryPlan 93 = .ok (.imul, 1) := by decide +kernel
theorem dX12_tryPlan_94 : decode cX12_tryPlan 94 = .ok (.iadd, 1) := by decide +kernel
theorem dX12_tryPlan_95 : decode cX12_tryPlan 95 = .ok (.iload 6, 2) := by decide +kernel
theorem dX12_tryPlan_97 : decode cX12_tryPlan 97 = .ok (.aload_n 0, 1) := by decide +kernel
theorem dX12_tryPlan_98 : decode cX12_tryPlan 98 = .ok (.getfield 245, 3) := by decide +kernel
theorem dX12_tryPlan_101 : decode cX12_tryPlan 101 = .ok (.irem, 1) := by decide +kernel
theorem dX12_tryPlan_102 : decode cX12_tryPlan 102 = .ok (.iadd, 1) := by decide +kernel
theorem dX12_tryPlan_103 : decode cX12_tryPlan 103 = .ok (.iload 4, 2) := by decide +kernel
theorem dX12_tryPlan_105 : decode cX12_tryPlan 105 = .ok (.iload 7, 2) := by decide +kernel
theorem dX12_tryPlan_107 : decode cX12_tryPlan 107 = .ok (.iadd, 1) := by decide +kernel
theorem dX12_tryPlan_108 : decode cX12_tryPlan 108 = .ok (.invokevirtual 381, 3) := by decide +kernel
theorem dX12_tryPlan_111 : decode cX12_tryPlan 111 = .ok (.aload_n 0, 1) := by decide +kernel
theorem dX12_tryPlan_112 : decode cX12_tryPlan 112 = .ok (.iload_n 1, 1) := by decide +kernel
theorem dX12_tryPlan_113 : decode cX12_tryPlan 113 = .ok (.invokevirtual 385, 3) := by decide +kernel
theorem dX12_tryPlan_116 : decode cX12_tryPlan 116 = .ok (.iinc 6 1, 3) := by decide +kernel
theorem dX12_tryPlan_119 : decode cX12_tryPlan 119 = .ok (.goto (-108), 3) := by decide +kernel
theorem dX12_tryPlan_122 : decode cX12_tryPlan 122 = .ok (.iload 5, 2) := by decide +kernel
theorem dX12_tryPlan_124 : decode cX12_tryPlan 124 = .ok (.ifCond .eq 29, 3) := by decide +kernel
theorem dX12_tryPlan_127 : decode cX12_tryPlan 127 = .ok (.aload_n 0, 1) := by decide +kernel
theorem dX12_tryPlan_128 : decode cX12_tryPlan 128 = .ok (.iload 4, 2) := by decide +kernel
theorem dX12_tryPlan_130 : decode cX12_tryPlan 130 = .ok (.iload_n 3, 1) := by decide +kernel
theorem dX12_tryPlan_131 : decode cX12_tryPlan 131 = .ok (.invokevirtual 364, 3) := by decide +kernel
theorem dX12_tryPlan_134 : decode cX12_tryPlan 134 = .ok (.ifCond .eq 19, 3) := by decide +kernel
theorem dX12_tryPlan_137 : decode cX12_tryPlan 137 = .ok (.aload_n 0, 1) := by decide +kernel
theorem dX12_tryPlan_138 : decode cX12_tryPlan 138 = .ok (.iload_n 3, 1) := by decide +kernel
theorem dX12_tryPlan_139 : decode cX12_tryPlan 139 = .ok (.putfield 358, 3) := by decide +kernel
theorem dX12_tryPlan_142 : decode cX12_tryPlan 142 = .ok (.aload_n 0, 1) := by decide +kernel
theorem dX12_tryPlan_143 : decode cX12_tryPlan 143 = .ok (.iload 4, 2) := by decide +kernel
theorem dX12_tryPlan_145 : decode cX12_tryPlan 145 = .ok (.putfield 361, 3) := by decide +kernel
theorem dX12_tryPlan_148 : decode cX12_tryPlan 148 = .ok (.aload_n 0, 1) := by decide +kernel
theorem dX12_tryPlan_149 : decode cX12_tryPlan 149 = .ok (.iload_n 1, 1) := by decide +kernel
theorem dX12_tryPlan_150 : decode cX12_tryPlan 150 = .ok (.putfield 371, 3) := by decide +kernel
theorem dX12_tryPlan_153 : decode cX12_tryPlan 153 = .ok (.return_, 1) := by decide +kernel
theorem dX12_plan_0 : decode cX12_plan 0 = .ok (.aload_n 0, 1) := by decide +kernel
theorem dX12_plan_1 : decode cX12_plan 1 = .ok (.getfield 245, 3) := by decide +kernel
theorem dX12_plan_4 : decode cX12_plan 4 = .ok (.ifCond .eq 21, 3) := by decide +kernel
theorem dX12_plan_7 : decode cX12_plan 7 = .ok (.iload_n 1, 1) := by decide +kernel
theorem dX12_plan_8 : decode cX12_plan 8 = .ok (.iconst 1, 1) := by decide +kernel
theorem dX12_plan_9 : decode cX12_plan 9 = .ok (.iconst 2, 1) := by decide +kernel
theorem dX12_plan_10 : decode cX12_plan 10 = .ok (.invokestatic 208, 3) := by decide +kernel
theorem dX12_plan_13 : decode cX12_plan 13 = .ok (.ifCond .eq 12, 3) := by decide +kernel
theorem dX12_plan_16 : decode cX12_plan 16 = .ok (.iload_n 2, 1) := by decide +kernel
theorem dX12_plan_17 : decode cX12_plan 17 = .ok (.iconst 0, 1) := by decide +kernel
theorem dX12_plan_18 : decode cX12_plan 18 = .ok (.iconst 1, 1) := by decide +kernel
theorem dX12_plan_19 : decode cX12_plan 19 = .ok (.invokestatic 208, 3) := by decide +kernel
theorem dX12_plan_22 : decode cX12_plan 22 = .ok (.ifCond .ne 5, 3) := by decide +kernel
theorem dX12_plan_25 : decode cX12_plan 25 = .ok (.iconst (-1), 1) := by decide +kernel
theorem dX12_plan_26 : decode cX12_plan 26 = .ok (.ireturn, 1) := by decide +kernel
theorem dX12_plan_27 : decode cX12_plan 27 = .ok (.aload_n 0, 1) := by decide +kernel
theorem dX12_plan_28 : decode cX12_plan 28 = .ok (.iconst (-1), 1) := by decide +kernel
theorem dX12_plan_29 : decode cX12_plan 29 = .ok (.putfield 358, 3) := by decide +kernel
theorem dX12_plan_32 : decode cX12_plan 32 = .ok (.aload_n 0, 1) := by decide +kernel
theorem dX12_plan_33 : decode cX12_plan 33 = .ok (.iconst 0, 1) := by decide +kernel
theorem dX12_plan_34 : decode cX12_plan 34 = .ok (.iload_n 1, 1) := by decide +kernel
theorem dX12_plan_35 : decode cX12_plan 35 = .ok (.iconst 0, 1) := by decide +kernel
theorem dX12_plan_36 : decode cX12_plan 36 = .ok (.iconst 0, 1) := by decide +kernel
theorem dX12_plan_37 : decode cX12_plan 37 = .ok (.invokevirtual 381, 3) := by decide +kernel
theorem dX12_plan_40 : decode cX12_plan 40 = .ok (.iload_n 2, 1) := by decide +kernel
theorem dX12_plan_41 : decode cX12_plan 41 = .ok (.iconst 1, 1) := by decide +kernel
theorem dX12_plan_42 : decode cX12_plan 42 = .ok (.if_icmp .ne 10, 3) := by decide +kernel
theorem dX12_plan_45 : decode cX12_plan 45 = .ok (.aload_n 0, 1) := by decide +kernel
theorem dX12_plan_46 : decode cX12_plan 46 = .ok (.getfield 361, 3) := by decide +kernel
theorem dX12_plan_49 : decode cX12_plan 49 = .ok (.goto 18, 3) := by decide +kernel
theorem dX12_plan_52 : decode cX12_plan 52 = .ok (.aload_n 0, 1) := by decide +kernel
theorem dX12_plan_53 : decode cX12_plan 53 = .ok (.getfield 371, 3) := by decide +kernel
theorem dX12_plan_56 : decode cX12_plan 56 = .ok (.ifCond .ne 7, 3) := by decide +kernel
theorem dX12_plan_59 : decode cX12_plan 59 = .ok (.iconst (-1), 1) := by decide +kernel
theorem dX12_plan_60 : decode cX12_plan 60 = .ok (.goto 7, 3) := by decide +kernel
theorem dX12_plan_63 : decode cX12_plan 63 = .ok (.aload_n 0, 1) := by decide +kernel
theorem dX12_plan_64 : decode cX12_plan 64 = .ok (.getfield 358, 3) := by decide +kernel
theorem dX12_plan_67 : decode cX12_plan 67 = .ok (.ireturn, 1) := by decide +kernel
theorem dX12_tryLay_0 : decode cX12_tryLay 0 = .ok (.iload_n 2, 1) := by decide +kernel
theorem dX12_tryLay_1 : decode cX12_tryLay 1 = .ok (.aload_n 0, 1) := by decide +kernel
theorem dX12_tryLay_2 : decode cX12_tryLay 2 = .ok (.getfield 388, 3) := by decide +kernel
theorem dX12_tryLay_5 : decode cX12_tryLay 5 = .ok (.if_icmp .lt 4, 3) := by decide +kernel
theorem dX12_tryLay_8 : decode cX12_tryLay 8 = .ok (.return_, 1) := by decide +kernel
theorem dX12_tryLay_9 : decode cX12_tryLay 9 = .ok (.iload_n 1, 1) := by decide +kernel
theorem dX12_tryLay_10 : decode cX12_tryLay 10 = .ok (.aload_n 0, 1) := by decide +kernel
theorem dX12_tryLay_11 : decode cX12_tryLay 11 = .ok (.getfield 391, 3) := by decide +kernel
theorem dX12_tryLay_14 : decode cX12_tryLay 14 = .ok (.if_icmp .ne 9, 3) := by decide +kernel
theorem dX12_tryLay_17 : decode cX12_tryLay 17 = .ok (.aload_n 0, 1) := by decide +kernel
theorem dX12_tryLay_18 : decode cX12_tryLay 18 = .ok (.iload_n 2, 1) := by decide +kernel
theorem dX12_tryLay_19 : decode cX12_tryLay 19 = .ok (.putfield 388, 3) := by decide +kernel
theorem dX12_tryLay_22 : decode cX12_tryLay 22 = .ok (.return_, 1) := by decide +kernel
theorem dX12_tryLay_23 : decode cX12_tryLay 23 = .ok (.iconst 0, 1) := by decide +kernel
theorem dX12_tryLay_24 : decode cX12_tryLay 24 = .ok (.istore 4, 2) := by decide +kernel
theorem dX12_tryLay_26 : decode cX12_tryLay 26 = .ok (.iload 4, 2) := by decide +kernel
theorem dX12_tryLay_28 : decode cX12_tryLay 28 = .ok (.iload_n 2, 1) := by decide +kernel
theorem dX12_tryLay_29 : decode cX12_tryLay 29 = .ok (.if_icmp .gt 80, 3) := by decide +kernel
theorem dX12_tryLay_32 : decode cX12_tryLay 32 = .ok (.aload_n 0, 1) := by decide +kernel
theorem dX12_tryLay_33 : decode cX12_tryLay 33 = .ok (.getfield 77, 3) := by decide +kernel
theorem dX12_tryLay_36 : decode cX12_tryLay 36 = .ok (.iload 4, 2) := by decide +kernel
theorem dX12_tryLay_38 : decode cX12_tryLay 38 = .ok (.iaload, 1) := by decide +kernel
theorem dX12_tryLay_39 : decode cX12_tryLay 39 = .ok (.aload_n 0, 1) := by decide +kernel
theorem dX12_tryLay_40 : decode cX12_tryLay 40 = .ok (.getfield 74, 3) := by decide +kernel
theorem dX12_tryLay_43 : decode cX12_tryLay 43 = .ok (.iload_n 1, 1) := by decide +kernel
theorem dX12_tryLay_44 : decode cX12_tryLay 44 = .ok (.iaload, 1) := by decide +kernel
theorem dX12_tryLay_45 : decode cX12_tryLay 45 = .ok (.iadd, 1) := by decide +kernel
theorem dX12_tryLay_46 : decode cX12_tryLay 46 = .ok (.iload_n 3, 1) := by decide +kernel
theorem dX12_tryLay_47 : decode cX12_tryLay 47 = .ok (.if_icmp .gt 56, 3) := by decide +kernel
theorem dX12_tryLay_50 : decode cX12_tryLay 50 = .ok (.aload_n 0, 1) := by decide +kernel
theorem dX12_tryLay_51 : decode cX12_tryLay 51 = .ok (.getfield 77, 3) := by decide +kernel
theorem dX12_tryLay_54 : decode cX12_tryLay 54 = .ok (.iload 4, 2) := by decide +kernel
theorem dX12_tryLay_56 : decode cX12_tryLay 56 = .ok (.dup2, 1) := by decide +kernel
theorem dX12_tryLay_57 : decode cX12_tryLay 57 = .ok (.iaload, 1) := by decide +kernel
theorem dX12_tryLay_58 : decode cX12_tryLay 58 = .ok (.aload_n 0, 1) := by decide +kernel
theorem dX12_tryLay_59 : decode cX12_tryLay 59 = .ok (.getfield 74, 3) := by decide +kernel
theorem dX12_tryLay_62 : decode cX12_tryLay 62 = .ok (.iload_n 1, 1) := by decide +kernel
theorem dX12_tryLay_63 : decode cX12_tryLay 63 = .ok (.iaload, 1) := by decide +kernel
theorem dX12_tryLay_64 : decode cX12_tryLay 64 = .ok (.iadd, 1) := by decide +kernel
theorem dX12_tryLay_65 : decode cX12_tryLay 65 = .ok (.iastore, 1) := by decide +kernel
theorem dX12_tryLay_66 : decode cX12_tryLay 66 = .ok (.aload_n 0, 1) := by decide +kernel
theorem dX12_tryLay_67 : decode cX12_tryLay 67 = .ok (.iload_n 1, 1) := by decide +kernel
theorem dX12_tryLay_68 : decode cX12_tryLay 68 = .ok (.iconst 1, 1) := by decide +kernel
theorem dX12_tryLay_69 : decode cX12_tryLay 69 = .ok (.iadd, 1) := by decide +kernel
theorem dX12_tryLay_70 : decode cX12_tryLay 70 = .ok (.iload 4, 2) := by decide +kernel
theorem dX12_tryLay_72 : decode cX12_tryLay 72 = .ok (.iload_n 2, 1) := by decide +kernel
theorem dX12_tryLay_73 : decode cX12_tryLay 73 = .ok (.if_icmp .ne 9, 3) := by decide +kernel
theorem dX12_tryLay_76 : decode cX12_tryLay 76 = .ok (.iload_n 2, 1) := by decide +kernel
theorem dX12_tryLay_77 : decode cX12_tryLay 77 = .ok (.iconst 1, 1) := by decide +kernel
theorem dX12_tryLay_78 : decode cX12_tryLay 78 = .ok (.iadd, 1) := by decide +kernel
theorem dX12_tryLay_79 : decode cX12_tryLay 79 = .ok (.goto 4, 3) := by decide +kernel
theorem dX12_tryLay_82 : decode cX12_tryLay 82 = .ok (.iload_n 2, 1) := by decide +kernel
theorem dX12_tryLay_83 : decode cX12_tryLay 83 = .ok (.iload_n 3, 1) := by decide +kernel
theorem dX12_tryLay_84 : decode cX12_tryLay 84 = .ok (.invokevirtual 394, 3) := by decide +kernel
theorem dX12_tryLay_87 : decode cX12_tryLay 87 = .ok (.aload_n 0, 1) := by decide +kernel
theorem dX12_tryLay_88 : decode cX12_tryLay 88 = .ok (.getfield 77, 3) := by decide +kernel
theorem dX12_tryLay_91 : decode cX12_tryLay 91 = .ok (.iload 4, 2) := by decide +kernel
theorem dX12_tryLay_93 : decode cX12_tryLay 93 = .ok (.dup2, 1) := by decide +kernel
theorem dX12_tryLay_94 : decode cX12_tryLay 94 = .ok (.iaload, 1) := by decide +kernel
theorem dX12_tryLay_95 : decode cX12_tryLay 95 = .ok (.aload_n 0, 1) := by decide +kernel
theorem dX12_tryLay_96 : decode cX12_tryLay 96 = .ok (.getfield 74, 3) := by decide +kernel
theorem dX12_tryLay_99 : decode cX12_tryLay 99 = .ok (.iload_n 1, 1) := by decide +kernel
theorem dX12_tryLay_100 : decode cX12_tryLay 100 = .ok (.iaload, 1) := by decide +kernel
theorem dX12_tryLay_101 : decode cX12_tryLay 101 = .ok (.isub, 1) := by decide +kernel
theorem dX12_tryLay_102 : decode cX12_tryLay 102 = .ok (.iastore, 1) := by decide +kernel
theorem dX12_tryLay_103 : decode cX12_tryLay 103 = .ok (.iinc 4 1, 3) := by decide +kernel
theorem dX12_tryLay_106 : decode cX12_tryLay 106 = .ok (.goto (-80), 3) := by decide +kernel
theorem dX12_tryLay_109 : decode cX12_tryLay 109 = .ok (.return_, 1) := by decide +kernel
theorem dX12_blankets_0 : decode cX12_blankets 0 = .ok (.aload_n 0, 1) := by decide +kernel
theorem dX12_blankets_1 : decode cX12_blankets 1 = .ok (.getfield 245, 3) := by decide +kernel
theorem dX12_blankets_4 : decode cX12_blankets 4 = .ok (.ifCond .eq 14, 3) := by decide +kernel
theorem dX12_blankets_7 : decode cX12_blankets 7 = .ok (.iload_n 1, 1) := by decide +kernel
theorem dX12_blankets_8 : decode cX12_blankets 8 = .ok (.iconst 1, 1) := by decide +kernel
theorem dX12_blankets_9 : decode cX12_blankets 9 = .ok (.sipush 140, 3) := by decide +kernel
theorem dX12_blankets_12 : decode cX12_blankets 12 = .ok (.invokestatic 208, 3) := by decide +kernel
theorem dX12_blankets_15 : decode cX12_blankets 15 = .ok (.ifCond .ne 5, 3) := by decide +kernel
theorem dX12_blankets_18 : decode cX12_blankets 18 = .ok (.iconst (-1), 1) := by decide +kernel
theorem dX12_blankets_19 : decode cX12_blankets 19 = .ok (.ireturn, 1) := by decide +kernel
theorem dX12_blankets_20 : decode cX12_blankets 20 = .ok (.aload_n 0, 1) := by decide +kernel
theorem dX12_blankets_21 : decode cX12_blankets 21 = .ok (.iconst 0, 1) := by decide +kernel
theorem dX12_blankets_22 : decode cX12_blankets 22 = .ok (.putfield 391, 3) := by decide +kernel
theorem dX12_blankets_25 : decode cX12_blankets 25 = .ok (.iconst 1, 1) := by decide +kernel
theorem dX12_blankets_26 : decode cX12_blankets 26 = .ok (.istore_n 2, 1) := by decide +kernel
theorem dX12_blankets_27 : decode cX12_blankets 27 = .ok (.iconst 0, 1) := by decide +kernel
theorem dX12_blankets_28 : decode cX12_blankets 28 = .ok (.istore_n 3, 1) := by decide +kernel
theorem dX12_blankets_29 : decode cX12_blankets 29 = .ok (.iload_n 3, 1) := by decide +kernel
theorem dX12_blankets_30 : decode cX12_blankets 30 = .ok (.aload_n 0, 1) := by decide +kernel
theorem dX12_blankets_31 : decode cX12_blankets 31 = .ok (.getfield 245, 3) := by decide +kernel
theorem dX12_blankets_34 : decode cX12_blankets 34 = .ok (.if_icmp .ge 77, 3) := by decide +kernel
theorem dX12_blankets_37 : decode cX12_blankets 37 = .ok (.aload_n 0, 1) := by decide +kernel
theorem dX12_blankets_38 : decode cX12_blankets 38 = .ok (.iload_n 3, 1) := by decide +kernel
theorem dX12_blankets_39 : decode cX12_blankets 39 = .ok (.invokevirtual 267, 3) := by decide +kernel
theorem dX12_blankets_42 : decode cX12_blankets 42 = .ok (.ifCond .ne 63, 3) := by decide +kernel
theorem dX12_blankets_45 : decode cX12_blankets 45 = .ok (.aload_n 0, 1) := by decide +kernel
theorem dX12_blankets_46 : decode cX12_blankets 46 = .ok (.getfield 52, 3) := by decide +kernel
theorem dX12_blankets_49 : decode cX12_blankets 49 = .ok (.bipush 21, 2) := by decide +kernel
theorem dX12_blankets_51 : decode cX12_blankets 51 = .ok (.iload_n 3, 1) := by decide +kernel
theorem dX12_blankets_52 : decode cX12_blankets 52 = .ok (.iadd, 1) := by decide +kernel
theorem dX12_blankets_53 : decode cX12_blankets 53 = .ok (.iaload, 1) := by decide +kernel
theorem dX12_blankets_54 : decode cX12_blankets 54 = .ok (.iconst (-1), 1) := by decide +kernel
theorem dX12_blankets_55 : decode cX12_blankets 55 = .ok (.if_icmp .ne 50, 3) := by decide +kernel
theorem dX12_blankets_58 : decode cX12_blankets 58 = .ok (.aload_n 0, 1) := by decide +kernel
theorem dX12_blankets_59 : decode cX12_blankets 59 = .ok (.getfield 74, 3) := by decide +kernel
theorem dX12_blankets_62 : decode cX12_blankets 62 = .ok (.aload_n 0, 1) := by decide +kernel
theorem dX12_blankets_63 : decode cX12_blankets 63 = .ok (.getfield 391, 3) := by decide +kernel
theorem dX12_blankets_66 : decode cX12_blankets 66 = .ok (.aload_n 0, 1) := by decide +kernel
theorem dX12_blankets_67 : decode cX12_blankets 67 = .ok (.iload_n 3, 1) := by decide +kernel
theorem dX12_blankets_68 : decode cX12_blankets 68 = .ok (.invokevirtual 303, 3) := by decide +kernel
theorem dX12_blankets_71 : decode cX12_blankets 71 = .ok (.iastore, 1) := by decide +kernel
theorem dX12_blankets_72 : decode cX12_blankets 72 = .ok (.iload_n 2, 1) := by decide +kernel
theorem dX12_blankets_73 : decode cX12_blankets 73 = .ok (.ifCond .eq 20, 3) := by decide +kernel
theorem dX12_blankets_76 : decode cX12_blankets 76 = .ok (.aload_n 0, 1) := by decide +kernel
theorem dX12_blankets_77 : decode cX12_blankets 77 = .ok (.getfield 74, 3) := by decide +kernel
theorem dX12_blankets_80 : decode cX12_blankets 80 = .ok (.aload_n 0, 1) := by decide +kernel
theorem dX12_blankets_81 : decode cX12_blankets 81 = .ok (.getfield 391, 3) := by decide +kernel
theorem dX12_blankets_84 : decode cX12_blankets 84 = .ok (.iaload, 1) := by decide +kernel
theorem dX12_blankets_85 : decode cX12_blankets 85 = .ok (.iload_n 1, 1) := by decide +kernel
theorem dX12_blankets_86 : decode cX12_blankets 86 = .ok (.if_icmp .gt 7, 3) := by decide +kernel
theorem dX12_blankets_89 : decode cX12_blankets 89 = .ok (.iconst 1, 1) := by decide +kernel
theorem dX12_blankets_90 : decode cX12_blankets 90 = .ok (.goto 4, 3) := by decide +kernel
theorem dX12_blankets_93 : decode cX12_blankets 93 = .ok (.iconst 0, 1) := by decide +kernel
theorem dX12_blankets_94 : decode cX12_blankets 94 = .ok (.istore_n 2, 1) := by decide +kernel
theorem dX12_blankets_95 : decode cX12_blankets 95 = .ok (.aload_n 0, 1) := by decide +kernel
theorem dX12_blankets_96 : decode cX12_blankets 96 = .ok (.dup, 1) := by decide +kernel
theorem dX12_blankets_97 : decode cX12_blankets 97 = .ok (.getfield 391, 3) := by decide +kernel
theorem dX12_blankets_100 : decode cX12_blankets 100 = .ok (.iconst 1, 1) := by decide +kernel
theorem dX12_blankets_101 : decode cX12_blankets 101 = .ok (.iadd, 1) := by decide +kernel
theorem dX12_blankets_102 : decode cX12_blankets 102 = .ok (.putfield 391, 3) := by decide +kernel
theorem dX12_blankets_105 : decode cX12_blankets 105 = .ok (.iinc 3 1, 3) := by decide +kernel
theorem dX12_blankets_108 : decode cX12_blankets 108 = .ok (.goto (-79), 3) := by decide +kernel
theorem dX12_blankets_111 : decode cX12_blankets 111 = .ok (.iconst 0, 1) := by decide +kernel
theorem dX12_blankets_112 : decode cX12_blankets 112 = .ok (.istore_n 3, 1) := by decide +kernel
theorem dX12_blankets_113 : decode cX12_blankets 113 = .ok (.iload_n 3, 1) := by decide +kernel
theorem dX12_blankets_114 : decode cX12_blankets 114 = .ok (.bipush 7, 2) := by decide +kernel
theorem dX12_blankets_116 : decode cX12_blankets 116 = .ok (.if_icmp .ge 16, 3) := by decide +kernel
theorem dX12_blankets_119 : decode cX12_blankets 119 = .ok (.aload_n 0, 1) := by decide +kernel
theorem dX12_blankets_120 : decode cX12_blankets 120 = .ok (.getfield 77, 3) := by decide +kernel
theorem dX12_blankets_123 : decode cX12_blankets 123 = .ok (.iload_n 3, 1) := by decide +kernel
theorem dX12_blankets_124 : decode cX12_blankets 124 = .ok (.iconst 0, 1) := by decide +kernel
theorem dX12_blankets_125 : decode cX12_blankets 125 = .ok (.iastore, 1) := by decide +kernel
theorem dX12_blankets_126 : decode cX12_blankets 126 = .ok (.iinc 3 1, 3) := by decide +kernel
theorem dX12_blankets_129 : decode cX12_blankets 129 = .ok (.goto (-16), 3) := by decide +kernel
theorem dX12_blankets_132 : decode cX12_blankets 132 = .ok (.aload_n 0, 1) := by decide +kernel
theorem dX12_blankets_133 : decode cX12_blankets 133 = .ok (.bipush 8, 2) := by decide +kernel
theorem dX12_blankets_135 : decode cX12_blankets 135 = .ok (.putfield 388, 3) := by decide +kernel
theorem dX12_blankets_138 : decode cX12_blankets 138 = .ok (.iload_n 2, 1) := by decide +kernel
theorem dX12_blankets_139 : decode cX12_blankets 139 = .ok (.ifCond .eq 10, 3) := by decide +kernel
theorem dX12_blankets_142 : decode cX12_blankets 142 = .ok (.aload_n 0, 1) := by decide +kernel
theorem dX12_blankets_143 : decode cX12_blankets 143 = .ok (.iconst 0, 1) := by decide +kernel
theorem dX12_blankets_144 : decode cX12_blankets 144 = .ok (.iconst 0, 1) := by decide +kernel
theorem dX12_blankets_145 : decode cX12_blankets 145 = .ok (.iload_n 1, 1) := by decide +kernel
theorem dX12_blankets_146 : decode cX12_blankets 146 = .ok (.invokevirtual 394, 3) := by decide +kernel
theorem dX12_blankets_149 : decode cX12_blankets 149 = .ok (.iload_n 2, 1) := by decide +kernel
theorem dX12_blankets_150 : decode cX12_blankets 150 = .ok (.ifCond .eq 10, 3) := by decide +kernel
theorem dX12_blankets_153 : decode cX12_blankets 153 = .ok (.aload_n 0, 1) := by decide +kernel
theorem dX12_blankets_154 : decode cX12_blankets 154 = .ok (.getfield 388, 3) := by decide +kernel
theorem dX12_blankets_157 : decode cX12_blankets 157 = .ok (.goto 4, 3) := by decide +kernel
theorem dX12_blankets_160 : decode cX12_blankets 160 = .ok (.iconst (-1), 1) := by decide +kernel
theorem dX12_blankets_161 : decode cX12_blankets 161 = .ok (.ireturn, 1) := by decide +kernel
theorem dX12_seen_0 : decode cX12_seen 0 = .ok (.aload_n 0, 1) := by decide +kernel
theorem dX12_seen_1 : decode cX12_seen 1 = .ok (.iload_n 1, 1) := by decide +kernel
theorem dX12_seen_2 : decode cX12_seen 2 = .ok (.iload_n 2, 1) := by decide +kernel
theorem dX12_seen_3 : decode cX12_seen 3 = .ok (.invokevirtual 352, 3) := by decide +kernel
theorem dX12_seen_6 : decode cX12_seen 6 = .ok (.ifCond .eq 12, 3) := by decide +kernel
theorem dX12_seen_9 : decode cX12_seen 9 = .ok (.aload_n 0, 1) := by decide +kernel
theorem dX12_seen_10 : decode cX12_seen 10 = .ok (.getfield 251, 3) := by decide +kernel
theorem dX12_seen_13 : decode cX12_seen 13 = .ok (.bipush 10, 2) := by decide +kernel
theorem dX12_seen_15 : decode cX12_seen 15 = .ok (.if_icmp .ne 5, 3) := by decide +kernel
theorem dX12_seen_18 : decode cX12_seen 18 = .ok (.iconst (-1), 1) := by decide +kernel
theorem dX12_seen_19 : decode cX12_seen 19 = .ok (.ireturn, 1) := by decide +kernel
theorem dX12_seen_20 : decode cX12_seen 20 = .ok (.aload_n 0, 1) := by decide +kernel
theorem dX12_seen_21 : decode cX12_seen 21 = .ok (.getfield 80, 3) := by decide +kernel
theorem dX12_seen_24 : decode cX12_seen 24 = .ok (.aload_n 0, 1) := by decide +kernel
theorem dX12_seen_25 : decode cX12_seen 25 = .ok (.getfield 251, 3) := by decide +kernel
theorem dX12_seen_28 : decode cX12_seen 28 = .ok (.iload_n 1, 1) := by decide +kernel
theorem dX12_seen_29 : decode cX12_seen 29 = .ok (.iastore, 1) := by decide +kernel
theorem dX12_seen_30 : decode cX12_seen 30 = .ok (.aload_n 0, 1) := by decide +kernel
theorem dX12_seen_31 : decode cX12_seen 31 = .ok (.getfield 83, 3) := by decide +kernel
theorem dX12_seen_34 : decode cX12_seen 34 = .ok (.aload_n 0, 1) := by decide +kernel
theorem dX12_seen_35 : decode cX12_seen 35 = .ok (.getfield 251, 3) := by decide +kernel
theorem dX12_seen_38 : decode cX12_seen 38 = .ok (.iload_n 2, 1) := by decide +kernel
theorem dX12_seen_39 : decode cX12_seen 39 = .ok (.iastore, 1) := by decide +kernel
theorem dX12_seen_40 : decode cX12_seen 40 = .ok (.aload_n 0, 1) := by decide +kernel
theorem dX12_seen_41 : decode cX12_seen 41 = .ok (.getfield 86, 3) := by decide +kernel
theorem dX12_seen_44 : decode cX12_seen 44 = .ok (.aload_n 0, 1) := by decide +kernel
theorem dX12_seen_45 : decode cX12_seen 45 = .ok (.getfield 251, 3) := by decide +kernel
theorem dX12_seen_48 : decode cX12_seen 48 = .ok (.iload_n 3, 1) := by decide +kernel
theorem dX12_seen_49 : decode cX12_seen 49 = .ok (.bastore, 1) := by decide +kernel
theorem dX12_seen_50 : decode cX12_seen 50 = .ok (.aload_n 0, 1) := by decide +kernel
theorem dX12_seen_51 : decode cX12_seen 51 = .ok (.dup, 1) := by decide +kernel
theorem dX12_seen_52 : decode cX12_seen 52 = .ok (.getfield 251, 3) := by decide +kernel
theorem dX12_seen_55 : decode cX12_seen 55 = .ok (.iconst 1, 1) := by decide +kernel
theorem dX12_seen_56 : decode cX12_seen 56 = .ok (.iadd, 1) := by decide +kernel
theorem dX12_seen_57 : decode cX12_seen 57 = .ok (.putfield 251, 3) := by decide +kernel
theorem dX12_seen_60 : decode cX12_seen 60 = .ok (.aload_n 0, 1) := by decide +kernel
theorem dX12_seen_61 : decode cX12_seen 61 = .ok (.getfield 251, 3) := by decide +kernel
theorem dX12_seen_64 : decode cX12_seen 64 = .ok (.ireturn, 1) := by decide +kernel
theorem dX12_goesTold_0 : decode cX12_goesTold 0 = .ok (.aload_n 0, 1) := by decide +kernel
theorem dX12_goesTold_1 : decode cX12_goesTold 1 = .ok (.aload_n 0, 1) := by decide +kernel
theorem dX12_goesTold_2 : decode cX12_goesTold 2 = .ok (.iload_n 1, 1) := by decide +kernel
theorem dX12_goesTold_3 : decode cX12_goesTold 3 = .ok (.iconst 0, 1) := by decide +kernel
theorem dX12_goesTold_4 : decode cX12_goesTold 4 = .ok (.invokevirtual 248, 3) := by decide +kernel
theorem dX12_goesTold_7 : decode cX12_goesTold 7 = .ok (.aload_n 0, 1) := by decide +kernel
theorem dX12_goesTold_8 : decode cX12_goesTold 8 = .ok (.iload_n 2, 1) := by decide +kernel
theorem dX12_goesTold_9 : decode cX12_goesTold 9 = .ok (.iconst 0, 1) := by decide +kernel
theorem dX12_goesTold_10 : decode cX12_goesTold 10 = .ok (.invokevirtual 248, 3) := by decide +kernel
theorem dX12_goesTold_13 : decode cX12_goesTold 13 = .ok (.isub, 1) := by decide +kernel
theorem dX12_goesTold_14 : decode cX12_goesTold 14 = .ok (.invokestatic 279, 3) := by decide +kernel
theorem dX12_goesTold_17 : decode cX12_goesTold 17 = .ok (.iload_n 3, 1) := by decide +kernel
theorem dX12_goesTold_18 : decode cX12_goesTold 18 = .ok (.iload 4, 2) := by decide +kernel
theorem dX12_goesTold_20 : decode cX12_goesTold 20 = .ok (.isub, 1) := by decide +kernel
theorem dX12_goesTold_21 : decode cX12_goesTold 21 = .ok (.invokestatic 279, 3) := by decide +kernel
theorem dX12_goesTold_24 : decode cX12_goesTold 24 = .ok (.aload_n 0, 1) := by decide +kernel
theorem dX12_goesTold_25 : decode cX12_goesTold 25 = .ok (.iload_n 1, 1) := by decide +kernel
theorem dX12_goesTold_26 : decode cX12_goesTold 26 = .ok (.iconst 2, 1) := by decide +kernel
theorem dX12_goesTold_27 : decode cX12_goesTold 27 = .ok (.invokevirtual 248, 3) := by decide +kernel
theorem dX12_goesTold_30 : decode cX12_goesTold 30 = .ok (.aload_n 0, 1) := by decide +kernel
theorem dX12_goesTold_31 : decode cX12_goesTold 31 = .ok (.iload_n 2, 1) := by decide +kernel
theorem dX12_goesTold_32 : decode cX12_goesTold 32 = .ok (.iconst 2, 1) := by decide +kernel
theorem dX12_goesTold_33 : decode cX12_goesTold 33 = .ok (.invokevirtual 248, 3) := by decide +kernel
theorem dX12_goesTold_36 : decode cX12_goesTold 36 = .ok (.iadd, 1) := by decide +kernel
theorem dX12_goesTold_37 : decode cX12_goesTold 37 = .ok (.iconst 1, 1) := by decide +kernel
theorem dX12_goesTold_38 : decode cX12_goesTold 38 = .ok (.iconst 0, 1) := by decide +kernel
theorem dX12_goesTold_39 : decode cX12_goesTold 39 = .ok (.invokevirtual 282, 3) := by decide +kernel
theorem dX12_goesTold_42 : decode cX12_goesTold 42 = .ok (.ireturn, 1) := by decide +kernel
theorem dX12_isPly_0 : decode cX12_isPly 0 = .ok (.iconst 0, 1) := by decide +kernel
theorem dX12_isPly_1 : decode cX12_isPly 1 = .ok (.istore_n 3, 1) := by decide +kernel
theorem dX12_isPly_2 : decode cX12_isPly 2 = .ok (.iload_n 3, 1) := by decide +kernel
theorem dX12_isPly_3 : decode cX12_isPly 3 = .ok (.aload_n 0, 1) := by decide +kernel
theorem dX12_isPly_4 : decode cX12_isPly 4 = .ok (.getfield 251, 3) := by decide +kernel
theorem dX12_isPly_7 : decode cX12_isPly 7 = .ok (.if_icmp .ge 108, 3) := by decide +kernel
theorem dX12_isPly_10 : decode cX12_isPly 10 = .ok (.aload_n 0, 1) := by decide +kernel
theorem dX12_isPly_11 : decode cX12_isPly 11 = .ok (.getfield 80, 3) := by decide +kernel
theorem dX12_isPly_14 : decode cX12_isPly 14 = .ok (.iload_n 3, 1) := by decide +kernel
theorem dX12_isPly_15 : decode cX12_isPly 15 = .ok (.iaload, 1) := by decide +kernel
theorem dX12_isPly_16 : decode cX12_isPly 16 = .ok (.iload_n 1, 1) := by decide +kernel
theorem dX12_isPly_17 : decode cX12_isPly 17 = .ok (.if_icmp .ne 7, 3) := by decide +kernel
theorem dX12_isPly_20 : decode cX12_isPly 20 = .ok (.iconst 1, 1) := by decide +kernel
theorem dX12_isPly_21 : decode cX12_isPly 21 = .ok (.goto 4, 3) := by decide +kernel
theorem dX12_isPly_24 : decode cX12_isPly 24 = .ok (.iconst 0, 1) := by decide +kernel
theorem dX12_isPly_25 : decode cX12_isPly 25 = .ok (.istore 4, 2) := by decide +kernel
theorem dX12_isPly_27 : decode cX12_isPly 27 = .ok (.iload 4, 2) := by decide +kernel
theorem dX12_isPly_29 : decode cX12_isPly 29 = .ok (.ifCond .ne 13, 3) := by decide +kernel
theorem dX12_isPly_32 : decode cX12_isPly 32 = .ok (.aload_n 0, 1) := by decide +kernel
theorem dX12_isPly_33 : decode cX12_isPly 33 = .ok (.getfield 83, 3) := by decide +kernel
theorem dX12_isPly_36 : decode cX12_isPly 36 = .ok (.iload_n 3, 1) := by decide +kernel
theorem dX12_isPly_37 : decode cX12_isPly 37 = .ok (.iaload, 1) := by decide +kernel
theorem dX12_isPly_38 : decode cX12_isPly 38 = .ok (.iload_n 1, 1) := by decide +kernel
theorem dX12_isPly_39 : decode cX12_isPly 39 = .ok (.if_icmp .ne 70, 3) := by decide +kernel
theorem dX12_isPly_42 : decode cX12_isPly 42 = .ok (.aload_n 0, 1) := by decide +kernel
theorem dX12_isPly_43 : decode cX12_isPly 43 = .ok (.aload_n 0, 1) := by decide +kernel
theorem dX12_isPly_44 : decode cX12_isPly 44 = .ok (.getfield 80, 3) := by decide +kernel
theorem dX12_isPly_47 : decode cX12_isPly 47 = .ok (.iload_n 3, 1) := by decide +kernel
theorem dX12_isPly_48 : decode cX12_isPly 48 = .ok (.iaload, 1) := by decide +kernel
theorem dX12_isPly_49 : decode cX12_isPly 49 = .ok (.aload_n 0, 1) := by decide +kernel
theorem dX12_isPly_50 : decode cX12_isPly 50 = .ok (.getfield 83, 3) := by decide +kernel
theorem dX12_isPly_53 : decode cX12_isPly 53 = .ok (.iload_n 3, 1) := by decide +kernel
theorem dX12_isPly_54 : decode cX12_isPly 54 = .ok (.iaload, 1) := by decide +kernel
theorem dX12_isPly_55 : decode cX12_isPly 55 = .ok (.iload 4, 2) := by decide +kernel
theorem dX12_isPly_57 : decode cX12_isPly 57 = .ok (.ifCond .eq 7, 3) := by decide +kernel
theorem dX12_isPly_60 : decode cX12_isPly 60 = .ok (.iload_n 2, 1) := by decide +kernel
theorem dX12_isPly_61 : decode cX12_isPly 61 = .ok (.goto 14, 3) := by decide +kernel
theorem dX12_isPly_64 : decode cX12_isPly 64 = .ok (.aload_n 0, 1) := by decide +kernel
theorem dX12_isPly_65 : decode cX12_isPly 65 = .ok (.aload_n 0, 1) := by decide +kernel
theorem dX12_isPly_66 : decode cX12_isPly 66 = .ok (.getfield 80, 3) := by decide +kernel
theorem dX12_isPly_69 : decode cX12_isPly 69 = .ok (.iload_n 3, 1) := by decide +kernel
theorem dX12_isPly_70 : decode cX12_isPly 70 = .ok (.iaload, 1) := by decide +kernel
theorem dX12_isPly_71 : decode cX12_isPly 71 = .ok (.iconst 1, 1) := by decide +kernel
theorem dX12_isPly_72 : decode cX12_isPly 72 = .ok (.invokevirtual 248, 3) := by decide +kernel
theorem dX12_isPly_75 : decode cX12_isPly 75 = .ok (.iload 4, 2) := by decide +kernel
theorem dX12_isPly_77 : decode cX12_isPly 77 = .ok (.ifCond .eq 17, 3) := by decide +kernel
theorem dX12_isPly_80 : decode cX12_isPly 80 = .ok (.aload_n 0, 1) := by decide +kernel
theorem dX12_isPly_81 : decode cX12_isPly 81 = .ok (.aload_n 0, 1) := by decide +kernel
theorem dX12_isPly_82 : decode cX12_isPly 82 = .ok (.getfield 83, 3) := by decide +kernel
theorem dX12_isPly_85 : decode cX12_isPly 85 = .ok (.iload_n 3, 1) := by decide +kernel
theorem dX12_isPly_86 : decode cX12_isPly 86 = .ok (.iaload, 1) := by decide +kernel
theorem dX12_isPly_87 : decode cX12_isPly 87 = .ok (.iconst 1, 1) := by decide +kernel
theorem dX12_isPly_88 : decode cX12_isPly 88 = .ok (.invokevirtual 248, 3) := by decide +kernel
theorem dX12_isPly_91 : decode cX12_isPly 91 = .ok (.goto 4, 3) := by decide +kernel
theorem dX12_isPly_94 : decode cX12_isPly 94 = .ok (.iload_n 2, 1) := by decide +kernel
theorem dX12_isPly_95 : decode cX12_isPly 95 = .ok (.invokevirtual 397, 3) := by decide +kernel
theorem dX12_isPly_98 : decode cX12_isPly 98 = .ok (.aload_n 0, 1) := by decide +kernel
theorem dX12_isPly_99 : decode cX12_isPly 99 = .ok (.getfield 86, 3) := by decide +kernel
theorem dX12_isPly_102 : decode cX12_isPly 102 = .ok (.iload_n 3, 1) := by decide +kernel
theorem dX12_isPly_103 : decode cX12_isPly 103 = .ok (.baload, 1) := by decide +kernel
theorem dX12_isPly_104 : decode cX12_isPly 104 = .ok (.if_icmp .eq 5, 3) := by decide +kernel
theorem dX12_isPly_107 : decode cX12_isPly 107 = .ok (.iconst 0, 1) := by decide +kernel
theorem dX12_isPly_108 : decode cX12_isPly 108 = .ok (.ireturn, 1) := by decide +kernel
theorem dX12_isPly_109 : decode cX12_isPly 109 = .ok (.iinc 3 1, 3) := by decide +kernel
theorem dX12_isPly_112 : decode cX12_isPly 112 = .ok (.goto (-110), 3) := by decide +kernel
theorem dX12_isPly_115 : decode cX12_isPly 115 = .ok (.iconst 1, 1) := by decide +kernel
theorem dX12_isPly_116 : decode cX12_isPly 116 = .ok (.ireturn, 1) := by decide +kernel
theorem dX12_plies_0 : decode cX12_plies 0 = .ok (.aload_n 0, 1) := by decide +kernel
theorem dX12_plies_1 : decode cX12_plies 1 = .ok (.iload_n 1, 1) := by decide +kernel
theorem dX12_plies_2 : decode cX12_plies 2 = .ok (.invokevirtual 306, 3) := by decide +kernel
theorem dX12_plies_5 : decode cX12_plies 5 = .ok (.ifCond .eq 8, 3) := by decide +kernel
theorem dX12_plies_8 : decode cX12_plies 8 = .ok (.iload_n 2, 1) := by decide +kernel
theorem dX12_plies_9 : decode cX12_plies 9 = .ok (.iconst (-1), 1) := by decide +kernel
theorem dX12_plies_10 : decode cX12_plies 10 = .ok (.if_icmp .ge 5, 3) := by decide +kernel
theorem dX12_plies_13 : decode cX12_plies 13 = .ok (.iconst (-1), 1) := by decide +kernel
theorem dX12_plies_14 : decode cX12_plies 14 = .ok (.ireturn, 1) := by decide +kernel
theorem dX12_plies_15 : decode cX12_plies 15 = .ok (.iconst 0, 1) := by decide +kernel
theorem dX12_plies_16 : decode cX12_plies 16 = .ok (.istore_n 3, 1) := by decide +kernel
theorem dX12_plies_17 : decode cX12_plies 17 = .ok (.iconst 1, 1) := by decide +kernel
theorem dX12_plies_18 : decode cX12_plies 18 = .ok (.istore 4, 2) := by decide +kernel
theorem dX12_plies_20 : decode cX12_plies 20 = .ok (.iload 4, 2) := by decide +kernel
theorem dX12_plies_22 : decode cX12_plies 22 = .ok (.bipush 6, 2) := by decide +kernel
theorem dX12_plies_24 : decode cX12_plies 24 = .ok (.if_icmp .gt 30, 3) := by decide +kernel
theorem dX12_plies_27 : decode cX12_plies 27 = .ok (.aload_n 0, 1) := by decide +kernel
theorem dX12_plies_28 : decode cX12_plies 28 = .ok (.iload_n 1, 1) := by decide +kernel
theorem dX12_plies_29 : decode cX12_plies 29 = .ok (.iload 4, 2) := by decide +kernel
theorem dX12_plies_31 : decode cX12_plies 31 = .ok (.invokevirtual 401, 3) := by decide +kernel
theorem dX12_plies_34 : decode cX12_plies 34 = .ok (.ifCond .eq 14, 3) := by decide +kernel
theorem dX12_plies_37 : decode cX12_plies 37 = .ok (.iload_n 3, 1) := by decide +kernel
theorem dX12_plies_38 : decode cX12_plies 38 = .ok (.iload_n 2, 1) := by decide +kernel
theorem dX12_plies_39 : decode cX12_plies 39 = .ok (.if_icmp .ne 6, 3) := by decide +kernel
theorem dX12_plies_42 : decode cX12_plies 42 = .ok (.iload 4, 2) := by decide +kernel
theorem dX12_plies_44 : decode cX12_plies 44 = .ok (.ireturn, 1) := by decide +kernel
theorem dX12_plies_45 : decode cX12_plies 45 = .ok (.iinc 3 1, 3) := by decide +kernel
theorem dX12_plies_48 : decode cX12_plies 48 = .ok (.iinc 4 1, 3) := by decide +kernel
theorem dX12_plies_51 : decode cX12_plies 51 = .ok (.goto (-31), 3) := by decide +kernel
theorem dX12_plies_54 : decode cX12_plies 54 = .ok (.iload_n 2, 1) := by decide +kernel
theorem dX12_plies_55 : decode cX12_plies 55 = .ok (.iconst (-1), 1) := by decide +kernel
theorem dX12_plies_56 : decode cX12_plies 56 = .ok (.if_icmp .ne 7, 3) := by decide +kernel
theorem dX12_plies_59 : decode cX12_plies 59 = .ok (.iload_n 3, 1) := by decide +kernel
theorem dX12_plies_60 : decode cX12_plies 60 = .ok (.goto 4, 3) := by decide +kernel
theorem dX12_plies_63 : decode cX12_plies 63 = .ok (.iconst (-1), 1) := by decide +kernel
theorem dX12_plies_64 : decode cX12_plies 64 = .ok (.ireturn, 1) := by decide +kernel
theorem dX12_ask_0 : decode cX12_ask 0 = .ok (.aload_n 0, 1) := by decide +kernel
theorem dX12_ask_1 : decode cX12_ask 1 = .ok (.iload_n 1, 1) := by decide +kernel
theorem dX12_ask_2 : decode cX12_ask 2 = .ok (.invokevirtual 306, 3) := by decide +kernel
theorem dX12_ask_5 : decode cX12_ask 5 = .ok (.ifCond .eq 13, 3) := by decide +kernel
theorem dX12_ask_8 : decode cX12_ask 8 = .ok (.aload_n 0, 1) := by decide +kernel
theorem dX12_ask_9 : decode cX12_ask 9 = .ok (.iload_n 1, 1) := by decide +kernel
theorem dX12_ask_10 : decode cX12_ask 10 = .ok (.iconst 0, 1) := by decide +kernel
theorem dX12_ask_11 : decode cX12_ask 11 = .ok (.invokevirtual 404, 3) := by decide +kernel
theorem dX12_ask_14 : decode cX12_ask 14 = .ok (.iconst (-1), 1) := by decide +kernel
theorem dX12_ask_15 : decode cX12_ask 15 = .ok (.if_icmp .ne 5, 3) := by decide +kernel
theorem dX12_ask_18 : decode cX12_ask 18 = .ok (.iconst (-1), 1) := by decide +kernel
theorem dX12_ask_19 : decode cX12_ask 19 = .ok (.ireturn, 1) := by decide +kernel
theorem dX12_ask_20 : decode cX12_ask 20 = .ok (.iconst (-1), 1) := by decide +kernel
theorem dX12_ask_21 : decode cX12_ask 21 = .ok (.istore_n 2, 1) := by decide +kernel
theorem dX12_ask_22 : decode cX12_ask 22 = .ok (.iconst 0, 1) := by decide +kernel
theorem dX12_ask_23 : decode cX12_ask 23 = .ok (.istore_n 3, 1) := by decide +kernel
theorem dX12_ask_24 : decode cX12_ask 24 = .ok (.iconst 0, 1) := by decide +kernel
theorem dX12_ask_25 : decode cX12_ask 25 = .ok (.istore 4, 2) := by decide +kernel
theorem dX12_ask_27 : decode cX12_ask 27 = .ok (.iload 4, 2) := by decide +kernel
theorem dX12_ask_29 : decode cX12_ask 29 = .ok (.aload_n 0, 1) := by decide +kernel
theorem dX12_ask_30 : decode cX12_ask 30 = .ok (.getfield 245, 3) := by decide +kernel
theorem dX12_ask_33 : decode cX12_ask 33 = .ok (.if_icmp .ge 106, 3) := by decide +kernel
theorem dX12_ask_36 : decode cX12_ask 36 = .ok (.iconst 0, 1) := by decide +kernel
theorem dX12_ask_37 : decode cX12_ask 37 = .ok (.istore 5, 2) := by decide +kernel
theorem dX12_ask_39 : decode cX12_ask 39 = .ok (.iconst 1, 1) := by decide +kernel
theorem dX12_ask_40 : decode cX12_ask 40 = .ok (.istore 6, 2) := by decide +kernel
theorem dX12_ask_42 : decode cX12_ask 42 = .ok (.iload 6, 2) := by decide +kernel
theorem dX12_ask_44 : decode cX12_ask 44 = .ok (.bipush 6, 2) := by decide +kernel
theorem dX12_ask_46 : decode cX12_ask 46 = .ok (.if_icmp .gt 58, 3) := by decide +kernel
theorem dX12_ask_49 : decode cX12_ask 49 = .ok (.iload 5, 2) := by decide +kernel
theorem dX12_ask_51 : decode cX12_ask 51 = .ok (.iload 4, 2) := by decide +kernel
theorem dX12_ask_53 : decode cX12_ask 53 = .ok (.iload_n 1, 1) := by decide +kernel
theorem dX12_ask_54 : decode cX12_ask 54 = .ok (.if_icmp .eq 13, 3) := by decide +kernel
theorem dX12_ask_57 : decode cX12_ask 57 = .ok (.aload_n 0, 1) := by decide +kernel
theorem dX12_ask_58 : decode cX12_ask 58 = .ok (.iload_n 1, 1) := by decide +kernel
theorem dX12_ask_59 : decode cX12_ask 59 = .ok (.iload 6, 2) := by decide +kernel
theorem dX12_ask_61 : decode cX12_ask 61 = .ok (.invokevirtual 401, 3) := by decide +kernel
theorem dX12_ask_64 : decode cX12_ask 64 = .ok (.ifCond .ne 7, 3) := by decide +kernel
theorem dX12_ask_67 : decode cX12_ask 67 = .ok (.iconst 0, 1) := by decide +kernel
theorem dX12_ask_68 : decode cX12_ask 68 = .ok (.goto 27, 3) := by decide +kernel
theorem dX12_ask_71 : decode cX12_ask 71 = .ok (.aload_n 0, 1) := by decide +kernel
theorem dX12_ask_72 : decode cX12_ask 72 = .ok (.iload_n 1, 1) := by decide +kernel
theorem dX12_ask_73 : decode cX12_ask 73 = .ok (.iload 4, 2) := by decide +kernel
theorem dX12_ask_75 : decode cX12_ask 75 = .ok (.iload 6, 2) := by decide +kernel
theorem dX12_ask_77 : decode cX12_ask 77 = .ok (.aload_n 0, 1) := by decide +kernel
theorem dX12_ask_78 : decode cX12_ask 78 = .ok (.iload 4, 2) := by decide +kernel
theorem dX12_ask_80 : decode cX12_ask 80 = .ok (.iconst 1, 1) := by decide +kernel
theorem dX12_ask_81 : decode cX12_ask 81 = .ok (.invokevirtual 248, 3) := by decide +kernel
theorem dX12_ask_84 : decode cX12_ask 84 = .ok (.invokevirtual 397, 3) := by decide +kernel
theorem dX12_ask_87 : decode cX12_ask 87 = .ok (.ifCond .eq 7, 3) := by decide +kernel
theorem dX12_ask_90 : decode cX12_ask 90 = .ok (.iconst 1, 1) := by decide +kernel
theorem dX12_ask_91 : decode cX12_ask 91 = .ok (.goto 4, 3) := by decide +kernel
theorem dX12_ask_94 : decode cX12_ask 94 = .ok (.iconst (-1), 1) := by decide +kernel
theorem dX12_ask_95 : decode cX12_ask 95 = .ok (.iadd, 1) := by decide +kernel
theorem dX12_ask_96 : decode cX12_ask 96 = .ok (.istore 5, 2) := by decide +kernel
theorem dX12_ask_98 : decode cX12_ask 98 = .ok (.iinc 6 1, 3) := by decide +kernel
theorem dX12_ask_101 : decode cX12_ask 101 = .ok (.goto (-59), 3) := by decide +kernel
theorem dX12_ask_104 : decode cX12_ask 104 = .ok (.iload 4, 2) := by decide +kernel
theorem dX12_ask_106 : decode cX12_ask 106 = .ok (.iload_n 1, 1) := by decide +kernel
theorem dX12_ask_107 : decode cX12_ask 107 = .ok (.if_icmp .eq 26, 3) := by decide +kernel
theorem dX12_ask_110 : decode cX12_ask 110 = .ok (.iload_n 2, 1) := by decide +kernel
theorem dX12_ask_111 : decode cX12_ask 111 = .ok (.iconst (-1), 1) := by decide +kernel
theorem dX12_ask_112 : decode cX12_ask 112 = .ok (.if_icmp .eq 12, 3) := by decide +kernel
theorem dX12_ask_115 : decode cX12_ask 115 = .ok (.iload 5, 2) := by decide +kernel
theorem dX12_ask_117 : decode cX12_ask 117 = .ok (.invokestatic 279, 3) := by decide +kernel
theorem dX12_ask_120 : decode cX12_ask 120 = .ok (.iload_n 3, 1) := by decide +kernel
theorem dX12_ask_121 : decode cX12_ask 121 = .ok (.if_icmp .ge 12, 3) := by decide +kernel
theorem dX12_ask_124 : decode cX12_ask 124 = .ok (.iload 4, 2) := by decide +kernel
theorem dX12_ask_126 : decode cX12_ask 126 = .ok (.istore_n 2, 1) := by decide +kernel
theorem dX12_ask_127 : decode cX12_ask 127 = .ok (.iload 5, 2) := by decide +kernel
theorem dX12_ask_129 : decode cX12_ask 129 = .ok (.invokestatic 279, 3) := by decide +kernel
theorem dX12_ask_132 : decode cX12_ask 132 = .ok (.istore_n 3, 1) := by decide +kernel
theorem dX12_ask_133 : decode cX12_ask 133 = .ok (.iinc 4 1, 3) := by decide +kernel
theorem dX12_ask_136 : decode cX12_ask 136 = .ok (.goto (-109), 3) := by decide +kernel
theorem dX12_ask_139 : decode cX12_ask 139 = .ok (.iload_n 2, 1) := by decide +kernel
theorem dX12_ask_140 : decode cX12_ask 140 = .ok (.ireturn, 1) := by decide +kernel
theorem dX12_gameOf_0 : decode cX12_gameOf 0 = .ok (.aload_n 0, 1) := by decide +kernel
theorem dX12_gameOf_1 : decode cX12_gameOf 1 = .ok (.getfield 52, 3) := by decide +kernel
theorem dX12_gameOf_4 : decode cX12_gameOf 4 = .ok (.iconst 0, 1) := by decide +kernel
theorem dX12_gameOf_5 : decode cX12_gameOf 5 = .ok (.iload_n 1, 1) := by decide +kernel
theorem dX12_gameOf_6 : decode cX12_gameOf 6 = .ok (.iadd, 1) := by decide +kernel
theorem dX12_gameOf_7 : decode cX12_gameOf 7 = .ok (.iaload, 1) := by decide +kernel
theorem dX12_gameOf_8 : decode cX12_gameOf 8 = .ok (.istore 5, 2) := by decide +kernel
theorem dX12_gameOf_10 : decode cX12_gameOf 10 = .ok (.aload_n 0, 1) := by decide +kernel
theorem dX12_gameOf_11 : decode cX12_gameOf 11 = .ok (.getfield 52, 3) := by decide +kernel
theorem dX12_gameOf_14 : decode cX12_gameOf 14 = .ok (.iconst 0, 1) := by decide +kernel
theorem dX12_gameOf_15 : decode cX12_gameOf 15 = .ok (.iload_n 2, 1) := by decide +kernel
theorem dX12_gameOf_16 : decode cX12_gameOf 16 = .ok (.iadd, 1) := by decide +kernel
theorem dX12_gameOf_17 : decode cX12_gameOf 17 = .ok (.iaload, 1) := by decide +kernel
theorem dX12_gameOf_18 : decode cX12_gameOf 18 = .ok (.istore 6, 2) := by decide +kernel
theorem dX12_gameOf_20 : decode cX12_gameOf 20 = .ok (.aload_n 0, 1) := by decide +kernel
theorem dX12_gameOf_21 : decode cX12_gameOf 21 = .ok (.getfield 52, 3) := by decide +kernel
theorem dX12_gameOf_24 : decode cX12_gameOf 24 = .ok (.iconst 0, 1) := by decide +kernel
theorem dX12_gameOf_25 : decode cX12_gameOf 25 = .ok (.iload_n 1, 1) := by decide +kernel
theorem dX12_gameOf_26 : decode cX12_gameOf 26 = .ok (.iadd, 1) := by decide +kernel
theorem dX12_gameOf_27 : decode cX12_gameOf 27 = .ok (.bipush 20, 2) := by decide +kernel
theorem dX12_gameOf_29 : decode cX12_gameOf 29 = .ok (.iload 5, 2) := by decide +kernel
theorem dX12_gameOf_31 : decode cX12_gameOf 31 = .ok (.iload_n 3, 1) := by decide +kernel
theorem dX12_gameOf_32 : decode cX12_gameOf 32 = .ok (.iadd, 1) := by decide +kernel
theorem dX12_gameOf_33 : decode cX12_gameOf 33 = .ok (.invokestatic 327, 3) := by decide +kernel
theorem dX12_gameOf_36 : decode cX12_gameOf 36 = .ok (.iastore, 1) := by decide +kernel
theorem dX12_gameOf_37 : decode cX12_gameOf 37 = .ok (.aload_n 0, 1) := by decide +kernel
theorem dX12_gameOf_38 : decode cX12_gameOf 38 = .ok (.getfield 52, 3) := by decide +kernel
theorem dX12_gameOf_41 : decode cX12_gameOf 41 = .ok (.iconst 0, 1) := by decide +kernel
theorem dX12_gameOf_42 : decode cX12_gameOf 42 = .ok (.iload_n 2, 1) := by decide +kernel
theorem dX12_gameOf_43 : decode cX12_gameOf 43 = .ok (.iadd, 1) := by decide +kernel
theorem dX12_gameOf_44 : decode cX12_gameOf 44 = .ok (.bipush 20, 2) := by decide +kernel
theorem dX12_gameOf_46 : decode cX12_gameOf 46 = .ok (.iload 6, 2) := by decide +kernel
theorem dX12_gameOf_48 : decode cX12_gameOf 48 = .ok (.iload 4, 2) := by decide +kernel
theorem dX12_gameOf_50 : decode cX12_gameOf 50 = .ok (.iadd, 1) := by decide +kernel
theorem dX12_gameOf_51 : decode cX12_gameOf 51 = .ok (.invokestatic 327, 3) := by decide +kernel
theorem dX12_gameOf_54 : decode cX12_gameOf 54 = .ok (.iastore, 1) := by decide +kernel
theorem dX12_gameOf_55 : decode cX12_gameOf 55 = .ok (.iconst 0, 1) := by decide +kernel
theorem dX12_gameOf_56 : decode cX12_gameOf 56 = .ok (.istore 7, 2) := by decide +kernel
theorem dX12_gameOf_58 : decode cX12_gameOf 58 = .ok (.iconst 0, 1) := by decide +kernel
theorem dX12_gameOf_59 : decode cX12_gameOf 59 = .ok (.istore 8, 2) := by decide +kernel
theorem dX12_gameOf_61 : decode cX12_gameOf 61 = .ok (.iload 8, 2) := by decide +kernel
theorem dX12_gameOf_63 : decode cX12_gameOf 63 = .ok (.aload_n 0, 1) := by decide +kernel
theorem dX12_gameOf_64 : decode cX12_gameOf 64 = .ok (.getfield 245, 3) := by decide +kernel
theorem dX12_gameOf_67 : decode cX12_gameOf 67 = .ok (.if_icmp .ge 47, 3) := by decide +kernel
theorem dX12_gameOf_70 : decode cX12_gameOf 70 = .ok (.iload 7, 2) := by decide +kernel
theorem dX12_gameOf_72 : decode cX12_gameOf 72 = .ok (.iload 8, 2) := by decide +kernel
theorem dX12_gameOf_74 : decode cX12_gameOf 74 = .ok (.iload_n 1, 1) := by decide +kernel
theorem dX12_gameOf_75 : decode cX12_gameOf 75 = .ok (.if_icmp .eq 29, 3) := by decide +kernel
theorem dX12_gameOf_78 : decode cX12_gameOf 78 = .ok (.aload_n 0, 1) := by decide +kernel
theorem dX12_gameOf_79 : decode cX12_gameOf 79 = .ok (.iload_n 1, 1) := by decide +kernel
theorem dX12_gameOf_80 : decode cX12_gameOf 80 = .ok (.iload 8, 2) := by decide +kernel
theorem dX12_gameOf_82 : decode cX12_gameOf 82 = .ok (.iconst 1, 1) := by decide +kernel
theorem dX12_gameOf_83 : decode cX12_gameOf 83 = .ok (.invokevirtual 289, 3) := by decide +kernel
theorem dX12_gameOf_86 : decode cX12_gameOf 86 = .ok (.ifCond .ne 14, 3) := by decide +kernel
theorem dX12_gameOf_89 : decode cX12_gameOf 89 = .ok (.aload_n 0, 1) := by decide +kernel
theorem dX12_gameOf_90 : decode cX12_gameOf 90 = .ok (.iload 8, 2) := by decide +kernel
theorem dX12_gameOf_92 : decode cX12_gameOf 92 = .ok (.iload_n 1, 1) := by decide +kernel
theorem dX12_gameOf_93 : decode cX12_gameOf 93 = .ok (.iconst 1, 1) := by decide +kernel
theorem dX12_gameOf_94 : decode cX12_gameOf 94 = .ok (.invokevirtual 289, 3) := by decide +kernel
theorem dX12_gameOf_97 : decode cX12_gameOf 97 = .ok (.ifCond .eq 7, 3) := by decide +kernel
theorem dX12_gameOf_100 : decode cX12_gameOf 100 = .ok (.iconst 1, 1) := by decide +kernel
theorem dX12_gameOf_101 : decode cX12_gameOf 101 = .ok (.goto 4, 3) := by decide +kernel
theorem dX12_gameOf_104 : decode cX12_gameOf 104 = .ok (.iconst 0, 1) := by decide +kernel
theorem dX12_gameOf_105 : decode cX12_gameOf 105 = .ok (.iadd, 1) := by decide +kernel
theorem dX12_gameOf_106 : decode cX12_gameOf 106 = .ok (.istore 7, 2) := by decide +kernel
theorem dX12_gameOf_108 : decode cX12_gameOf 108 = .ok (.iinc 8 1, 3) := by decide +kernel
theorem dX12_gameOf_111 : decode cX12_gameOf 111 = .ok (.goto (-50), 3) := by decide +kernel
theorem dX12_gameOf_114 : decode cX12_gameOf 114 = .ok (.aload_n 0, 1) := by decide +kernel
theorem dX12_gameOf_115 : decode cX12_gameOf 115 = .ok (.getfield 52, 3) := by decide +kernel
theorem dX12_gameOf_118 : decode cX12_gameOf 118 = .ok (.iconst 0, 1) := by decide +kernel
theorem dX12_gameOf_119 : decode cX12_gameOf 119 = .ok (.iload_n 1, 1) := by decide +kernel
theorem dX12_gameOf_120 : decode cX12_gameOf 120 = .ok (.iadd, 1) := by decide +kernel
theorem dX12_gameOf_121 : decode cX12_gameOf 121 = .ok (.iload 5, 2) := by decide +kernel
theorem dX12_gameOf_123 : decode cX12_gameOf 123 = .ok (.iastore, 1) := by decide +kernel
theorem dX12_gameOf_124 : decode cX12_gameOf 124 = .ok (.aload_n 0, 1) := by decide +kernel
theorem dX12_gameOf_125 : decode cX12_gameOf 125 = .ok (.getfield 52, 3) := by decide +kernel
theorem dX12_gameOf_128 : decode cX12_gameOf 128 = .ok (.iconst 0, 1) := by decide +kernel
theorem dX12_gameOf_129 : decode cX12_gameOf 129 = .ok (.iload_n 2, 1) := by decide +kernel
theorem dX12_gameOf_130 : decode cX12_gameOf 130 = .ok (.iadd, 1) := by decide +kernel
theorem dX12_gameOf_131 : decode cX12_gameOf 131 = .ok (.iload 6, 2) := by decide +kernel
theorem dX12_gameOf_133 : decode cX12_gameOf 133 = .ok (.iastore, 1) := by decide +kernel
theorem dX12_gameOf_134 : decode cX12_gameOf 134 = .ok (.iload 7, 2) := by decide +kernel
theorem dX12_gameOf_136 : decode cX12_gameOf 136 = .ok (.iload_n 3, 1) := by decide +kernel
theorem dX12_gameOf_137 : decode cX12_gameOf 137 = .ok (.isub, 1) := by decide +kernel
theorem dX12_gameOf_138 : decode cX12_gameOf 138 = .ok (.ireturn, 1) := by decide +kernel
theorem dX12_game_0 : decode cX12_game 0 = .ok (.aload_n 0, 1) := by decide +kernel
theorem dX12_game_1 : decode cX12_game 1 = .ok (.iload_n 1, 1) := by decide +kernel
theorem dX12_game_2 : decode cX12_game 2 = .ok (.iload_n 2, 1) := by decide +kernel
theorem dX12_game_3 : decode cX12_game 3 = .ok (.invokevirtual 352, 3) := by decide +kernel
theorem dX12_game_6 : decode cX12_game 6 = .ok (.ifCond .eq 32, 3) := by decide +kernel
theorem dX12_game_9 : decode cX12_game 9 = .ok (.iload_n 3, 1) := by decide +kernel
theorem dX12_game_10 : decode cX12_game 10 = .ok (.iconst 0, 1) := by decide +kernel
theorem dX12_game_11 : decode cX12_game 11 = .ok (.iconst 3, 1) := by decide +kernel
theorem dX12_game_12 : decode cX12_game 12 = .ok (.invokestatic 208, 3) := by decide +kernel
theorem dX12_game_15 : decode cX12_game 15 = .ok (.ifCond .eq 23, 3) := by decide +kernel
theorem dX12_game_18 : decode cX12_game 18 = .ok (.iload 4, 2) := by decide +kernel
theorem dX12_game_20 : decode cX12_game 20 = .ok (.iconst 0, 1) := by decide +kernel
theorem dX12_game_21 : decode cX12_game 21 = .ok (.iconst 3, 1) := by decide +kernel
theorem dX12_game_22 : decode cX12_game 22 = .ok (.invokestatic 208, 3) := by decide +kernel
theorem dX12_game_25 : decode cX12_game 25 = .ok (.ifCond .eq 13, 3) := by decide +kernel
theorem dX12_game_28 : decode cX12_game 28 = .ok (.iload 5, 2) := by decide +kernel
theorem dX12_game_30 : decode cX12_game 30 = .ok (.iconst 0, 1) := by decide +kernel
theorem dX12_game_31 : decode cX12_game 31 = .ok (.iconst 1, 1) := by decide +kernel
theorem dX12_game_32 : decode cX12_game 32 = .ok (.invokestatic 208, 3) := by decide +kernel
theorem dX12_game_35 : decode cX12_game 35 = .ok (.ifCond .ne 7, 3) := by decide +kernel
theorem dX12_game_38 : decode cX12_game 38 = .ok (.ldc_w 407, 3) := by decide +kernel
theorem dX12_game_41 : decode cX12_game 41 = .ok (.ireturn, 1) := by decide +kernel
theorem dX12_game_42 : decode cX12_game 42 = .ok (.iload 5, 2) := by decide +kernel
theorem dX12_game_44 : decode cX12_game 44 = .ok (.ifCond .ne 15, 3) := by decide +kernel
theorem dX12_game_47 : decode cX12_game 47 = .ok (.aload_n 0, 1) := by decide +kernel
theorem dX12_game_48 : decode cX12_game 48 = .ok (.iload_n 1, 1) := by decide +kernel
theorem dX12_game_49 : decode cX12_game 49 = .ok (.iload_n 2, 1) := by decide +kernel
theorem dX12_game_50 : decode cX12_game 50 = .ok (.iload_n 3, 1) := by decide +kernel
theorem dX12_game_51 : decode cX12_game 51 = .ok (.iload 4, 2) := by decide +kernel
theorem dX12_game_53 : decode cX12_game 53 = .ok (.invokevirtual 408, 3) := by decide +kernel
theorem dX12_game_56 : decode cX12_game 56 = .ok (.goto 12, 3) := by decide +kernel
theorem dX12_game_59 : decode cX12_game 59 = .ok (.aload_n 0, 1) := by decide +kernel
theorem dX12_game_60 : decode cX12_game 60 = .ok (.iload_n 2, 1) := by decide +kernel
theorem dX12_game_61 : decode cX12_game 61 = .ok (.iload_n 1, 1) := by decide +kernel
theorem dX12_game_62 : decode cX12_game 62 = .ok (.iload 4, 2) := by decide +kernel
theorem dX12_game_64 : decode cX12_game 64 = .ok (.iload_n 3, 1) := by decide +kernel
theorem dX12_game_65 : decode cX12_game 65 = .ok (.invokevirtual 408, 3) := by decide +kernel
theorem dX12_game_68 : decode cX12_game 68 = .ok (.ireturn, 1) := by decide +kernel
theorem dX12_isRest_0 : decode cX12_isRest 0 = .ok (.iconst 0, 1) := by decide +kernel
theorem dX12_isRest_1 : decode cX12_isRest 1 = .ok (.istore 5, 2) := by decide +kernel
theorem dX12_isRest_3 : decode cX12_isRest 3 = .ok (.iload 5, 2) := by decide +kernel
theorem dX12_isRest_5 : decode cX12_isRest 5 = .ok (.iconst 4, 1) := by decide +kernel
theorem dX12_isRest_6 : decode cX12_isRest 6 = .ok (.if_icmp .ge 54, 3) := by decide +kernel
theorem dX12_isRest_9 : decode cX12_isRest 9 = .ok (.aload_n 0, 1) := by decide +kernel
theorem dX12_isRest_10 : decode cX12_isRest 10 = .ok (.iload_n 1, 1) := by decide +kernel
theorem dX12_isRest_11 : decode cX12_isRest 11 = .ok (.iload_n 2, 1) := by decide +kernel
theorem dX12_isRest_12 : decode cX12_isRest 12 = .ok (.iload 5, 2) := by decide +kernel
theorem dX12_isRest_14 : decode cX12_isRest 14 = .ok (.iload 4, 2) := by decide +kernel
theorem dX12_isRest_16 : decode cX12_isRest 16 = .ok (.invokevirtual 408, 3) := by decide +kernel
theorem dX12_isRest_19 : decode cX12_isRest 19 = .ok (.aload_n 0, 1) := by decide +kernel
theorem dX12_isRest_20 : decode cX12_isRest 20 = .ok (.iload_n 1, 1) := by decide +kernel
theorem dX12_isRest_21 : decode cX12_isRest 21 = .ok (.iload_n 2, 1) := by decide +kernel
theorem dX12_isRest_22 : decode cX12_isRest 22 = .ok (.iload_n 3, 1) := by decide +kernel
theorem dX12_isRest_23 : decode cX12_isRest 23 = .ok (.iload 4, 2) := by decide +kernel
theorem dX12_isRest_25 : decode cX12_isRest 25 = .ok (.invokevirtual 408, 3) := by decide +kernel
theorem dX12_isRest_28 : decode cX12_isRest 28 = .ok (.if_icmp .gt 24, 3) := by decide +kernel
theorem dX12_isRest_31 : decode cX12_isRest 31 = .ok (.aload_n 0, 1) := by decide +kernel
theorem dX12_isRest_32 : decode cX12_isRest 32 = .ok (.iload_n 2, 1) := by decide +kernel
theorem dX12_isRest_33 : decode cX12_isRest 33 = .ok (.iload_n 1, 1) := by decide +kernel
theorem dX12_isRest_34 : decode cX12_isRest 34 = .ok (.iload 5, 2) := by decide +kernel
theorem dX12_isRest_36 : decode cX12_isRest 36 = .ok (.iload_n 3, 1) := by decide +kernel
theorem dX12_isRest_37 : decode cX12_isRest 37 = .ok (.invokevirtual 408, 3) := by decide +kernel
theorem dX12_isRest_40 : decode cX12_isRest 40 = .ok (.aload_n 0, 1) := by decide +kernel
theorem dX12_isRest_41 : decode cX12_isRest 41 = .ok (.iload_n 2, 1) := by decide +kernel
theorem dX12_isRest_42 : decode cX12_isRest 42 = .ok (.iload_n 1, 1) := by decide +kernel
theorem dX12_isRest_43 : decode cX12_isRest 43 = .ok (.iload 4, 2) := by decide +kernel
theorem dX12_isRest_45 : decode cX12_isRest 45 = .ok (.iload_n 3, 1) := by decide +kernel
theorem dX12_isRest_46 : decode cX12_isRest 46 = .ok (.invokevirtual 408, 3) := by decide +kernel
theorem dX12_isRest_49 : decode cX12_isRest 49 = .ok (.if_icmp .le 5, 3) := by decide +kernel
theorem dX12_isRest_52 : decode cX12_isRest 52 = .ok (.iconst 0, 1) := by decide +kernel
theorem dX12_isRest_53 : decode cX12_isRest 53 = .ok (.ireturn, 1) := by decide +kernel
theorem dX12_isRest_54 : decode cX12_isRest 54 = .ok (.iinc 5 1, 3) := by decide +kernel
theorem dX12_isRest_57 : decode cX12_isRest 57 = .ok (.goto (-54), 3) := by decide +kernel
theorem dX12_isRest_60 : decode cX12_isRest 60 = .ok (.iconst 1, 1) := by decide +kernel
theorem dX12_isRest_61 : decode cX12_isRest 61 = .ok (.ireturn, 1) := by decide +kernel
theorem dX12_rests_0 : decode cX12_rests 0 = .ok (.aload_n 0, 1) := by decide +kernel
theorem dX12_rests_1 : decode cX12_rests 1 = .ok (.iload_n 1, 1) := by decide +kernel
theorem dX12_rests_2 : decode cX12_rests 2 = .ok (.iload_n 2, 1) := by decide +kernel
theorem dX12_rests_3 : decode cX12_rests 3 = .ok (.invokevirtual 352, 3) := by decide +kernel
theorem dX12_rests_6 : decode cX12_rests 6 = .ok (.ifCond .eq 8, 3) := by decide +kernel
theorem dX12_rests_9 : decode cX12_rests 9 = .ok (.iload_n 3, 1) := by decide +kernel
theorem dX12_rests_10 : decode cX12_rests 10 = .ok (.iconst (-1), 1) := by decide +kernel
theorem dX12_rests_11 : decode cX12_rests 11 = .ok (.if_icmp .ge 5, 3) := by decide +kernel
theorem dX12_rests_14 : decode cX12_rests 14 = .ok (.iconst (-1), 1) := by decide +kernel
theorem dX12_rests_15 : decode cX12_rests 15 = .ok (.ireturn, 1) := by decide +kernel
theorem dX12_rests_16 : decode cX12_rests 16 = .ok (.iconst 0, 1) := by decide +kernel
theorem dX12_rests_17 : decode cX12_rests 17 = .ok (.istore 4, 2) := by decide +kernel
theorem dX12_rests_19 : decode cX12_rests 19 = .ok (.iconst 0, 1) := by decide +kernel
theorem dX12_rests_20 : decode cX12_rests 20 = .ok (.istore 5, 2) := by decide +kernel
theorem dX12_rests_22 : decode cX12_rests 22 = .ok (.iload 5, 2) := by decide +kernel
theorem dX12_rests_24 : decode cX12_rests 24 = .ok (.bipush 16, 2) := by decide +kernel
theorem dX12_rests_26 : decode cX12_rests 26 = .ok (.if_icmp .ge 48, 3) := by decide +kernel
theorem dX12_rests_29 : decode cX12_rests 29 = .ok (.aload_n 0, 1) := by decide +kernel
theorem dX12_rests_30 : decode cX12_rests 30 = .ok (.iload_n 1, 1) := by decide +kernel
theorem dX12_rests_31 : decode cX12_rests 31 = .ok (.iload_n 2, 1) := by decide +kernel
theorem dX12_rests_32 : decode cX12_rests 32 = .ok (.iload 5, 2) := by decide +kernel
theorem dX12_rests_34 : decode cX12_rests 34 = .ok (.iconst 4, 1) := by decide +kernel
theorem dX12_rests_35 : decode cX12_rests 35 = .ok (.idiv, 1) := by decide +kernel
theorem dX12_rests_36 : decode cX12_rests 36 = .ok (.iload 5, 2) := by decide +kernel
theorem dX12_rests_38 : decode cX12_rests 38 = .ok (.iconst 4, 1) := by decide +kernel
theorem dX12_rests_39 : decode cX12_rests 39 = .ok (.irem, 1) := by decide +kernel
theorem dX12_rests_40 : decode cX12_rests 40 = .ok (.invokevirtual 412, 3) := by decide +kernel
theorem dX12_rests_43 : decode cX12_rests 43 = .ok (.ifCond .eq 25, 3) := by decide +kernel
theorem dX12_rests_46 : decode cX12_rests 46 = .ok (.iload 4, 2) := by decide +kernel
theorem dX12_rests_48 : decode cX12_rests 48 = .ok (.iload_n 3, 1) := by decide +kernel
theorem dX12_rests_49 : decode cX12_rests 49 = .ok (.if_icmp .ne 16, 3) := by decide +kernel
theorem dX12_rests_52 : decode cX12_rests 52 = .ok (.bipush 10, 2) := by decide +kernel
theorem dX12_rests_54 : decode cX12_rests 54 = .ok (.iload 5, 2) := by decide +kernel
theorem dX12_rests_56 : decode cX12_rests 56 = .ok (.iconst 4, 1) := by decide +kernel
theorem dX12_rests_57 : decode cX12_rests 57 = .ok (.idiv, 1) := by decide +kernel
theorem dX12_rests_58 : decode cX12_rests 58 = .ok (.imul, 1) := by decide +kernel
theorem dX12_rests_59 : decode cX12_rests 59 = .ok (.iload 5, 2) := by decide +kernel
theorem dX12_rests_61 : decode cX12_rests 61 = .ok (.iconst 4, 1) := by decide +kernel
theorem dX12_rests_62 : decode cX12_rests 62 = .ok (.irem, 1) := by decide +kernel
theorem dX12_rests_63 : decode cX12_rests 63 = .ok (.iadd, 1) := by decide +kernel
theorem dX12_rests_64 : decode cX12_rests 64 = .ok (.ireturn, 1) := by decide +kernel
theorem dX12_rests_65 : decode cX12_rests 65 = .ok (.iinc 4 1, 3) := by decide +kernel
theorem dX12_rests_68 : decode cX12_rests 68 = .ok (.iinc 5 1, 3) := by decide +kernel
theorem dX12_rests_71 : decode cX12_rests 71 = .ok (.goto (-49), 3) := by decide +kernel
theorem dX12_rests_74 : decode cX12_rests 74 = .ok (.iload_n 3, 1) := by decide +kernel
theorem dX12_rests_75 : decode cX12_rests 75 = .ok (.iconst (-1), 1) := by decide +kernel
theorem dX12_rests_76 : decode cX12_rests 76 = .ok (.if_icmp .ne 8, 3) := by decide +kernel
theorem dX12_rests_79 : decode cX12_rests 79 = .ok (.iload 4, 2) := by decide +kernel
theorem dX12_rests_81 : decode cX12_rests 81 = .ok (.goto 4, 3) := by decide +kernel
theorem dX12_rests_84 : decode cX12_rests 84 = .ok (.iconst (-1), 1) := by decide +kernel
theorem dX12_rests_85 : decode cX12_rests 85 = .ok (.ireturn, 1) := by decide +kernel
theorem dX12_odds_0 : decode cX12_odds 0 = .ok (.aload_n 0, 1) := by decide +kernel
theorem dX12_odds_1 : decode cX12_odds 1 = .ok (.iload_n 1, 1) := by decide +kernel
theorem dX12_odds_2 : decode cX12_odds 2 = .ok (.invokevirtual 306, 3) := by decide +kernel
theorem dX12_odds_5 : decode cX12_odds 5 = .ok (.ifCond .eq 13, 3) := by decide +kernel
theorem dX12_odds_8 : decode cX12_odds 8 = .ok (.iload_n 2, 1) := by decide +kernel
theorem dX12_odds_9 : decode cX12_odds 9 = .ok (.iconst 0, 1) := by decide +kernel
theorem dX12_odds_10 : decode cX12_odds 10 = .ok (.bipush 100, 2) := by decide +kernel
theorem dX12_odds_12 : decode cX12_odds 12 = .ok (.invokestatic 208, 3) := by decide +kernel
theorem dX12_odds_15 : decode cX12_odds 15 = .ok (.ifCond .ne 5, 3) := by decide +kernel
theorem dX12_odds_18 : decode cX12_odds 18 = .ok (.iconst (-1), 1) := by decide +kernel
theorem dX12_odds_19 : decode cX12_odds 19 = .ok (.ireturn, 1) := by decide +kernel
theorem dX12_odds_20 : decode cX12_odds 20 = .ok (.ldc2_w 415, 3) := by decide +kernel
theorem dX12_odds_23 : decode cX12_odds 23 = .ok (.lstore_n 3, 1) := by decide +kernel
theorem dX12_odds_24 : decode cX12_odds 24 = .ok (.aload_n 0, 1) := by decide +kernel
theorem dX12_odds_25 : decode cX12_odds 25 = .ok (.iconst 0, 1) := by decide +kernel
theorem dX12_odds_26 : decode cX12_odds 26 = .ok (.invokevirtual 378, 3) := by decide +kernel
theorem dX12_odds_29 : decode cX12_odds 29 = .ok (.iconst 0, 1) := by decide +kernel
theorem dX12_odds_30 : decode cX12_odds 30 = .ok (.istore 5, 2) := by decide +kernel
theorem dX12_odds_32 : decode cX12_odds 32 = .ok (.iload 5, 2) := by decide +kernel
theorem dX12_odds_34 : decode cX12_odds 34 = .ok (.aload_n 0, 1) := by decide +kernel
theorem dX12_odds_35 : decode cX12_odds 35 = .ok (.getfield 245, 3) := by decide +kernel
theorem dX12_odds_38 : decode cX12_odds 38 = .ok (.if_icmp .ge 53, 3) := by decide +kernel
theorem dX12_odds_41 : decode cX12_odds 41 = .ok (.aload_n 0, 1) := by decide +kernel
theorem dX12_odds_42 : decode cX12_odds 42 = .ok (.iload_n 1, 1) := by decide +kernel
theorem dX12_odds_43 : decode cX12_odds 43 = .ok (.iload 5, 2) := by decide +kernel
theorem dX12_odds_45 : decode cX12_odds 45 = .ok (.invokevirtual 309, 3) := by decide +kernel
theorem dX12_odds_48 : decode cX12_odds 48 = .ok (.ifCond .eq 37, 3) := by decide +kernel
theorem dX12_odds_51 : decode cX12_odds 51 = .ok (.aload_n 0, 1) := by decide +kernel
theorem dX12_odds_52 : decode cX12_odds 52 = .ok (.iload_n 1, 1) := by decide +kernel
theorem dX12_odds_53 : decode cX12_odds 53 = .ok (.iload 5, 2) := by decide +kernel
theorem dX12_odds_55 : decode cX12_odds 55 = .ok (.invokevirtual 294, 3) := by decide +kernel
theorem dX12_odds_58 : decode cX12_odds 58 = .ok (.ifCond .eq 14, 3) := by decide +kernel
theorem dX12_odds_61 : decode cX12_odds 61 = .ok (.lload_n 3, 1) := by decide +kernel
theorem dX12_odds_62 : decode cX12_odds 62 = .ok (.iload_n 2, 1) := by decide +kernel
theorem dX12_odds_63 : decode cX12_odds 63 = .ok (.i2l, 1) := by decide +kernel
theorem dX12_odds_64 : decode cX12_odds 64 = .ok (.lmul, 1) := by decide +kernel
theorem dX12_odds_65 : decode cX12_odds 65 = .ok (.ldc2_w 417, 3) := by decide +kernel
theorem dX12_odds_68 : decode cX12_odds 68 = .ok (.ldiv, 1) := by decide +kernel
theorem dX12_odds_69 : decode cX12_odds 69 = .ok (.goto 4, 3) := by decide +kernel
theorem dX12_odds_72 : decode cX12_odds 72 = .ok (.lload_n 3, 1) := by decide +kernel
theorem dX12_odds_73 : decode cX12_odds 73 = .ok (.lstore_n 3, 1) := by decide +kernel
theorem dX12_odds_74 : decode cX12_odds 74 = .ok (.aload_n 0, 1) := by decide +kernel
theorem dX12_odds_75 : decode cX12_odds 75 = .ok (.iload_n 1, 1) := by decide +kernel
theorem dX12_odds_76 : decode cX12_odds 76 = .ok (.invokevirtual 297, 3) := by decide +kernel
theorem dX12_odds_79 : decode cX12_odds 79 = .ok (.aload_n 0, 1) := by decide +kernel
theorem dX12_odds_80 : decode cX12_odds 80 = .ok (.iload 5, 2) := by decide +kernel
theorem dX12_odds_82 : decode cX12_odds 82 = .ok (.invokevirtual 297, 3) := by decide +kernel
theorem dX12_odds_85 : decode cX12_odds 85 = .ok (.iinc 5 1, 3) := by decide +kernel
theorem dX12_odds_88 : decode cX12_odds 88 = .ok (.goto (-56), 3) := by decide +kernel
theorem dX12_odds_91 : decode cX12_odds 91 = .ok (.aload_n 0, 1) := by decide +kernel
theorem dX12_odds_92 : decode cX12_odds 92 = .ok (.iconst 0, 1) := by decide +kernel
theorem dX12_odds_93 : decode cX12_odds 93 = .ok (.invokevirtual 385, 3) := by decide +kernel
theorem dX12_odds_96 : decode cX12_odds 96 = .ok (.ldc2_w 415, 3) := by decide +kernel
theorem dX12_odds_99 : decode cX12_odds 99 = .ok (.lload_n 3, 1) := by decide +kernel
theorem dX12_odds_100 : decode cX12_odds 100 = .ok (.lsub, 1) := by decide +kernel
theorem dX12_odds_101 : decode cX12_odds 101 = .ok (.l2i, 1) := by decide +kernel
theorem dX12_odds_102 : decode cX12_odds 102 = .ok (.ireturn, 1) := by decide +kernel
theorem dX12_story_0 : decode cX12_story 0 = .ok (.aload_n 0, 1) := by decide +kernel
theorem dX12_story_1 : decode cX12_story 1 = .ok (.iload_n 1, 1) := by decide +kernel
theorem dX12_story_2 : decode cX12_story 2 = .ok (.invokevirtual 306, 3) := by decide +kernel
theorem dX12_story_5 : decode cX12_story 5 = .ok (.ifCond .eq 12, 3) := by decide +kernel
theorem dX12_story_8 : decode cX12_story 8 = .ok (.iload_n 2, 1) := by decide +kernel
theorem dX12_story_9 : decode cX12_story 9 = .ok (.iconst 0, 1) := by decide +kernel
theorem dX12_story_10 : decode cX12_story 10 = .ok (.iconst 4, 1) := by decide +kernel
theorem dX12_story_11 : decode cX12_story 11 = .ok (.invokestatic 208, 3) := by decide +kernel
theorem dX12_story_14 : decode cX12_story 14 = .ok (.ifCond .ne 5, 3) := by decide +kernel
theorem dX12_story_17 : decode cX12_story 17 = .ok (.iconst (-1), 1) := by decide +kernel
theorem dX12_story_18 : decode cX12_story 18 = .ok (.ireturn, 1) := by decide +kernel
theorem dX12_story_19 : decode cX12_story 19 = .ok (.iload_n 2, 1) := by decide +kernel
theorem dX12_story_20 : decode cX12_story 20 = .ok (.tableswitch 56 0 3 #[32, 38, 44, 50], 32) := by decide +kernel
theorem dX12_story_52 : decode cX12_story 52 = .ok (.aload_n 0, 1) := by decide +kernel
theorem dX12_story_53 : decode cX12_story 53 = .ok (.iload_n 1, 1) := by decide +kernel
theorem dX12_story_54 : decode cX12_story 54 = .ok (.invokevirtual 273, 3) := by decide +kernel
theorem dX12_story_57 : decode cX12_story 57 = .ok (.ireturn, 1) := by decide +kernel
theorem dX12_story_58 : decode cX12_story 58 = .ok (.aload_n 0, 1) := by decide +kernel
theorem dX12_story_59 : decode cX12_story 59 = .ok (.iload_n 1, 1) := by decide +kernel
theorem dX12_story_60 : decode cX12_story 60 = .ok (.invokevirtual 419, 3) := by decide +kernel
theorem dX12_story_63 : decode cX12_story 63 = .ok (.ireturn, 1) := by decide +kernel
theorem dX12_story_64 : decode cX12_story 64 = .ok (.aload_n 0, 1) := by decide +kernel
theorem dX12_story_65 : decode cX12_story 65 = .ok (.iload_n 1, 1) := by decide +kernel
theorem dX12_story_66 : decode cX12_story 66 = .ok (.invokevirtual 286, 3) := by decide +kernel
theorem dX12_story_69 : decode cX12_story 69 = .ok (.ireturn, 1) := by decide +kernel
theorem dX12_story_70 : decode cX12_story 70 = .ok (.aload_n 0, 1) := by decide +kernel
theorem dX12_story_71 : decode cX12_story 71 = .ok (.iload_n 1, 1) := by decide +kernel
theorem dX12_story_72 : decode cX12_story 72 = .ok (.invokevirtual 303, 3) := by decide +kernel
theorem dX12_story_75 : decode cX12_story 75 = .ok (.ireturn, 1) := by decide +kernel
theorem dX12_story_76 : decode cX12_story 76 = .ok (.aload_n 0, 1) := by decide +kernel
theorem dX12_story_77 : decode cX12_story 77 = .ok (.iload_n 1, 1) := by decide +kernel
theorem dX12_story_78 : decode cX12_story 78 = .ok (.invokevirtual 267, 3) := by decide +kernel
theorem dX12_story_81 : decode cX12_story 81 = .ok (.ifCond .eq 7, 3) := by decide +kernel
theorem dX12_story_84 : decode cX12_story 84 = .ok (.iconst 0, 1) := by decide +kernel
theorem dX12_story_85 : decode cX12_story 85 = .ok (.goto 28, 3) := by decide +kernel
theorem dX12_story_88 : decode cX12_story 88 = .ok (.aload_n 0, 1) := by decide +kernel
theorem dX12_story_89 : decode cX12_story 89 = .ok (.getfield 52, 3) := by decide +kernel
theorem dX12_story_92 : decode cX12_story 92 = .ok (.bipush 14, 2) := by decide +kernel
theorem dX12_story_94 : decode cX12_story 94 = .ok (.iload_n 1, 1) := by decide +kernel
theorem dX12_story_95 : decode cX12_story 95 = .ok (.iadd, 1) := by decide +kernel
theorem dX12_story_96 : decode cX12_story 96 = .ok (.iaload, 1) := by decide +kernel
theorem dX12_story_97 : decode cX12_story 97 = .ok (.invokestatic 422, 3) := by decide +kernel
theorem dX12_story_100 : decode cX12_story 100 = .ok (.aload_n 0, 1) := by decide +kernel
theorem dX12_story_101 : decode cX12_story 101 = .ok (.getfield 52, 3) := by decide +kernel
theorem dX12_story_104 : decode cX12_story 104 = .ok (.bipush 21, 2) := by decide +kernel
theorem dX12_story_106 : decode cX12_story 106 = .ok (.iload_n 1, 1) := by decide +kernel
theorem dX12_story_107 : decode cX12_story 107 = .ok (.iadd, 1) := by decide +kernel
theorem dX12_story_108 : decode cX12_story 108 = .ok (.iaload, 1) := by decide +kernel
theorem dX12_story_109 : decode cX12_story 109 = .ok (.invokestatic 422, 3) := by decide +kernel
theorem dX12_story_112 : decode cX12_story 112 = .ok (.ior, 1) := by decide +kernel
theorem dX12_story_113 : decode cX12_story 113 = .ok (.ireturn, 1) := by decide +kernel
theorem dX12_bitOf_0 : decode cX12_bitOf 0 = .ok (.iload_n 0, 1) := by decide +kernel
theorem dX12_bitOf_1 : decode cX12_bitOf 1 = .ok (.iconst (-1), 1) := by decide +kernel
theorem dX12_bitOf_2 : decode cX12_bitOf 2 = .ok (.if_icmp .ne 7, 3) := by decide +kernel
theorem dX12_bitOf_5 : decode cX12_bitOf 5 = .ok (.iconst 0, 1) := by decide +kernel
theorem dX12_bitOf_6 : decode cX12_bitOf 6 = .ok (.goto 6, 3) := by decide +kernel
theorem dX12_bitOf_9 : decode cX12_bitOf 9 = .ok (.iconst 1, 1) := by decide +kernel
theorem dX12_bitOf_10 : decode cX12_bitOf 10 = .ok (.iload_n 0, 1) := by decide +kernel
theorem dX12_bitOf_11 : decode cX12_bitOf 11 = .ok (.ishl, 1) := by decide +kernel
theorem dX12_bitOf_12 : decode cX12_bitOf 12 = .ok (.ireturn, 1) := by decide +kernel
theorem dX12_shares_0 : decode cX12_shares 0 = .ok (.aload_n 0, 1) := by decide +kernel
theorem dX12_shares_1 : decode cX12_shares 1 = .ok (.iload_n 1, 1) := by decide +kernel
theorem dX12_shares_2 : decode cX12_shares 2 = .ok (.invokevirtual 306, 3) := by decide +kernel
theorem dX12_shares_5 : decode cX12_shares 5 = .ok (.ifCond .eq 14, 3) := by decide +kernel
theorem dX12_shares_8 : decode cX12_shares 8 = .ok (.iload_n 2, 1) := by decide +kernel
theorem dX12_shares_9 : decode cX12_shares 9 = .ok (.iconst 0, 1) := by decide +kernel
theorem dX12_shares_10 : decode cX12_shares 10 = .ok (.sipush 999, 3) := by decide +kernel
theorem dX12_shares_13 : decode cX12_shares 13 = .ok (.invokestatic 208, 3) := by decide +kernel
theorem dX12_shares_16 : decode cX12_shares 16 = .ok (.ifCond .ne 5, 3) := by decide +kernel
theorem dX12_shares_19 : decode cX12_shares 19 = .ok (.iconst (-1), 1) := by decide +kernel
theorem dX12_shares_20 : decode cX12_shares 20 = .ok (.ireturn, 1) := by decide +kernel
theorem dX12_shares_21 : decode cX12_shares 21 = .ok (.iconst 0, 1) := by decide +kernel
theorem dX12_shares_22 : decode cX12_shares 22 = .ok (.istore_n 3, 1) := by decide +kernel
theorem dX12_shares_23 : decode cX12_shares 23 = .ok (.iconst 0, 1) := by decide +kernel
theorem dX12_shares_24 : decode cX12_shares 24 = .ok (.istore 4, 2) := by decide +kernel
theorem dX12_shares_26 : decode cX12_shares 26 = .ok (.iload 4, 2) := by decide +kernel
theorem dX12_shares_28 : decode cX12_shares 28 = .ok (.aload_n 0, 1) := by decide +kernel
theorem dX12_shares_29 : decode cX12_shares 29 = .ok (.getfield 245, 3) := by decide +kernel
theorem dX12_shares_32 : decode cX12_shares 32 = .ok (.if_icmp .ge 22, 3) := by decide +kernel
theorem dX12_shares_35 : decode cX12_shares 35 = .ok (.iload_n 3, 1) := by decide +kernel
theorem dX12_shares_36 : decode cX12_shares 36 = .ok (.aload_n 0, 1) := by decide +kernel
theorem dX12_shares_37 : decode cX12_shares 37 = .ok (.getfield 52, 3) := by decide +kernel
theorem dX12_shares_40 : decode cX12_shares 40 = .ok (.bipush 7, 2) := by decide +kernel
theorem dX12_shares_42 : decode cX12_shares 42 = .ok (.iload 4, 2) := by decide +kernel
theorem dX12_shares_44 : decode cX12_shares 44 = .ok (.iadd, 1) := by decide +kernel
theorem dX12_shares_45 : decode cX12_shares 45 = .ok (.iaload, 1) := by decide +kernel
theorem dX12_shares_46 : decode cX12_shares 46 = .ok (.iadd, 1) := by decide +kernel
theorem dX12_shares_47 : decode cX12_shares 47 = .ok (.istore_n 3, 1) := by decide +kernel
theorem dX12_shares_48 : decode cX12_shares 48 = .ok (.iinc 4 1, 3) := by decide +kernel
theorem dX12_shares_51 : decode cX12_shares 51 = .ok (.goto (-25), 3) := by decide +kernel
theorem dX12_shares_54 : decode cX12_shares 54 = .ok (.iload_n 2, 1) := by decide +kernel
theorem dX12_shares_55 : decode cX12_shares 55 = .ok (.aload_n 0, 1) := by decide +kernel
theorem dX12_shares_56 : decode cX12_shares 56 = .ok (.getfield 52, 3) := by decide +kernel
theorem dX12_shares_59 : decode cX12_shares 59 = .ok (.bipush 7, 2) := by decide +kernel
theorem dX12_shares_61 : decode cX12_shares 61 = .ok (.iload_n 1, 1) := by decide +kernel
theorem dX12_shares_62 : decode cX12_shares 62 = .ok (.iadd, 1) := by decide +kernel
theorem dX12_shares_63 : decode cX12_shares 63 = .ok (.iaload, 1) := by decide +kernel
theorem dX12_shares_64 : decode cX12_shares 64 = .ok (.imul, 1) := by decide +kernel
theorem dX12_shares_65 : decode cX12_shares 65 = .ok (.iload_n 3, 1) := by decide +kernel
theorem dX12_shares_66 : decode cX12_shares 66 = .ok (.idiv, 1) := by decide +kernel
theorem dX12_shares_67 : decode cX12_shares 67 = .ok (.ireturn, 1) := by decide +kernel
theorem dX12_valueOf_0 : decode cX12_valueOf 0 = .ok (.iload_n 2, 1) := by decide +kernel
theorem dX12_valueOf_1 : decode cX12_valueOf 1 = .ok (.ifCond .ne 15, 3) := by decide +kernel
theorem dX12_valueOf_4 : decode cX12_valueOf 4 = .ok (.aload_n 0, 1) := by decide +kernel
theorem dX12_valueOf_5 : decode cX12_valueOf 5 = .ok (.getfield 52, 3) := by decide +kernel
theorem dX12_valueOf_8 : decode cX12_valueOf 8 = .ok (.bipush 7, 2) := by decide +kernel
theorem dX12_valueOf_10 : decode cX12_valueOf 10 = .ok (.iload_n 1, 1) := by decide +kernel
theorem dX12_valueOf_11 : decode cX12_valueOf 11 = .ok (.iadd, 1) := by decide +kernel
theorem dX12_valueOf_12 : decode cX12_valueOf 12 = .ok (.iaload, 1) := by decide +kernel
theorem dX12_valueOf_13 : decode cX12_valueOf 13 = .ok (.goto 25, 3) := by decide +kernel
theorem dX12_valueOf_16 : decode cX12_valueOf 16 = .ok (.iload_n 2, 1) := by decide +kernel
theorem dX12_valueOf_17 : decode cX12_valueOf 17 = .ok (.iconst 1, 1) := by decide +kernel
theorem dX12_valueOf_18 : decode cX12_valueOf 18 = .ok (.if_icmp .ne 14, 3) := by decide +kernel
theorem dX12_valueOf_21 : decode cX12_valueOf 21 = .ok (.aload_n 0, 1) := by decide +kernel
theorem dX12_valueOf_22 : decode cX12_valueOf 22 = .ok (.getfield 52, 3) := by decide +kernel
theorem dX12_valueOf_25 : decode cX12_valueOf 25 = .ok (.iconst 0, 1) := by decide +kernel
theorem dX12_valueOf_26 : decode cX12_valueOf 26 = .ok (.iload_n 1, 1) := by decide +kernel
theorem dX12_valueOf_27 : decode cX12_valueOf 27 = .ok (.iadd, 1) := by decide +kernel
theorem dX12_valueOf_28 : decode cX12_valueOf 28 = .ok (.iaload, 1) := by decide +kernel
theorem dX12_valueOf_29 : decode cX12_valueOf 29 = .ok (.goto 9, 3) := by decide +kernel
theorem dX12_valueOf_32 : decode cX12_valueOf 32 = .ok (.aload_n 0, 1) := by decide +kernel
theorem dX12_valueOf_33 : decode cX12_valueOf 33 = .ok (.iload_n 1, 1) := by decide +kernel
theorem dX12_valueOf_34 : decode cX12_valueOf 34 = .ok (.iconst 1, 1) := by decide +kernel
theorem dX12_valueOf_35 : decode cX12_valueOf 35 = .ok (.invokevirtual 248, 3) := by decide +kernel
theorem dX12_valueOf_38 : decode cX12_valueOf 38 = .ok (.ireturn, 1) := by decide +kernel
theorem dX12_topBy_0 : decode cX12_topBy 0 = .ok (.iconst 0, 1) := by decide +kernel
theorem dX12_topBy_1 : decode cX12_topBy 1 = .ok (.istore_n 2, 1) := by decide +kernel
theorem dX12_topBy_2 : decode cX12_topBy 2 = .ok (.iconst 1, 1) := by decide +kernel
theorem dX12_topBy_3 : decode cX12_topBy 3 = .ok (.istore_n 3, 1) := by decide +kernel
theorem dX12_topBy_4 : decode cX12_topBy 4 = .ok (.iload_n 3, 1) := by decide +kernel
theorem dX12_topBy_5 : decode cX12_topBy 5 = .ok (.aload_n 0, 1) := by decide +kernel
theorem dX12_topBy_6 : decode cX12_topBy 6 = .ok (.getfield 245, 3) := by decide +kernel
theorem dX12_topBy_9 : decode cX12_topBy 9 = .ok (.if_icmp .ge 30, 3) := by decide +kernel
theorem dX12_topBy_12 : decode cX12_topBy 12 = .ok (.aload_n 0, 1) := by decide +kernel
theorem dX12_topBy_13 : decode cX12_topBy 13 = .ok (.iload_n 3, 1) := by decide +kernel
theorem dX12_topBy_14 : decode cX12_topBy 14 = .ok (.iload_n 1, 1) := by decide +kernel
theorem dX12_topBy_15 : decode cX12_topBy 15 = .ok (.invokevirtual 425, 3) := by decide +kernel
theorem dX12_topBy_18 : decode cX12_topBy 18 = .ok (.aload_n 0, 1) := by decide +kernel
theorem dX12_topBy_19 : decode cX12_topBy 19 = .ok (.iload_n 2, 1) := by decide +kernel
theorem dX12_topBy_20 : decode cX12_topBy 20 = .ok (.iload_n 1, 1) := by decide +kernel
theorem dX12_topBy_21 : decode cX12_topBy 21 = .ok (.invokevirtual 425, 3) := by decide +kernel
theorem dX12_topBy_24 : decode cX12_topBy 24 = .ok (.if_icmp .le 7, 3) := by decide +kernel
theorem dX12_topBy_27 : decode cX12_topBy 27 = .ok (.iload_n 3, 1) := by decide +kernel
theorem dX12_topBy_28 : decode cX12_topBy 28 = .ok (.goto 4, 3) := by decide +kernel
theorem dX12_topBy_31 : decode cX12_topBy 31 = .ok (.iload_n 2, 1) := by decide +kernel
theorem dX12_topBy_32 : decode cX12_topBy 32 = .ok (.istore_n 2, 1) := by decide +kernel
theorem dX12_topBy_33 : decode cX12_topBy 33 = .ok (.iinc 3 1, 3) := by decide +kernel
theorem dX12_topBy_36 : decode cX12_topBy 36 = .ok (.goto (-32), 3) := by decide +kernel
theorem dX12_topBy_39 : decode cX12_topBy 39 = .ok (.iload_n 2, 1) := by decide +kernel
theorem dX12_topBy_40 : decode cX12_topBy 40 = .ok (.ireturn, 1) := by decide +kernel
theorem dX12_looseOnes_0 : decode cX12_looseOnes 0 = .ok (.iconst 0, 1) := by decide +kernel
theorem dX12_looseOnes_1 : decode cX12_looseOnes 1 = .ok (.istore_n 1, 1) := by decide +kernel
theorem dX12_looseOnes_2 : decode cX12_looseOnes 2 = .ok (.iconst 0, 1) := by decide +kernel
theorem dX12_looseOnes_3 : decode cX12_looseOnes 3 = .ok (.istore_n 2, 1) := by decide +kernel
theorem dX12_looseOnes_4 : decode cX12_looseOnes 4 = .ok (.iload_n 2, 1) := by decide +kernel
theorem dX12_looseOnes_5 : decode cX12_looseOnes 5 = .ok (.aload_n 0, 1) := by decide +kernel
theorem dX12_looseOnes_6 : decode cX12_looseOnes 6 = .ok (.getfield 245, 3) := by decide +kernel
theorem dX12_looseOnes_9 : decode cX12_looseOnes 9 = .ok (.if_icmp .ge 27, 3) := by decide +kernel
theorem dX12_looseOnes_12 : decode cX12_looseOnes 12 = .ok (.iload_n 1, 1) := by decide +kernel
theorem dX12_looseOnes_13 : decode cX12_looseOnes 13 = .ok (.aload_n 0, 1) := by decide +kernel
theorem dX12_looseOnes_14 : decode cX12_looseOnes 14 = .ok (.iload_n 2, 1) := by decide +kernel
theorem dX12_looseOnes_15 : decode cX12_looseOnes 15 = .ok (.invokevirtual 329, 3) := by decide +kernel
theorem dX12_looseOnes_18 : decode cX12_looseOnes 18 = .ok (.ifCond .eq 9, 3) := by decide +kernel
theorem dX12_looseOnes_21 : decode cX12_looseOnes 21 = .ok (.iconst 1, 1) := by decide +kernel
theorem dX12_looseOnes_22 : decode cX12_looseOnes 22 = .ok (.iload_n 2, 1) := by decide +kernel
theorem dX12_looseOnes_23 : decode cX12_looseOnes 23 = .ok (.ishl, 1) := by decide +kernel
theorem dX12_looseOnes_24 : decode cX12_looseOnes 24 = .ok (.goto 4, 3) := by decide +kernel
theorem dX12_looseOnes_27 : decode cX12_looseOnes 27 = .ok (.iconst 0, 1) := by decide +kernel
theorem dX12_looseOnes_28 : decode cX12_looseOnes 28 = .ok (.ior, 1) := by decide +kernel
theorem dX12_looseOnes_29 : decode cX12_looseOnes 29 = .ok (.istore_n 1, 1) := by decide +kernel
theorem dX12_looseOnes_30 : decode cX12_looseOnes 30 = .ok (.iinc 2 1, 3) := by decide +kernel
theorem dX12_looseOnes_33 : decode cX12_looseOnes 33 = .ok (.goto (-29), 3) := by decide +kernel
theorem dX12_looseOnes_36 : decode cX12_looseOnes 36 = .ok (.iload_n 1, 1) := by decide +kernel
theorem dX12_looseOnes_37 : decode cX12_looseOnes 37 = .ok (.ireturn, 1) := by decide +kernel
theorem dX12_rack_0 : decode cX12_rack 0 = .ok (.aload_n 0, 1) := by decide +kernel
theorem dX12_rack_1 : decode cX12_rack 1 = .ok (.invokevirtual 428, 3) := by decide +kernel
theorem dX12_rack_4 : decode cX12_rack 4 = .ok (.istore_n 1, 1) := by decide +kernel
theorem dX12_rack_5 : decode cX12_rack 5 = .ok (.iconst 0, 1) := by decide +kernel
theorem dX12_rack_6 : decode cX12_rack 6 = .ok (.istore_n 2, 1) := by decide +kernel
theorem dX12_rack_7 : decode cX12_rack 7 = .ok (.iconst 0, 1) := by decide +kernel
theorem dX12_rack_8 : decode cX12_rack 8 = .ok (.istore_n 3, 1) := by decide +kernel
theorem dX12_rack_9 : decode cX12_rack 9 = .ok (.iload_n 3, 1) := by decide +kernel
theorem dX12_rack_10 : decode cX12_rack 10 = .ok (.aload_n 0, 1) := by decide +kernel
theorem dX12_rack_11 : decode cX12_rack 11 = .ok (.getfield 245, 3) := by decide +kernel
theorem dX12_rack_14 : decode cX12_rack 14 = .ok (.if_icmp .ge 98, 3) := by decide +kernel
theorem dX12_rack_17 : decode cX12_rack 17 = .ok (.iload_n 1, 1) := by decide +kernel
theorem dX12_rack_18 : decode cX12_rack 18 = .ok (.iload_n 3, 1) := by decide +kernel
theorem dX12_rack_19 : decode cX12_rack 19 = .ok (.invokestatic 219, 3) := by decide +kernel
theorem dX12_rack_22 : decode cX12_rack 22 = .ok (.istore 4, 2) := by decide +kernel
theorem dX12_rack_24 : decode cX12_rack 24 = .ok (.iconst 0, 1) := by decide +kernel
theorem dX12_rack_25 : decode cX12_rack 25 = .ok (.istore 5, 2) := by decide +kernel
theorem dX12_rack_27 : decode cX12_rack 27 = .ok (.iload 5, 2) := by decide +kernel
theorem dX12_rack_29 : decode cX12_rack 29 = .ok (.aload_n 0, 1) := by decide +kernel
theorem dX12_rack_30 : decode cX12_rack 30 = .ok (.getfield 245, 3) := by decide +kernel
theorem dX12_rack_33 : decode cX12_rack 33 = .ok (.if_icmp .ge 58, 3) := by decide +kernel
theorem dX12_rack_36 : decode cX12_rack 36 = .ok (.iload 4, 2) := by decide +kernel
theorem dX12_rack_38 : decode cX12_rack 38 = .ok (.ifCond .eq 44, 3) := by decide +kernel
theorem dX12_rack_41 : decode cX12_rack 41 = .ok (.iload 5, 2) := by decide +kernel
theorem dX12_rack_43 : decode cX12_rack 43 = .ok (.iload_n 3, 1) := by decide +kernel
theorem dX12_rack_44 : decode cX12_rack 44 = .ok (.if_icmp .eq 34, 3) := by decide +kernel
theorem dX12_rack_47 : decode cX12_rack 47 = .ok (.iload_n 1, 1) := by decide +kernel
theorem dX12_rack_48 : decode cX12_rack 48 = .ok (.iload 5, 2) := by decide +kernel
theorem dX12_rack_50 : decode cX12_rack 50 = .ok (.invokestatic 219, 3) := by decide +kernel
theorem dX12_rack_53 : decode cX12_rack 53 = .ok (.ifCond .eq 25, 3) := by decide +kernel
theorem dX12_rack_56 : decode cX12_rack 56 = .ok (.aload_n 0, 1) := by decide +kernel
theorem dX12_rack_57 : decode cX12_rack 57 = .ok (.iload_n 3, 1) := by decide +kernel
theorem dX12_rack_58 : decode cX12_rack 58 = .ok (.iload 5, 2) := by decide +kernel
theorem dX12_rack_60 : decode cX12_rack 60 = .ok (.iconst 1, 1) := by decide +kernel
theorem dX12_rack_61 : decode cX12_rack 61 = .ok (.invokevirtual 289, 3) := by decide +kernel
theorem dX12_rack_64 : decode cX12_rack 64 = .ok (.ifCond .ne 18, 3) := by decide +kernel
theorem dX12_rack_67 : decode cX12_rack 67 = .ok (.aload_n 0, 1) := by decide +kernel
theorem dX12_rack_68 : decode cX12_rack 68 = .ok (.iload 5, 2) := by decide +kernel
theorem dX12_rack_70 : decode cX12_rack 70 = .ok (.iload_n 3, 1) := by decide +kernel
theorem dX12_rack_71 : decode cX12_rack 71 = .ok (.iconst 1, 1) := by decide +kernel
theorem dX12_rack_72 : decode cX12_rack 72 = .ok (.invokevirtual 289, 3) := by decide +kernel
theorem dX12_rack_75 : decode cX12_rack 75 = .ok (.ifCond .ne 7, 3) := by decide +kernel
theorem dX12_rack_78 : decode cX12_rack 78 = .ok (.iconst 1, 1) := by decide +kernel
theorem dX12_rack_79 : decode cX12_rack 79 = .ok (.goto 4, 3) := by decide +kernel
theorem dX12_rack_82 : decode cX12_rack 82 = .ok (.iconst 0, 1) := by decide +kernel
theorem dX12_rack_83 : decode cX12_rack 83 = .ok (.istore 4, 2) := by decide +kernel
theorem dX12_rack_85 : decode cX12_rack 85 = .ok (.iinc 5 1, 3) := by decide +kernel
theorem dX12_rack_88 : decode cX12_rack 88 = .ok (.goto (-61), 3) := by decide +kernel
theorem dX12_rack_91 : decode cX12_rack 91 = .ok (.iload_n 2, 1) := by decide +kernel
theorem dX12_rack_92 : decode cX12_rack 92 = .ok (.iload 4, 2) := by decide +kernel
theorem dX12_rack_94 : decode cX12_rack 94 = .ok (.ifCond .eq 9, 3) := by decide +kernel
theorem dX12_rack_97 : decode cX12_rack 97 = .ok (.iconst 1, 1) := by decide +kernel
theorem dX12_rack_98 : decode cX12_rack 98 = .ok (.iload_n 3, 1) := by decide +kernel
theorem dX12_rack_99 : decode cX12_rack 99 = .ok (.ishl, 1) := by decide +kernel
theorem dX12_rack_100 : decode cX12_rack 100 = .ok (.goto 4, 3) := by decide +kernel
theorem dX12_rack_103 : decode cX12_rack 103 = .ok (.iconst 0, 1) := by decide +kernel
theorem dX12_rack_104 : decode cX12_rack 104 = .ok (.ior, 1) := by decide +kernel
theorem dX12_rack_105 : decode cX12_rack 105 = .ok (.istore_n 2, 1) := by decide +kernel
theorem dX12_rack_106 : decode cX12_rack 106 = .ok (.iinc 3 1, 3) := by decide +kernel
theorem dX12_rack_109 : decode cX12_rack 109 = .ok (.goto (-100), 3) := by decide +kernel
theorem dX12_rack_112 : decode cX12_rack 112 = .ok (.iload_n 2, 1) := by decide +kernel
theorem dX12_rack_113 : decode cX12_rack 113 = .ok (.ireturn, 1) := by decide +kernel
theorem dX12_isTale_0 : decode cX12_isTale 0 = .ok (.aload_n 0, 1) := by decide +kernel
theorem dX12_isTale_1 : decode cX12_isTale 1 = .ok (.iload_n 1, 1) := by decide +kernel
theorem dX12_isTale_2 : decode cX12_isTale 2 = .ok (.invokevirtual 267, 3) := by decide +kernel
theorem dX12_isTale_5 : decode cX12_isTale 5 = .ok (.ifCond .ne 33, 3) := by decide +kernel
theorem dX12_isTale_8 : decode cX12_isTale 8 = .ok (.aload_n 0, 1) := by decide +kernel
theorem dX12_isTale_9 : decode cX12_isTale 9 = .ok (.getfield 52, 3) := by decide +kernel
theorem dX12_isTale_12 : decode cX12_isTale 12 = .ok (.bipush 21, 2) := by decide +kernel
theorem dX12_isTale_14 : decode cX12_isTale 14 = .ok (.iload_n 1, 1) := by decide +kernel
theorem dX12_isTale_15 : decode cX12_isTale 15 = .ok (.iadd, 1) := by decide +kernel
theorem dX12_isTale_16 : decode cX12_isTale 16 = .ok (.iaload, 1) := by decide +kernel
theorem dX12_isTale_17 : decode cX12_isTale 17 = .ok (.iconst (-1), 1) := by decide +kernel
theorem dX12_isTale_18 : decode cX12_isTale 18 = .ok (.if_icmp .ne 20, 3) := by decide +kernel
theorem dX12_isTale_21 : decode cX12_isTale 21 = .ok (.aload_n 0, 1) := by decide +kernel
theorem dX12_isTale_22 : decode cX12_isTale 22 = .ok (.getfield 52, 3) := by decide +kernel
theorem dX12_isTale_25 : decode cX12_isTale 25 = .ok (.bipush 14, 2) := by decide +kernel
theorem dX12_isTale_27 : decode cX12_isTale 27 = .ok (.iload_n 1, 1) := by decide +kernel
theorem dX12_isTale_28 : decode cX12_isTale 28 = .ok (.iadd, 1) := by decide +kernel
theorem dX12_isTale_29 : decode cX12_isTale 29 = .ok (.iaload, 1) := by decide +kernel
theorem dX12_isTale_30 : decode cX12_isTale 30 = .ok (.iconst (-1), 1) := by decide +kernel
theorem dX12_isTale_31 : decode cX12_isTale 31 = .ok (.if_icmp .eq 7, 3) := by decide +kernel
theorem dX12_isTale_34 : decode cX12_isTale 34 = .ok (.iconst 1, 1) := by decide +kernel
theorem dX12_isTale_35 : decode cX12_isTale 35 = .ok (.goto 4, 3) := by decide +kernel
theorem dX12_isTale_38 : decode cX12_isTale 38 = .ok (.iconst 0, 1) := by decide +kernel
theorem dX12_isTale_39 : decode cX12_isTale 39 = .ok (.ireturn, 1) := by decide +kernel
theorem dX12_tales_0 : decode cX12_tales 0 = .ok (.iconst 0, 1) := by decide +kernel
theorem dX12_tales_1 : decode cX12_tales 1 = .ok (.istore_n 1, 1) := by decide +kernel
theorem dX12_tales_2 : decode cX12_tales 2 = .ok (.iconst 0, 1) := by decide +kernel
theorem dX12_tales_3 : decode cX12_tales 3 = .ok (.istore_n 2, 1) := by decide +kernel
theorem dX12_tales_4 : decode cX12_tales 4 = .ok (.iload_n 2, 1) := by decide +kernel
theorem dX12_tales_5 : decode cX12_tales 5 = .ok (.aload_n 0, 1) := by decide +kernel
theorem dX12_tales_6 : decode cX12_tales 6 = .ok (.getfield 245, 3) := by decide +kernel
theorem dX12_tales_9 : decode cX12_tales 9 = .ok (.if_icmp .ge 25, 3) := by decide +kernel
theorem dX12_tales_12 : decode cX12_tales 12 = .ok (.iload_n 1, 1) := by decide +kernel
theorem dX12_tales_13 : decode cX12_tales 13 = .ok (.aload_n 0, 1) := by decide +kernel
theorem dX12_tales_14 : decode cX12_tales 14 = .ok (.iload_n 2, 1) := by decide +kernel
theorem dX12_tales_15 : decode cX12_tales 15 = .ok (.invokevirtual 431, 3) := by decide +kernel
theorem dX12_tales_18 : decode cX12_tales 18 = .ok (.ifCond .eq 7, 3) := by decide +kernel
theorem dX12_tales_21 : decode cX12_tales 21 = .ok (.iconst 1, 1) := by decide +kernel
theorem dX12_tales_22 : decode cX12_tales 22 = .ok (.goto 4, 3) := by decide +kernel
theorem dX12_tales_25 : decode cX12_tales 25 = .ok (.iconst 0, 1) := by decide +kernel
theorem dX12_tales_26 : decode cX12_tales 26 = .ok (.iadd, 1) := by decide +kernel
theorem dX12_tales_27 : decode cX12_tales 27 = .ok (.istore_n 1, 1) := by decide +kernel
theorem dX12_tales_28 : decode cX12_tales 28 = .ok (.iinc 2 1, 3) := by decide +kernel
theorem dX12_tales_31 : decode cX12_tales 31 = .ok (.goto (-27), 3) := by decide +kernel
theorem dX12_tales_34 : decode cX12_tales 34 = .ok (.iload_n 1, 1) := by decide +kernel
theorem dX12_tales_35 : decode cX12_tales 35 = .ok (.ireturn, 1) := by decide +kernel
theorem dX12_worthOfAll_0 : decode cX12_worthOfAll 0 = .ok (.iconst 0, 1) := by decide +kernel
theorem dX12_worthOfAll_1 : decode cX12_worthOfAll 1 = .ok (.istore_n 1, 1) := by decide +kernel
theorem dX12_worthOfAll_2 : decode cX12_worthOfAll 2 = .ok (.iconst 0, 1) := by decide +kernel
theorem dX12_worthOfAll_3 : decode cX12_worthOfAll 3 = .ok (.istore_n 2, 1) := by decide +kernel
theorem dX12_worthOfAll_4 : decode cX12_worthOfAll 4 = .ok (.iload_n 2, 1) := by decide +kernel
theorem dX12_worthOfAll_5 : decode cX12_worthOfAll 5 = .ok (.aload_n 0, 1) := by decide +kernel
theorem dX12_worthOfAll_6 : decode cX12_worthOfAll 6 = .ok (.getfield 245, 3) := by decide +kernel
theorem dX12_worthOfAll_9 : decode cX12_worthOfAll 9 = .ok (.if_icmp .ge 29, 3) := by decide +kernel
theorem dX12_worthOfAll_12 : decode cX12_worthOfAll 12 = .ok (.iload_n 1, 1) := by decide +kernel
theorem dX12_worthOfAll_13 : decode cX12_worthOfAll 13 = .ok (.aload_n 0, 1) := by decide +kernel
theorem dX12_worthOfAll_14 : decode cX12_worthOfAll 14 = .ok (.iload_n 2, 1) := by decide +kernel
theorem dX12_worthOfAll_15 : decode cX12_worthOfAll 15 = .ok (.invokevirtual 431, 3) := by decide +kernel
theorem dX12_worthOfAll_18 : decode cX12_worthOfAll 18 = .ok (.ifCond .eq 11, 3) := by decide +kernel
theorem dX12_worthOfAll_21 : decode cX12_worthOfAll 21 = .ok (.aload_n 0, 1) := by decide +kernel
theorem dX12_worthOfAll_22 : decode cX12_worthOfAll 22 = .ok (.iload_n 2, 1) := by decide +kernel
theorem dX12_worthOfAll_23 : decode cX12_worthOfAll 23 = .ok (.invokevirtual 324, 3) := by decide +kernel
theorem dX12_worthOfAll_26 : decode cX12_worthOfAll 26 = .ok (.goto 4, 3) := by decide +kernel
theorem dX12_worthOfAll_29 : decode cX12_worthOfAll 29 = .ok (.iconst 0, 1) := by decide +kernel
theorem dX12_worthOfAll_30 : decode cX12_worthOfAll 30 = .ok (.iadd, 1) := by decide +kernel
theorem dX12_worthOfAll_31 : decode cX12_worthOfAll 31 = .ok (.istore_n 1, 1) := by decide +kernel
theorem dX12_worthOfAll_32 : decode cX12_worthOfAll 32 = .ok (.iinc 2 1, 3) := by decide +kernel
theorem dX12_worthOfAll_35 : decode cX12_worthOfAll 35 = .ok (.goto (-31), 3) := by decide +kernel
theorem dX12_worthOfAll_38 : decode cX12_worthOfAll 38 = .ok (.iload_n 1, 1) := by decide +kernel
theorem dX12_worthOfAll_39 : decode cX12_worthOfAll 39 = .ok (.ireturn, 1) := by decide +kernel
theorem dX12_most_0 : decode cX12_most 0 = .ok (.aload_n 0, 1) := by decide +kernel
theorem dX12_most_1 : decode cX12_most 1 = .ok (.getfield 245, 3) := by decide +kernel
theorem dX12_most_4 : decode cX12_most 4 = .ok (.ifCond .eq 13, 3) := by decide +kernel
theorem dX12_most_7 : decode cX12_most 7 = .ok (.iload_n 1, 1) := by decide +kernel
theorem dX12_most_8 : decode cX12_most 8 = .ok (.iconst 0, 1) := by decide +kernel
theorem dX12_most_9 : decode cX12_most 9 = .ok (.bipush 7, 2) := by decide +kernel
theorem dX12_most_11 : decode cX12_most 11 = .ok (.invokestatic 208, 3) := by decide +kernel
theorem dX12_most_14 : decode cX12_most 14 = .ok (.ifCond .ne 5, 3) := by decide +kernel
theorem dX12_most_17 : decode cX12_most 17 = .ok (.iconst (-1), 1) := by decide +kernel
theorem dX12_most_18 : decode cX12_most 18 = .ok (.ireturn, 1) := by decide +kernel
theorem dX12_most_19 : decode cX12_most 19 = .ok (.iload_n 1, 1) := by decide +kernel
theorem dX12_most_20 : decode cX12_most 20 = .ok (.tableswitch 64 3 7 #[36, 41, 49, 54, 59], 36) := by decide +kernel
theorem dX12_most_56 : decode cX12_most 56 = .ok (.aload_n 0, 1) := by decide +kernel
theorem dX12_most_57 : decode cX12_most 57 = .ok (.invokevirtual 428, 3) := by decide +kernel
theorem dX12_most_60 : decode cX12_most 60 = .ok (.ireturn, 1) := by decide +kernel
theorem dX12_most_61 : decode cX12_most 61 = .ok (.aload_n 0, 1) := by decide +kernel
theorem dX12_most_62 : decode cX12_most 62 = .ok (.getfield 52, 3) := by decide +kernel
theorem dX12_most_65 : decode cX12_most 65 = .ok (.bipush 28, 2) := by decide +kernel
theorem dX12_most_67 : decode cX12_most 67 = .ok (.iaload, 1) := by decide +kernel
theorem dX12_most_68 : decode cX12_most 68 = .ok (.ireturn, 1) := by decide +kernel
theorem dX12_most_69 : decode cX12_most 69 = .ok (.aload_n 0, 1) := by decide +kernel
theorem dX12_most_70 : decode cX12_most 70 = .ok (.invokevirtual 434, 3) := by decide +kernel
theorem dX12_most_73 : decode cX12_most 73 = .ok (.ireturn, 1) := by decide +kernel
theorem dX12_most_74 : decode cX12_most 74 = .ok (.aload_n 0, 1) := by decide +kernel
theorem dX12_most_75 : decode cX12_most 75 = .ok (.invokevirtual 437, 3) := by decide +kernel
theorem dX12_most_78 : decode cX12_most 78 = .ok (.ireturn, 1) := by decide +kernel
theorem dX12_most_79 : decode cX12_most 79 = .ok (.aload_n 0, 1) := by decide +kernel
theorem dX12_most_80 : decode cX12_most 80 = .ok (.invokevirtual 440, 3) := by decide +kernel
theorem dX12_most_83 : decode cX12_most 83 = .ok (.ireturn, 1) := by decide +kernel
theorem dX12_most_84 : decode cX12_most 84 = .ok (.aload_n 0, 1) := by decide +kernel
theorem dX12_most_85 : decode cX12_most 85 = .ok (.iload_n 1, 1) := by decide +kernel
theorem dX12_most_86 : decode cX12_most 86 = .ok (.invokevirtual 443, 3) := by decide +kernel
theorem dX12_most_89 : decode cX12_most 89 = .ok (.ireturn, 1) := by decide +kernel
theorem dX12_image_0 : decode cX12_image 0 = .ok (.aload_n 0, 1) := by decide +kernel
theorem dX12_image_1 : decode cX12_image 1 = .ok (.getfield 245, 3) := by decide +kernel
theorem dX12_image_4 : decode cX12_image 4 = .ok (.ifCond .ne 5, 3) := by decide +kernel
theorem dX12_image_7 : decode cX12_image 7 = .ok (.iconst (-1), 1) := by decide +kernel
theorem dX12_image_8 : decode cX12_image 8 = .ok (.ireturn, 1) := by decide +kernel
theorem dX12_image_9 : decode cX12_image 9 = .ok (.iconst 0, 1) := by decide +kernel
theorem dX12_image_10 : decode cX12_image 10 = .ok (.istore_n 1, 1) := by decide +kernel
theorem dX12_image_11 : decode cX12_image 11 = .ok (.iload_n 1, 1) := by decide +kernel
theorem dX12_image_12 : decode cX12_image 12 = .ok (.sipush 214, 3) := by decide +kernel
theorem dX12_image_15 : decode cX12_image 15 = .ok (.if_icmp .ge 21, 3) := by decide +kernel
theorem dX12_image_18 : decode cX12_image 18 = .ok (.aload_n 0, 1) := by decide +kernel
theorem dX12_image_19 : decode cX12_image 19 = .ok (.getfield 90, 3) := by decide +kernel
theorem dX12_image_22 : decode cX12_image 22 = .ok (.iload_n 1, 1) := by decide +kernel
theorem dX12_image_23 : decode cX12_image 23 = .ok (.aload_n 0, 1) := by decide +kernel
theorem dX12_image_24 : decode cX12_image 24 = .ok (.getfield 52, 3) := by decide +kernel
theorem dX12_image_27 : decode cX12_image 27 = .ok (.iload_n 1, 1) := by decide +kernel
theorem dX12_image_28 : decode cX12_image 28 = .ok (.iaload, 1) := by decide +kernel
theorem dX12_image_29 : decode cX12_image 29 = .ok (.iastore, 1) := by decide +kernel
theorem dX12_image_30 : decode cX12_image 30 = .ok (.iinc 1 1, 3) := by decide +kernel
theorem dX12_image_33 : decode cX12_image 33 = .ok (.goto (-22), 3) := by decide +kernel
theorem dX12_image_36 : decode cX12_image 36 = .ok (.aload_n 0, 1) := by decide +kernel
theorem dX12_image_37 : decode cX12_image 37 = .ok (.iconst 1, 1) := by decide +kernel
theorem dX12_image_38 : decode cX12_image 38 = .ok (.putfield 257, 3) := by decide +kernel
theorem dX12_image_41 : decode cX12_image 41 = .ok (.aload_n 0, 1) := by decide +kernel
theorem dX12_image_42 : decode cX12_image 42 = .ok (.getfield 52, 3) := by decide +kernel
theorem dX12_image_45 : decode cX12_image 45 = .ok (.bipush 32, 2) := by decide +kernel
theorem dX12_image_47 : decode cX12_image 47 = .ok (.iaload, 1) := by decide +kernel
theorem dX12_image_48 : decode cX12_image 48 = .ok (.ireturn, 1) := by decide +kernel
theorem dX12_back_0 : decode cX12_back 0 = .ok (.aload_n 0, 1) := by decide +kernel
theorem dX12_back_1 : decode cX12_back 1 = .ok (.getfield 257, 3) := by decide +kernel
theorem dX12_back_4 : decode cX12_back 4 = .ok (.ifCond .ne 5, 3) := by decide +kernel
theorem dX12_back_7 : decode cX12_back 7 = .ok (.iconst (-1), 1) := by decide +kernel
theorem dX12_back_8 : decode cX12_back 8 = .ok (.ireturn, 1) := by decide +kernel
theorem dX12_back_9 : decode cX12_back 9 = .ok (.iconst 0, 1) := by decide +kernel
theorem dX12_back_10 : decode cX12_back 10 = .ok (.istore_n 1, 1) := by decide +kernel
theorem dX12_back_11 : decode cX12_back 11 = .ok (.iload_n 1, 1) := by decide +kernel
theorem dX12_back_12 : decode cX12_back 12 = .ok (.sipush 214, 3) := by decide +kernel
theorem dX12_back_15 : decode cX12_back 15 = .ok (.if_icmp .ge 21, 3) := by decide +kernel
theorem dX12_back_18 : decode cX12_back 18 = .ok (.aload_n 0, 1) := by decide +kernel
theorem dX12_back_19 : decode cX12_back 19 = .ok (.getfield 52, 3) := by decide +kernel
theorem dX12_back_22 : decode cX12_back 22 = .ok (.iload_n 1, 1) := by decide +kernel
theorem dX12_back_23 : decode cX12_back 23 = .ok (.aload_n 0, 1) := by decide +kernel
theorem dX12_back_24 : decode cX12_back 24 = .ok (.getfield 90, 3) := by decide +kernel
theorem dX12_back_27 : decode cX12_back 27 = .ok (.iload_n 1, 1) := by decide +kernel
theorem dX12_back_28 : decode cX12_back 28 = .ok (.iaload, 1) := by decide +kernel
theorem dX12_back_29 : decode cX12_back 29 = .ok (.iastore, 1) := by decide +kernel
theorem dX12_back_30 : decode cX12_back 30 = .ok (.iinc 1 1, 3) := by decide +kernel
theorem dX12_back_33 : decode cX12_back 33 = .ok (.goto (-22), 3) := by decide +kernel
theorem dX12_back_36 : decode cX12_back 36 = .ok (.aload_n 0, 1) := by decide +kernel
theorem dX12_back_37 : decode cX12_back 37 = .ok (.iconst 0, 1) := by decide +kernel
theorem dX12_back_38 : decode cX12_back 38 = .ok (.putfield 254, 3) := by decide +kernel
theorem dX12_back_41 : decode cX12_back 41 = .ok (.aload_n 0, 1) := by decide +kernel
theorem dX12_back_42 : decode cX12_back 42 = .ok (.getfield 52, 3) := by decide +kernel
theorem dX12_back_45 : decode cX12_back 45 = .ok (.bipush 32, 2) := by decide +kernel
theorem dX12_back_47 : decode cX12_back 47 = .ok (.iaload, 1) := by decide +kernel
theorem dX12_back_48 : decode cX12_back 48 = .ok (.ireturn, 1) := by decide +kernel
theorem dX12_count_0 : decode cX12_count 0 = .ok (.iload_n 1, 1) := by decide +kernel
theorem dX12_count_1 : decode cX12_count 1 = .ok (.tableswitch 114 0 9 #[55, 60, 65, 70, 75, 83, 91, 96, 101, 109], 55) := by decide +kernel
theorem dX12_count_56 : decode cX12_count 56 = .ok (.aload_n 0, 1) := by decide +kernel
theorem dX12_count_57 : decode cX12_count 57 = .ok (.getfield 245, 3) := by decide +kernel
theorem dX12_count_60 : decode cX12_count 60 = .ok (.ireturn, 1) := by decide +kernel
theorem dX12_count_61 : decode cX12_count 61 = .ok (.aload_n 0, 1) := by decide +kernel
theorem dX12_count_62 : decode cX12_count 62 = .ok (.getfield 264, 3) := by decide +kernel
theorem dX12_count_65 : decode cX12_count 65 = .ok (.ireturn, 1) := by decide +kernel
theorem dX12_count_66 : decode cX12_count 66 = .ok (.aload_n 0, 1) := by decide +kernel
theorem dX12_count_67 : decode cX12_count 67 = .ok (.getfield 100, 3) := by decide +kernel
theorem dX12_count_70 : decode cX12_count 70 = .ok (.ireturn, 1) := by decide +kernel
theorem dX12_count_71 : decode cX12_count 71 = .ok (.aload_n 0, 1) := by decide +kernel
theorem dX12_count_72 : decode cX12_count 72 = .ok (.getfield 58, 3) := by decide +kernel
theorem dX12_count_75 : decode cX12_count 75 = .ok (.ireturn, 1) := by decide +kernel
theorem dX12_count_76 : decode cX12_count 76 = .ok (.aload_n 0, 1) := by decide +kernel
theorem dX12_count_77 : decode cX12_count 77 = .ok (.getfield 52, 3) := by decide +kernel
theorem dX12_count_80 : decode cX12_count 80 = .ok (.bipush 32, 2) := by decide +kernel
theorem dX12_count_82 : decode cX12_count 82 = .ok (.iaload, 1) := by decide +kernel
theorem dX12_count_83 : decode cX12_count 83 = .ok (.ireturn, 1) := by decide +kernel
theorem dX12_count_84 : decode cX12_count 84 = .ok (.aload_n 0, 1) := by decide +kernel
theorem dX12_count_85 : decode cX12_count 85 = .ok (.getfield 52, 3) := by decide +kernel
theorem dX12_count_88 : decode cX12_count 88 = .ok (.bipush 29, 2) := by decide +kernel
theorem dX12_count_90 : decode cX12_count 90 = .ok (.iaload, 1) := by decide +kernel
theorem dX12_count_91 : decode cX12_count 91 = .ok (.ireturn, 1) := by decide +kernel
theorem dX12_count_92 : decode cX12_count 92 = .ok (.aload_n 0, 1) := by decide +kernel
theorem dX12_count_93 : decode cX12_count 93 = .ok (.getfield 62, 3) := by decide +kernel
theorem dX12_count_96 : decode cX12_count 96 = .ok (.ireturn, 1) := by decide +kernel
theorem dX12_count_97 : decode cX12_count 97 = .ok (.aload_n 0, 1) := by decide +kernel
theorem dX12_count_98 : decode cX12_count 98 = .ok (.getfield 251, 3) := by decide +kernel
theorem dX12_count_101 : decode cX12_count 101 = .ok (.ireturn, 1) := by decide +kernel
theorem dX12_count_102 : decode cX12_count 102 = .ok (.aload_n 0, 1) := by decide +kernel
theorem dX12_count_103 : decode cX12_count 103 = .ok (.getfield 52, 3) := by decide +kernel
theorem dX12_count_106 : decode cX12_count 106 = .ok (.bipush 33, 2) := by decide +kernel
theorem dX12_count_108 : decode cX12_count 108 = .ok (.iaload, 1) := by decide +kernel
theorem dX12_count_109 : decode cX12_count 109 = .ok (.ireturn, 1) := by decide +kernel
theorem dX12_count_110 : decode cX12_count 110 = .ok (.aload_n 0, 1) := by decide +kernel
theorem dX12_count_111 : decode cX12_count 111 = .ok (.getfield 254, 3) := by decide +kernel
theorem dX12_count_114 : decode cX12_count 114 = .ok (.ireturn, 1) := by decide +kernel
theorem dX12_count_115 : decode cX12_count 115 = .ok (.ldc_w 407, 3) := by decide +kernel
theorem dX12_count_118 : decode cX12_count 118 = .ok (.ireturn, 1) := by decide +kernel
