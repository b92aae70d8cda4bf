theorem dX0_init_0 : decode cX0_init 0 = .ok (.aload_n 0, 1) := by decide +kernel
theorem dX0_init_1 : decode cX0_init 1 = .ok (.invokespecial 3, 3) := by decide +kernel
theorem dX0_init_4 : decode cX0_init 4 = .ok (.aload_n 0, 1) := by decide +kernel
theorem dX0_init_5 : decode cX0_init 5 = .ok (.new 9, 3) := by decide +kernel
theorem dX0_init_8 : decode cX0_init 8 = .ok (.dup, 1) := by decide +kernel
theorem dX0_init_9 : decode cX0_init 9 = .ok (.invokespecial 11, 3) := by decide +kernel
theorem dX0_init_12 : decode cX0_init 12 = .ok (.putfield 12, 3) := by decide +kernel
theorem dX0_init_15 : decode cX0_init 15 = .ok (.aload_n 0, 1) := by decide +kernel
theorem dX0_init_16 : decode cX0_init 16 = .ok (.bipush 7, 2) := by decide +kernel
theorem dX0_init_18 : decode cX0_init 18 = .ok (.newarray .int, 2) := by decide +kernel
theorem dX0_init_20 : decode cX0_init 20 = .ok (.putfield 18, 3) := by decide +kernel
theorem dX0_init_23 : decode cX0_init 23 = .ok (.aload_n 0, 1) := by decide +kernel
theorem dX0_init_24 : decode cX0_init 24 = .ok (.bipush 8, 2) := by decide +kernel
theorem dX0_init_26 : decode cX0_init 26 = .ok (.newarray .int, 2) := by decide +kernel
theorem dX0_init_28 : decode cX0_init 28 = .ok (.putfield 22, 3) := by decide +kernel
theorem dX0_init_31 : decode cX0_init 31 = .ok (.aload_n 0, 1) := by decide +kernel
theorem dX0_init_32 : decode cX0_init 32 = .ok (.sipush 896, 3) := by decide +kernel
theorem dX0_init_35 : decode cX0_init 35 = .ok (.newarray .int, 2) := by decide +kernel
theorem dX0_init_37 : decode cX0_init 37 = .ok (.putfield 25, 3) := by decide +kernel
theorem dX0_init_40 : decode cX0_init 40 = .ok (.aload_n 0, 1) := by decide +kernel
theorem dX0_init_41 : decode cX0_init 41 = .ok (.sipush 128, 3) := by decide +kernel
theorem dX0_init_44 : decode cX0_init 44 = .ok (.newarray .int, 2) := by decide +kernel
theorem dX0_init_46 : decode cX0_init 46 = .ok (.putfield 28, 3) := by decide +kernel
theorem dX0_init_49 : decode cX0_init 49 = .ok (.aload_n 0, 1) := by decide +kernel
theorem dX0_init_50 : decode cX0_init 50 = .ok (.bipush 7, 2) := by decide +kernel
theorem dX0_init_52 : decode cX0_init 52 = .ok (.newarray .int, 2) := by decide +kernel
theorem dX0_init_54 : decode cX0_init 54 = .ok (.putfield 31, 3) := by decide +kernel
theorem dX0_init_57 : decode cX0_init 57 = .ok (.aload_n 0, 1) := by decide +kernel
theorem dX0_init_58 : decode cX0_init 58 = .ok (.aload_n 1, 1) := by decide +kernel
theorem dX0_init_59 : decode cX0_init 59 = .ok (.putfield 34, 3) := by decide +kernel
theorem dX0_init_62 : decode cX0_init 62 = .ok (.aload_n 0, 1) := by decide +kernel
theorem dX0_init_63 : decode cX0_init 63 = .ok (.aload_n 2, 1) := by decide +kernel
theorem dX0_init_64 : decode cX0_init 64 = .ok (.putfield 38, 3) := by decide +kernel
theorem dX0_init_67 : decode cX0_init 67 = .ok (.aload_n 0, 1) := by decide +kernel
theorem dX0_init_68 : decode cX0_init 68 = .ok (.aload_n 3, 1) := by decide +kernel
theorem dX0_init_69 : decode cX0_init 69 = .ok (.putfield 42, 3) := by decide +kernel
theorem dX0_init_72 : decode cX0_init 72 = .ok (.return_, 1) := by decide +kernel
theorem dX0_partnersOf_0 : decode cX0_partnersOf 0 = .ok (.iconst 0, 1) := by decide +kernel
theorem dX0_partnersOf_1 : decode cX0_partnersOf 1 = .ok (.istore_n 2, 1) := by decide +kernel
theorem dX0_partnersOf_2 : decode cX0_partnersOf 2 = .ok (.aload_n 0, 1) := by decide +kernel
theorem dX0_partnersOf_3 : decode cX0_partnersOf 3 = .ok (.getfield 42, 3) := by decide +kernel
theorem dX0_partnersOf_6 : decode cX0_partnersOf 6 = .ok (.iload_n 1, 1) := by decide +kernel
theorem dX0_partnersOf_7 : decode cX0_partnersOf 7 = .ok (.invokevirtual 45, 3) := by decide +kernel
theorem dX0_partnersOf_10 : decode cX0_partnersOf 10 = .ok (.istore_n 3, 1) := by decide +kernel
theorem dX0_partnersOf_11 : decode cX0_partnersOf 11 = .ok (.iconst 0, 1) := by decide +kernel
theorem dX0_partnersOf_12 : decode cX0_partnersOf 12 = .ok (.istore 4, 2) := by decide +kernel
theorem dX0_partnersOf_14 : decode cX0_partnersOf 14 = .ok (.iload 4, 2) := by decide +kernel
theorem dX0_partnersOf_16 : decode cX0_partnersOf 16 = .ok (.aload_n 0, 1) := by decide +kernel
theorem dX0_partnersOf_17 : decode cX0_partnersOf 17 = .ok (.getfield 42, 3) := by decide +kernel
theorem dX0_partnersOf_20 : decode cX0_partnersOf 20 = .ok (.getfield 49, 3) := by decide +kernel
theorem dX0_partnersOf_23 : decode cX0_partnersOf 23 = .ok (.if_icmp .ge 47, 3) := by decide +kernel
theorem dX0_partnersOf_26 : decode cX0_partnersOf 26 = .ok (.aload_n 0, 1) := by decide +kernel
theorem dX0_partnersOf_27 : decode cX0_partnersOf 27 = .ok (.getfield 42, 3) := by decide +kernel
theorem dX0_partnersOf_30 : decode cX0_partnersOf 30 = .ok (.iload_n 1, 1) := by decide +kernel
theorem dX0_partnersOf_31 : decode cX0_partnersOf 31 = .ok (.iload 4, 2) := by decide +kernel
theorem dX0_partnersOf_33 : decode cX0_partnersOf 33 = .ok (.invokevirtual 53, 3) := by decide +kernel
theorem dX0_partnersOf_36 : decode cX0_partnersOf 36 = .ok (.ifCond .eq 28, 3) := by decide +kernel
theorem dX0_partnersOf_39 : decode cX0_partnersOf 39 = .ok (.aload_n 0, 1) := by decide +kernel
theorem dX0_partnersOf_40 : decode cX0_partnersOf 40 = .ok (.getfield 38, 3) := by decide +kernel
theorem dX0_partnersOf_43 : decode cX0_partnersOf 43 = .ok (.aload_n 0, 1) := by decide +kernel
theorem dX0_partnersOf_44 : decode cX0_partnersOf 44 = .ok (.getfield 42, 3) := by decide +kernel
theorem dX0_partnersOf_47 : decode cX0_partnersOf 47 = .ok (.iload_n 1, 1) := by decide +kernel
theorem dX0_partnersOf_48 : decode cX0_partnersOf 48 = .ok (.iload 4, 2) := by decide +kernel
theorem dX0_partnersOf_50 : decode cX0_partnersOf 50 = .ok (.iload_n 3, 1) := by decide +kernel
theorem dX0_partnersOf_51 : decode cX0_partnersOf 51 = .ok (.invokevirtual 57, 3) := by decide +kernel
theorem dX0_partnersOf_54 : decode cX0_partnersOf 54 = .ok (.ifCond .eq 10, 3) := by decide +kernel
theorem dX0_partnersOf_57 : decode cX0_partnersOf 57 = .ok (.iload_n 2, 1) := by decide +kernel
theorem dX0_partnersOf_58 : decode cX0_partnersOf 58 = .ok (.iconst 1, 1) := by decide +kernel
theorem dX0_partnersOf_59 : decode cX0_partnersOf 59 = .ok (.iload 4, 2) := by decide +kernel
theorem dX0_partnersOf_61 : decode cX0_partnersOf 61 = .ok (.ishl, 1) := by decide +kernel
theorem dX0_partnersOf_62 : decode cX0_partnersOf 62 = .ok (.ior, 1) := by decide +kernel
theorem dX0_partnersOf_63 : decode cX0_partnersOf 63 = .ok (.istore_n 2, 1) := by decide +kernel
theorem dX0_partnersOf_64 : decode cX0_partnersOf 64 = .ok (.iinc 4 1, 3) := by decide +kernel
theorem dX0_partnersOf_67 : decode cX0_partnersOf 67 = .ok (.goto (-53), 3) := by decide +kernel
theorem dX0_partnersOf_70 : decode cX0_partnersOf 70 = .ok (.iload_n 2, 1) := by decide +kernel
theorem dX0_partnersOf_71 : decode cX0_partnersOf 71 = .ok (.ireturn, 1) := by decide +kernel
theorem dX0_findKnots_0 : decode cX0_findKnots 0 = .ok (.aload_n 0, 1) := by decide +kernel
theorem dX0_findKnots_1 : decode cX0_findKnots 1 = .ok (.getfield 12, 3) := by decide +kernel
theorem dX0_findKnots_4 : decode cX0_findKnots 4 = .ok (.aload_n 0, 1) := by decide +kernel
theorem dX0_findKnots_5 : decode cX0_findKnots 5 = .ok (.getfield 42, 3) := by decide +kernel
theorem dX0_findKnots_8 : decode cX0_findKnots 8 = .ok (.invokevirtual 63, 3) := by decide +kernel
theorem dX0_findKnots_11 : decode cX0_findKnots 11 = .ok (.aload_n 0, 1) := by decide +kernel
theorem dX0_findKnots_12 : decode cX0_findKnots 12 = .ok (.getfield 22, 3) := by decide +kernel
theorem dX0_findKnots_15 : decode cX0_findKnots 15 = .ok (.aload_n 0, 1) := by decide +kernel
theorem dX0_findKnots_16 : decode cX0_findKnots 16 = .ok (.getfield 42, 3) := by decide +kernel
theorem dX0_findKnots_19 : decode cX0_findKnots 19 = .ok (.getfield 49, 3) := by decide +kernel
theorem dX0_findKnots_22 : decode cX0_findKnots 22 = .ok (.iconst 0, 1) := by decide +kernel
theorem dX0_findKnots_23 : decode cX0_findKnots 23 = .ok (.iastore, 1) := by decide +kernel
theorem dX0_findKnots_24 : decode cX0_findKnots 24 = .ok (.aload_n 0, 1) := by decide +kernel
theorem dX0_findKnots_25 : decode cX0_findKnots 25 = .ok (.getfield 42, 3) := by decide +kernel
theorem dX0_findKnots_28 : decode cX0_findKnots 28 = .ok (.getfield 49, 3) := by decide +kernel
theorem dX0_findKnots_31 : decode cX0_findKnots 31 = .ok (.iconst 1, 1) := by decide +kernel
theorem dX0_findKnots_32 : decode cX0_findKnots 32 = .ok (.isub, 1) := by decide +kernel
theorem dX0_findKnots_33 : decode cX0_findKnots 33 = .ok (.istore_n 1, 1) := by decide +kernel
theorem dX0_findKnots_34 : decode cX0_findKnots 34 = .ok (.iload_n 1, 1) := by decide +kernel
theorem dX0_findKnots_35 : decode cX0_findKnots 35 = .ok (.ifCond .lt 49, 3) := by decide +kernel
theorem dX0_findKnots_38 : decode cX0_findKnots 38 = .ok (.aload_n 0, 1) := by decide +kernel
theorem dX0_findKnots_39 : decode cX0_findKnots 39 = .ok (.getfield 18, 3) := by decide +kernel
theorem dX0_findKnots_42 : decode cX0_findKnots 42 = .ok (.iload_n 1, 1) := by decide +kernel
theorem dX0_findKnots_43 : decode cX0_findKnots 43 = .ok (.aload_n 0, 1) := by decide +kernel
theorem dX0_findKnots_44 : decode cX0_findKnots 44 = .ok (.iload_n 1, 1) := by decide +kernel
theorem dX0_findKnots_45 : decode cX0_findKnots 45 = .ok (.invokevirtual 67, 3) := by decide +kernel
theorem dX0_findKnots_48 : decode cX0_findKnots 48 = .ok (.iastore, 1) := by decide +kernel
theorem dX0_findKnots_49 : decode cX0_findKnots 49 = .ok (.aload_n 0, 1) := by decide +kernel
theorem dX0_findKnots_50 : decode cX0_findKnots 50 = .ok (.getfield 22, 3) := by decide +kernel
theorem dX0_findKnots_53 : decode cX0_findKnots 53 = .ok (.iload_n 1, 1) := by decide +kernel
theorem dX0_findKnots_54 : decode cX0_findKnots 54 = .ok (.aload_n 0, 1) := by decide +kernel
theorem dX0_findKnots_55 : decode cX0_findKnots 55 = .ok (.getfield 22, 3) := by decide +kernel
theorem dX0_findKnots_58 : decode cX0_findKnots 58 = .ok (.iload_n 1, 1) := by decide +kernel
theorem dX0_findKnots_59 : decode cX0_findKnots 59 = .ok (.iconst 1, 1) := by decide +kernel
theorem dX0_findKnots_60 : decode cX0_findKnots 60 = .ok (.iadd, 1) := by decide +kernel
theorem dX0_findKnots_61 : decode cX0_findKnots 61 = .ok (.iaload, 1) := by decide +kernel
theorem dX0_findKnots_62 : decode cX0_findKnots 62 = .ok (.aload_n 0, 1) := by decide +kernel
theorem dX0_findKnots_63 : decode cX0_findKnots 63 = .ok (.getfield 18, 3) := by decide +kernel
theorem dX0_findKnots_66 : decode cX0_findKnots 66 = .ok (.iload_n 1, 1) := by decide +kernel
theorem dX0_findKnots_67 : decode cX0_findKnots 67 = .ok (.iaload, 1) := by decide +kernel
theorem dX0_findKnots_68 : decode cX0_findKnots 68 = .ok (.ifCond .ne 7, 3) := by decide +kernel
theorem dX0_findKnots_71 : decode cX0_findKnots 71 = .ok (.iconst 0, 1) := by decide +kernel
theorem dX0_findKnots_72 : decode cX0_findKnots 72 = .ok (.goto 4, 3) := by decide +kernel
theorem dX0_findKnots_75 : decode cX0_findKnots 75 = .ok (.iconst 1, 1) := by decide +kernel
theorem dX0_findKnots_76 : decode cX0_findKnots 76 = .ok (.iadd, 1) := by decide +kernel
theorem dX0_findKnots_77 : decode cX0_findKnots 77 = .ok (.iastore, 1) := by decide +kernel
theorem dX0_findKnots_78 : decode cX0_findKnots 78 = .ok (.iinc 1 (-1), 3) := by decide +kernel
theorem dX0_findKnots_81 : decode cX0_findKnots 81 = .ok (.goto (-47), 3) := by decide +kernel
theorem dX0_findKnots_84 : decode cX0_findKnots 84 = .ok (.aload_n 0, 1) := by decide +kernel
theorem dX0_findKnots_85 : decode cX0_findKnots 85 = .ok (.iconst (-1), 1) := by decide +kernel
theorem dX0_findKnots_86 : decode cX0_findKnots 86 = .ok (.putfield 70, 3) := by decide +kernel
theorem dX0_findKnots_89 : decode cX0_findKnots 89 = .ok (.aload_n 0, 1) := by decide +kernel
theorem dX0_findKnots_90 : decode cX0_findKnots 90 = .ok (.aload_n 0, 1) := by decide +kernel
theorem dX0_findKnots_91 : decode cX0_findKnots 91 = .ok (.invokevirtual 73, 3) := by decide +kernel
theorem dX0_findKnots_94 : decode cX0_findKnots 94 = .ok (.iconst 1, 1) := by decide +kernel
theorem dX0_findKnots_95 : decode cX0_findKnots 95 = .ok (.isub, 1) := by decide +kernel
theorem dX0_findKnots_96 : decode cX0_findKnots 96 = .ok (.putfield 77, 3) := by decide +kernel
theorem dX0_findKnots_99 : decode cX0_findKnots 99 = .ok (.aload_n 0, 1) := by decide +kernel
theorem dX0_findKnots_100 : decode cX0_findKnots 100 = .ok (.iconst 0, 1) := by decide +kernel
theorem dX0_findKnots_101 : decode cX0_findKnots 101 = .ok (.iconst 0, 1) := by decide +kernel
theorem dX0_findKnots_102 : decode cX0_findKnots 102 = .ok (.iconst 0, 1) := by decide +kernel
theorem dX0_findKnots_103 : decode cX0_findKnots 103 = .ok (.invokevirtual 80, 3) := by decide +kernel
theorem dX0_findKnots_106 : decode cX0_findKnots 106 = .ok (.return_, 1) := by decide +kernel
theorem dX0_countBundles_0 : decode cX0_countBundles 0 = .ok (.iconst 0, 1) := by decide +kernel
theorem dX0_countBundles_1 : decode cX0_countBundles 1 = .ok (.istore_n 1, 1) := by decide +kernel
theorem dX0_countBundles_2 : decode cX0_countBundles 2 = .ok (.iconst 0, 1) := by decide +kernel
theorem dX0_countBundles_3 : decode cX0_countBundles 3 = .ok (.istore_n 2, 1) := by decide +kernel
theorem dX0_countBundles_4 : decode cX0_countBundles 4 = .ok (.iload_n 2, 1) := by decide +kernel
theorem dX0_countBundles_5 : decode cX0_countBundles 5 = .ok (.aload_n 0, 1) := by decide +kernel
theorem dX0_countBundles_6 : decode cX0_countBundles 6 = .ok (.getfield 42, 3) := by decide +kernel
theorem dX0_countBundles_9 : decode cX0_countBundles 9 = .ok (.getfield 49, 3) := by decide +kernel
theorem dX0_countBundles_12 : decode cX0_countBundles 12 = .ok (.if_icmp .ge 36, 3) := by decide +kernel
theorem dX0_countBundles_15 : decode cX0_countBundles 15 = .ok (.aload_n 0, 1) := by decide +kernel
theorem dX0_countBundles_16 : decode cX0_countBundles 16 = .ok (.getfield 42, 3) := by decide +kernel
theorem dX0_countBundles_19 : decode cX0_countBundles 19 = .ok (.iload_n 2, 1) := by decide +kernel
theorem dX0_countBundles_20 : decode cX0_countBundles 20 = .ok (.invokevirtual 84, 3) := by decide +kernel
theorem dX0_countBundles_23 : decode cX0_countBundles 23 = .ok (.ifCond .ne 19, 3) := by decide +kernel
theorem dX0_countBundles_26 : decode cX0_countBundles 26 = .ok (.aload_n 0, 1) := by decide +kernel
theorem dX0_countBundles_27 : decode cX0_countBundles 27 = .ok (.getfield 42, 3) := by decide +kernel
theorem dX0_countBundles_30 : decode cX0_countBundles 30 = .ok (.getfield 88, 3) := by decide +kernel
theorem dX0_countBundles_33 : decode cX0_countBundles 33 = .ok (.iload_n 2, 1) := by decide +kernel
theorem dX0_countBundles_34 : decode cX0_countBundles 34 = .ok (.iaload, 1) := by decide +kernel
theorem dX0_countBundles_35 : decode cX0_countBundles 35 = .ok (.iconst (-1), 1) := by decide +kernel
theorem dX0_countBundles_36 : decode cX0_countBundles 36 = .ok (.if_icmp .ne 6, 3) := by decide +kernel
theorem dX0_countBundles_39 : decode cX0_countBundles 39 = .ok (.iinc 1 1, 3) := by decide +kernel
theorem dX0_countBundles_42 : decode cX0_countBundles 42 = .ok (.iinc 2 1, 3) := by decide +kernel
theorem dX0_countBundles_45 : decode cX0_countBundles 45 = .ok (.goto (-41), 3) := by decide +kernel
theorem dX0_countBundles_48 : decode cX0_countBundles 48 = .ok (.iload_n 1, 1) := by decide +kernel
theorem dX0_countBundles_49 : decode cX0_countBundles 49 = .ok (.ireturn, 1) := by decide +kernel
theorem dX0_chooseKnot_0 : decode cX0_chooseKnot 0 = .ok (.iload_n 1, 1) := by decide +kernel
theorem dX0_chooseKnot_1 : decode cX0_chooseKnot 1 = .ok (.aload_n 0, 1) := by decide +kernel
theorem dX0_chooseKnot_2 : decode cX0_chooseKnot 2 = .ok (.getfield 42, 3) := by decide +kernel
theorem dX0_chooseKnot_5 : decode cX0_chooseKnot 5 = .ok (.getfield 49, 3) := by decide +kernel
theorem dX0_chooseKnot_8 : decode cX0_chooseKnot 8 = .ok (.if_icmp .gt 37, 3) := by decide +kernel
theorem dX0_chooseKnot_11 : decode cX0_chooseKnot 11 = .ok (.iload_n 2, 1) := by decide +kernel
theorem dX0_chooseKnot_12 : decode cX0_chooseKnot 12 = .ok (.aload_n 0, 1) := by decide +kernel
theorem dX0_chooseKnot_13 : decode cX0_chooseKnot 13 = .ok (.getfield 22, 3) := by decide +kernel
theorem dX0_chooseKnot_16 : decode cX0_chooseKnot 16 = .ok (.iload_n 1, 1) := by decide +kernel
theorem dX0_chooseKnot_17 : decode cX0_chooseKnot 17 = .ok (.iaload, 1) := by decide +kernel
theorem dX0_chooseKnot_18 : decode cX0_chooseKnot 18 = .ok (.iadd, 1) := by decide +kernel
theorem dX0_chooseKnot_19 : decode cX0_chooseKnot 19 = .ok (.aload_n 0, 1) := by decide +kernel
theorem dX0_chooseKnot_20 : decode cX0_chooseKnot 20 = .ok (.getfield 70, 3) := by decide +kernel
theorem dX0_chooseKnot_23 : decode cX0_chooseKnot 23 = .ok (.if_icmp .le 22, 3) := by decide +kernel
theorem dX0_chooseKnot_26 : decode cX0_chooseKnot 26 = .ok (.aload_n 0, 1) := by decide +kernel
theorem dX0_chooseKnot_27 : decode cX0_chooseKnot 27 = .ok (.getfield 70, 3) := by decide +kernel
theorem dX0_chooseKnot_30 : decode cX0_chooseKnot 30 = .ok (.iconst (-1), 1) := by decide +kernel
theorem dX0_chooseKnot_31 : decode cX0_chooseKnot 31 = .ok (.if_icmp .eq 15, 3) := by decide +kernel
theorem dX0_chooseKnot_34 : decode cX0_chooseKnot 34 = .ok (.aload_n 0, 1) := by decide +kernel
theorem dX0_chooseKnot_35 : decode cX0_chooseKnot 35 = .ok (.getfield 70, 3) := by decide +kernel
theorem dX0_chooseKnot_38 : decode cX0_chooseKnot 38 = .ok (.aload_n 0, 1) := by decide +kernel
theorem dX0_chooseKnot_39 : decode cX0_chooseKnot 39 = .ok (.getfield 77, 3) := by decide +kernel
theorem dX0_chooseKnot_42 : decode cX0_chooseKnot 42 = .ok (.if_icmp .lt 4, 3) := by decide +kernel
theorem dX0_chooseKnot_45 : decode cX0_chooseKnot 45 = .ok (.return_, 1) := by decide +kernel
theorem dX0_chooseKnot_46 : decode cX0_chooseKnot 46 = .ok (.iload_n 1, 1) := by decide +kernel
theorem dX0_chooseKnot_47 : decode cX0_chooseKnot 47 = .ok (.aload_n 0, 1) := by decide +kernel
theorem dX0_chooseKnot_48 : decode cX0_chooseKnot 48 = .ok (.getfield 42, 3) := by decide +kernel
theorem dX0_chooseKnot_51 : decode cX0_chooseKnot 51 = .ok (.getfield 49, 3) := by decide +kernel
theorem dX0_chooseKnot_54 : decode cX0_chooseKnot 54 = .ok (.if_icmp .ne 14, 3) := by decide +kernel
theorem dX0_chooseKnot_57 : decode cX0_chooseKnot 57 = .ok (.aload_n 0, 1) := by decide +kernel
theorem dX0_chooseKnot_58 : decode cX0_chooseKnot 58 = .ok (.iload_n 2, 1) := by decide +kernel
theorem dX0_chooseKnot_59 : decode cX0_chooseKnot 59 = .ok (.putfield 70, 3) := by decide +kernel
theorem dX0_chooseKnot_62 : decode cX0_chooseKnot 62 = .ok (.aload_n 0, 1) := by decide +kernel
theorem dX0_chooseKnot_63 : decode cX0_chooseKnot 63 = .ok (.iload_n 3, 1) := by decide +kernel
theorem dX0_chooseKnot_64 : decode cX0_chooseKnot 64 = .ok (.putfield 91, 3) := by decide +kernel
theorem dX0_chooseKnot_67 : decode cX0_chooseKnot 67 = .ok (.return_, 1) := by decide +kernel
theorem dX0_chooseKnot_68 : decode cX0_chooseKnot 68 = .ok (.iconst 0, 1) := by decide +kernel
theorem dX0_chooseKnot_69 : decode cX0_chooseKnot 69 = .ok (.istore 4, 2) := by decide +kernel
theorem dX0_chooseKnot_71 : decode cX0_chooseKnot 71 = .ok (.iload 4, 2) := by decide +kernel
theorem dX0_chooseKnot_73 : decode cX0_chooseKnot 73 = .ok (.aload_n 0, 1) := by decide +kernel
theorem dX0_chooseKnot_74 : decode cX0_chooseKnot 74 = .ok (.getfield 42, 3) := by decide +kernel
theorem dX0_chooseKnot_77 : decode cX0_chooseKnot 77 = .ok (.getfield 49, 3) := by decide +kernel
theorem dX0_chooseKnot_80 : decode cX0_chooseKnot 80 = .ok (.if_icmp .ge 74, 3) := by decide +kernel
theorem dX0_chooseKnot_83 : decode cX0_chooseKnot 83 = .ok (.aload_n 0, 1) := by decide +kernel
theorem dX0_chooseKnot_84 : decode cX0_chooseKnot 84 = .ok (.getfield 18, 3) := by decide +kernel
theorem dX0_chooseKnot_87 : decode cX0_chooseKnot 87 = .ok (.iload_n 1, 1) := by decide +kernel
theorem dX0_chooseKnot_88 : decode cX0_chooseKnot 88 = .ok (.iaload, 1) := by decide +kernel
theorem dX0_chooseKnot_89 : decode cX0_chooseKnot 89 = .ok (.iload 4, 2) := by decide +kernel
theorem dX0_chooseKnot_91 : decode cX0_chooseKnot 91 = .ok (.ishr, 1) := by decide +kernel
theorem dX0_chooseKnot_92 : decode cX0_chooseKnot 92 = .ok (.iconst 1, 1) := by decide +kernel
theorem dX0_chooseKnot_93 : decode cX0_chooseKnot 93 = .ok (.iand, 1) := by decide +kernel
theorem dX0_chooseKnot_94 : decode cX0_chooseKnot 94 = .ok (.iconst 1, 1) := by decide +kernel
theorem dX0_chooseKnot_95 : decode cX0_chooseKnot 95 = .ok (.if_icmp .ne 53, 3) := by decide +kernel
theorem dX0_chooseKnot_98 : decode cX0_chooseKnot 98 = .ok (.aload_n 0, 1) := by decide +kernel
theorem dX0_chooseKnot_99 : decode cX0_chooseKnot 99 = .ok (.getfield 12, 3) := by decide +kernel
theorem dX0_chooseKnot_102 : decode cX0_chooseKnot 102 = .ok (.iload_n 1, 1) := by decide +kernel
theorem dX0_chooseKnot_103 : decode cX0_chooseKnot 103 = .ok (.iload 4, 2) := by decide +kernel
theorem dX0_chooseKnot_105 : decode cX0_chooseKnot 105 = .ok (.invokevirtual 53, 3) := by decide +kernel
theorem dX0_chooseKnot_108 : decode cX0_chooseKnot 108 = .ok (.ifCond .eq 40, 3) := by decide +kernel
theorem dX0_chooseKnot_111 : decode cX0_chooseKnot 111 = .ok (.aload_n 0, 1) := by decide +kernel
theorem dX0_chooseKnot_112 : decode cX0_chooseKnot 112 = .ok (.getfield 12, 3) := by decide +kernel
theorem dX0_chooseKnot_115 : decode cX0_chooseKnot 115 = .ok (.iload_n 1, 1) := by decide +kernel
theorem dX0_chooseKnot_116 : decode cX0_chooseKnot 116 = .ok (.iload 4, 2) := by decide +kernel
theorem dX0_chooseKnot_118 : decode cX0_chooseKnot 118 = .ok (.invokevirtual 94, 3) := by decide +kernel
theorem dX0_chooseKnot_121 : decode cX0_chooseKnot 121 = .ok (.aload_n 0, 1) := by decide +kernel
theorem dX0_chooseKnot_122 : decode cX0_chooseKnot 122 = .ok (.iload_n 1, 1) := by decide +kernel
theorem dX0_chooseKnot_123 : decode cX0_chooseKnot 123 = .ok (.iconst 1, 1) := by decide +kernel
theorem dX0_chooseKnot_124 : decode cX0_chooseKnot 124 = .ok (.iadd, 1) := by decide +kernel
theorem dX0_chooseKnot_125 : decode cX0_chooseKnot 125 = .ok (.iload_n 2, 1) := by decide +kernel
theorem dX0_chooseKnot_126 : decode cX0_chooseKnot 126 = .ok (.iconst 1, 1) := by decide +kernel
theorem dX0_chooseKnot_127 : decode cX0_chooseKnot 127 = .ok (.iadd, 1) := by decide +kernel
theorem dX0_chooseKnot_128 : decode cX0_chooseKnot 128 = .ok (.iload_n 3, 1) := by decide +kernel
theorem dX0_chooseKnot_129 : decode cX0_chooseKnot 129 = .ok (.bipush 10, 2) := by decide +kernel
theorem dX0_chooseKnot_131 : decode cX0_chooseKnot 131 = .ok (.imul, 1) := by decide +kernel
theorem dX0_chooseKnot_132 : decode cX0_chooseKnot 132 = .ok (.iload 4, 2) := by decide +kernel
theorem dX0_chooseKnot_134 : decode cX0_chooseKnot 134 = .ok (.iadd, 1) := by decide +kernel
theorem dX0_chooseKnot_135 : decode cX0_chooseKnot 135 = .ok (.invokevirtual 80, 3) := by decide +kernel
theorem dX0_chooseKnot_138 : decode cX0_chooseKnot 138 = .ok (.aload_n 0, 1) := by decide +kernel
theorem dX0_chooseKnot_139 : decode cX0_chooseKnot 139 = .ok (.getfield 12, 3) := by decide +kernel
theorem dX0_chooseKnot_142 : decode cX0_chooseKnot 142 = .ok (.iload_n 1, 1) := by decide +kernel
theorem dX0_chooseKnot_143 : decode cX0_chooseKnot 143 = .ok (.iload 4, 2) := by decide +kernel
theorem dX0_chooseKnot_145 : decode cX0_chooseKnot 145 = .ok (.invokevirtual 98, 3) := by decide +kernel
theorem dX0_chooseKnot_148 : decode cX0_chooseKnot 148 = .ok (.iinc 4 1, 3) := by decide +kernel
theorem dX0_chooseKnot_151 : decode cX0_chooseKnot 151 = .ok (.goto (-80), 3) := by decide +kernel
theorem dX0_chooseKnot_154 : decode cX0_chooseKnot 154 = .ok (.aload_n 0, 1) := by decide +kernel
theorem dX0_chooseKnot_155 : decode cX0_chooseKnot 155 = .ok (.iload_n 1, 1) := by decide +kernel
theorem dX0_chooseKnot_156 : decode cX0_chooseKnot 156 = .ok (.iconst 1, 1) := by decide +kernel
theorem dX0_chooseKnot_157 : decode cX0_chooseKnot 157 = .ok (.iadd, 1) := by decide +kernel
theorem dX0_chooseKnot_158 : decode cX0_chooseKnot 158 = .ok (.iload_n 2, 1) := by decide +kernel
theorem dX0_chooseKnot_159 : decode cX0_chooseKnot 159 = .ok (.iload_n 3, 1) := by decide +kernel
theorem dX0_chooseKnot_160 : decode cX0_chooseKnot 160 = .ok (.bipush 10, 2) := by decide +kernel
theorem dX0_chooseKnot_162 : decode cX0_chooseKnot 162 = .ok (.imul, 1) := by decide +kernel
theorem dX0_chooseKnot_163 : decode cX0_chooseKnot 163 = .ok (.bipush 9, 2) := by decide +kernel
theorem dX0_chooseKnot_165 : decode cX0_chooseKnot 165 = .ok (.iadd, 1) := by decide +kernel
theorem dX0_chooseKnot_166 : decode cX0_chooseKnot 166 = .ok (.invokevirtual 80, 3) := by decide +kernel
theorem dX0_chooseKnot_169 : decode cX0_chooseKnot 169 = .ok (.return_, 1) := by decide +kernel
theorem dX0_findTale_0 : decode cX0_findTale 0 = .ok (.aload_n 0, 1) := by decide +kernel
theorem dX0_findTale_1 : decode cX0_findTale 1 = .ok (.getfield 42, 3) := by decide +kernel
theorem dX0_findTale_4 : decode cX0_findTale 4 = .ok (.invokevirtual 101, 3) := by decide +kernel
theorem dX0_findTale_7 : decode cX0_findTale 7 = .ok (.istore_n 1, 1) := by decide +kernel
theorem dX0_findTale_8 : decode cX0_findTale 8 = .ok (.aload_n 0, 1) := by decide +kernel
theorem dX0_findTale_9 : decode cX0_findTale 9 = .ok (.getfield 25, 3) := by decide +kernel
theorem dX0_findTale_12 : decode cX0_findTale 12 = .ok (.iconst (-1), 1) := by decide +kernel
theorem dX0_findTale_13 : decode cX0_findTale 13 = .ok (.invokestatic 104, 3) := by decide +kernel
theorem dX0_findTale_16 : decode cX0_findTale 16 = .ok (.iconst 0, 1) := by decide +kernel
theorem dX0_findTale_17 : decode cX0_findTale 17 = .ok (.istore_n 2, 1) := by decide +kernel
theorem dX0_findTale_18 : decode cX0_findTale 18 = .ok (.iload_n 2, 1) := by decide +kernel
theorem dX0_findTale_19 : decode cX0_findTale 19 = .ok (.aload_n 0, 1) := by decide +kernel
theorem dX0_findTale_20 : decode cX0_findTale 20 = .ok (.getfield 42, 3) := by decide +kernel
theorem dX0_findTale_23 : decode cX0_findTale 23 = .ok (.getfield 49, 3) := by decide +kernel
theorem dX0_findTale_26 : decode cX0_findTale 26 = .ok (.if_icmp .ge 32, 3) := by decide +kernel
theorem dX0_findTale_29 : decode cX0_findTale 29 = .ok (.iload_n 1, 1) := by decide +kernel
theorem dX0_findTale_30 : decode cX0_findTale 30 = .ok (.iload_n 2, 1) := by decide +kernel
theorem dX0_findTale_31 : decode cX0_findTale 31 = .ok (.ishr, 1) := by decide +kernel
theorem dX0_findTale_32 : decode cX0_findTale 32 = .ok (.iconst 1, 1) := by decide +kernel
theorem dX0_findTale_33 : decode cX0_findTale 33 = .ok (.iand, 1) := by decide +kernel
theorem dX0_findTale_34 : decode cX0_findTale 34 = .ok (.iconst 1, 1) := by decide +kernel
theorem dX0_findTale_35 : decode cX0_findTale 35 = .ok (.if_icmp .ne 17, 3) := by decide +kernel
theorem dX0_findTale_38 : decode cX0_findTale 38 = .ok (.aload_n 0, 1) := by decide +kernel
theorem dX0_findTale_39 : decode cX0_findTale 39 = .ok (.getfield 25, 3) := by decide +kernel
theorem dX0_findTale_42 : decode cX0_findTale 42 = .ok (.iconst 1, 1) := by decide +kernel
theorem dX0_findTale_43 : decode cX0_findTale 43 = .ok (.iload_n 2, 1) := by decide +kernel
theorem dX0_findTale_44 : decode cX0_findTale 44 = .ok (.ishl, 1) := by decide +kernel
theorem dX0_findTale_45 : decode cX0_findTale 45 = .ok (.bipush 7, 2) := by decide +kernel
theorem dX0_findTale_47 : decode cX0_findTale 47 = .ok (.imul, 1) := by decide +kernel
theorem dX0_findTale_48 : decode cX0_findTale 48 = .ok (.iload_n 2, 1) := by decide +kernel
theorem dX0_findTale_49 : decode cX0_findTale 49 = .ok (.iadd, 1) := by decide +kernel
theorem dX0_findTale_50 : decode cX0_findTale 50 = .ok (.iload_n 2, 1) := by decide +kernel
theorem dX0_findTale_51 : decode cX0_findTale 51 = .ok (.iastore, 1) := by decide +kernel
theorem dX0_findTale_52 : decode cX0_findTale 52 = .ok (.iinc 2 1, 3) := by decide +kernel
theorem dX0_findTale_55 : decode cX0_findTale 55 = .ok (.goto (-37), 3) := by decide +kernel
theorem dX0_findTale_58 : decode cX0_findTale 58 = .ok (.iconst 1, 1) := by decide +kernel
theorem dX0_findTale_59 : decode cX0_findTale 59 = .ok (.istore_n 2, 1) := by decide +kernel
theorem dX0_findTale_60 : decode cX0_findTale 60 = .ok (.iload_n 2, 1) := by decide +kernel
theorem dX0_findTale_61 : decode cX0_findTale 61 = .ok (.aload_n 0, 1) := by decide +kernel
theorem dX0_findTale_62 : decode cX0_findTale 62 = .ok (.getfield 42, 3) := by decide +kernel
theorem dX0_findTale_65 : decode cX0_findTale 65 = .ok (.getfield 49, 3) := by decide +kernel
theorem dX0_findTale_68 : decode cX0_findTale 68 = .ok (.if_icmp .ge 20, 3) := by decide +kernel
theorem dX0_findTale_71 : decode cX0_findTale 71 = .ok (.aload_n 0, 1) := by decide +kernel
theorem dX0_findTale_72 : decode cX0_findTale 72 = .ok (.iload_n 1, 1) := by decide +kernel
theorem dX0_findTale_73 : decode cX0_findTale 73 = .ok (.iload_n 2, 1) := by decide +kernel
theorem dX0_findTale_74 : decode cX0_findTale 74 = .ok (.invokevirtual 110, 3) := by decide +kernel
theorem dX0_findTale_77 : decode cX0_findTale 77 = .ok (.aload_n 0, 1) := by decide +kernel
theorem dX0_findTale_78 : decode cX0_findTale 78 = .ok (.iload_n 2, 1) := by decide +kernel
theorem dX0_findTale_79 : decode cX0_findTale 79 = .ok (.invokevirtual 113, 3) := by decide +kernel
theorem dX0_findTale_82 : decode cX0_findTale 82 = .ok (.iinc 2 1, 3) := by decide +kernel
theorem dX0_findTale_85 : decode cX0_findTale 85 = .ok (.goto (-25), 3) := by decide +kernel
theorem dX0_findTale_88 : decode cX0_findTale 88 = .ok (.aload_n 0, 1) := by decide +kernel
theorem dX0_findTale_89 : decode cX0_findTale 89 = .ok (.iconst 0, 1) := by decide +kernel
theorem dX0_findTale_90 : decode cX0_findTale 90 = .ok (.putfield 70, 3) := by decide +kernel
theorem dX0_findTale_93 : decode cX0_findTale 93 = .ok (.aload_n 0, 1) := by decide +kernel
theorem dX0_findTale_94 : decode cX0_findTale 94 = .ok (.iconst (-1), 1) := by decide +kernel
theorem dX0_findTale_95 : decode cX0_findTale 95 = .ok (.putfield 91, 3) := by decide +kernel
theorem dX0_findTale_98 : decode cX0_findTale 98 = .ok (.iconst 0, 1) := by decide +kernel
theorem dX0_findTale_99 : decode cX0_findTale 99 = .ok (.istore_n 2, 1) := by decide +kernel
theorem dX0_findTale_100 : decode cX0_findTale 100 = .ok (.iconst 1, 1) := by decide +kernel
theorem dX0_findTale_101 : decode cX0_findTale 101 = .ok (.istore_n 3, 1) := by decide +kernel
theorem dX0_findTale_102 : decode cX0_findTale 102 = .ok (.iload_n 3, 1) := by decide +kernel
theorem dX0_findTale_103 : decode cX0_findTale 103 = .ok (.iconst 1, 1) := by decide +kernel
theorem dX0_findTale_104 : decode cX0_findTale 104 = .ok (.aload_n 0, 1) := by decide +kernel
theorem dX0_findTale_105 : decode cX0_findTale 105 = .ok (.getfield 42, 3) := by decide +kernel
theorem dX0_findTale_108 : decode cX0_findTale 108 = .ok (.getfield 49, 3) := by decide +kernel
theorem dX0_findTale_111 : decode cX0_findTale 111 = .ok (.ishl, 1) := by decide +kernel
theorem dX0_findTale_112 : decode cX0_findTale 112 = .ok (.if_icmp .ge 53, 3) := by decide +kernel
theorem dX0_findTale_115 : decode cX0_findTale 115 = .ok (.aload_n 0, 1) := by decide +kernel
theorem dX0_findTale_116 : decode cX0_findTale 116 = .ok (.iload_n 3, 1) := by decide +kernel
theorem dX0_findTale_117 : decode cX0_findTale 117 = .ok (.invokevirtual 117, 3) := by decide +kernel
theorem dX0_findTale_120 : decode cX0_findTale 120 = .ok (.istore 4, 2) := by decide +kernel
theorem dX0_findTale_122 : decode cX0_findTale 122 = .ok (.iload 4, 2) := by decide +kernel
theorem dX0_findTale_124 : decode cX0_findTale 124 = .ok (.iconst (-1), 1) := by decide +kernel
theorem dX0_findTale_125 : decode cX0_findTale 125 = .ok (.if_icmp .eq 34, 3) := by decide +kernel
theorem dX0_findTale_128 : decode cX0_findTale 128 = .ok (.aload_n 0, 1) := by decide +kernel
theorem dX0_findTale_129 : decode cX0_findTale 129 = .ok (.iload_n 3, 1) := by decide +kernel
theorem dX0_findTale_130 : decode cX0_findTale 130 = .ok (.iload 4, 2) := by decide +kernel
theorem dX0_findTale_132 : decode cX0_findTale 132 = .ok (.iload_n 2, 1) := by decide +kernel
theorem dX0_findTale_133 : decode cX0_findTale 133 = .ok (.invokevirtual 120, 3) := by decide +kernel
theorem dX0_findTale_136 : decode cX0_findTale 136 = .ok (.ifCond .eq 23, 3) := by decide +kernel
theorem dX0_findTale_139 : decode cX0_findTale 139 = .ok (.iload_n 3, 1) := by decide +kernel
theorem dX0_findTale_140 : decode cX0_findTale 140 = .ok (.istore_n 2, 1) := by decide +kernel
theorem dX0_findTale_141 : decode cX0_findTale 141 = .ok (.aload_n 0, 1) := by decide +kernel
theorem dX0_findTale_142 : decode cX0_findTale 142 = .ok (.aload_n 0, 1) := by decide +kernel
theorem dX0_findTale_143 : decode cX0_findTale 143 = .ok (.getfield 42, 3) := by decide +kernel
theorem dX0_findTale_146 : decode cX0_findTale 146 = .ok (.iload_n 3, 1) := by decide +kernel
theorem dX0_findTale_147 : decode cX0_findTale 147 = .ok (.invokevirtual 124, 3) := by decide +kernel
theorem dX0_findTale_150 : decode cX0_findTale 150 = .ok (.putfield 70, 3) := by decide +kernel
theorem dX0_findTale_153 : decode cX0_findTale 153 = .ok (.aload_n 0, 1) := by decide +kernel
theorem dX0_findTale_154 : decode cX0_findTale 154 = .ok (.iload 4, 2) := by decide +kernel
theorem dX0_findTale_156 : decode cX0_findTale 156 = .ok (.putfield 91, 3) := by decide +kernel
theorem dX0_findTale_159 : decode cX0_findTale 159 = .ok (.iinc 3 1, 3) := by decide +kernel
theorem dX0_findTale_162 : decode cX0_findTale 162 = .ok (.goto (-60), 3) := by decide +kernel
theorem dX0_findTale_165 : decode cX0_findTale 165 = .ok (.return_, 1) := by decide +kernel
theorem dX0_findFollowers_0 : decode cX0_findFollowers 0 = .ok (.aload_n 0, 1) := by decide +kernel
theorem dX0_findFollowers_1 : decode cX0_findFollowers 1 = .ok (.getfield 18, 3) := by decide +kernel
theorem dX0_findFollowers_4 : decode cX0_findFollowers 4 = .ok (.iconst 0, 1) := by decide +kernel
theorem dX0_findFollowers_5 : decode cX0_findFollowers 5 = .ok (.invokestatic 104, 3) := by decide +kernel
theorem dX0_findFollowers_8 : decode cX0_findFollowers 8 = .ok (.iconst 0, 1) := by decide +kernel
theorem dX0_findFollowers_9 : decode cX0_findFollowers 9 = .ok (.istore_n 3, 1) := by decide +kernel
theorem dX0_findFollowers_10 : decode cX0_findFollowers 10 = .ok (.iload_n 3, 1) := by decide +kernel
theorem dX0_findFollowers_11 : decode cX0_findFollowers 11 = .ok (.aload_n 0, 1) := by decide +kernel
theorem dX0_findFollowers_12 : decode cX0_findFollowers 12 = .ok (.getfield 42, 3) := by decide +kernel
theorem dX0_findFollowers_15 : decode cX0_findFollowers 15 = .ok (.getfield 49, 3) := by decide +kernel
theorem dX0_findFollowers_18 : decode cX0_findFollowers 18 = .ok (.if_icmp .ge 95, 3) := by decide +kernel
theorem dX0_findFollowers_21 : decode cX0_findFollowers 21 = .ok (.iload_n 3, 1) := by decide +kernel
theorem dX0_findFollowers_22 : decode cX0_findFollowers 22 = .ok (.iconst 1, 1) := by decide +kernel
theorem dX0_findFollowers_23 : decode cX0_findFollowers 23 = .ok (.iadd, 1) := by decide +kernel
theorem dX0_findFollowers_24 : decode cX0_findFollowers 24 = .ok (.istore 4, 2) := by decide +kernel
theorem dX0_findFollowers_26 : decode cX0_findFollowers 26 = .ok (.iload 4, 2) := by decide +kernel
theorem dX0_findFollowers_28 : decode cX0_findFollowers 28 = .ok (.aload_n 0, 1) := by decide +kernel
theorem dX0_findFollowers_29 : decode cX0_findFollowers 29 = .ok (.getfield 42, 3) := by decide +kernel
theorem dX0_findFollowers_32 : decode cX0_findFollowers 32 = .ok (.getfield 49, 3) := by decide +kernel
theorem dX0_findFollowers_35 : decode cX0_findFollowers 35 = .ok (.if_icmp .ge 72, 3) := by decide +kernel
theorem dX0_findFollowers_38 : decode cX0_findFollowers 38 = .ok (.iconst 1, 1) := by decide +kernel
theorem dX0_findFollowers_39 : decode cX0_findFollowers 39 = .ok (.iload_n 3, 1) := by decide +kernel
theorem dX0_findFollowers_40 : decode cX0_findFollowers 40 = .ok (.ishl, 1) := by decide +kernel
theorem dX0_findFollowers_41 : decode cX0_findFollowers 41 = .ok (.iconst 1, 1) := by decide +kernel
theorem dX0_findFollowers_42 : decode cX0_findFollowers 42 = .ok (.iload 4, 2) := by decide +kernel
theorem dX0_findFollowers_44 : decode cX0_findFollowers 44 = .ok (.ishl, 1) := by decide +kernel
theorem dX0_findFollowers_45 : decode cX0_findFollowers 45 = .ok (.ior, 1) := by decide +kernel
theorem dX0_findFollowers_46 : decode cX0_findFollowers 46 = .ok (.istore 5, 2) := by decide +kernel
theorem dX0_findFollowers_48 : decode cX0_findFollowers 48 = .ok (.iload_n 1, 1) := by decide +kernel
theorem dX0_findFollowers_49 : decode cX0_findFollowers 49 = .ok (.iload 5, 2) := by decide +kernel
theorem dX0_findFollowers_51 : decode cX0_findFollowers 51 = .ok (.iand, 1) := by decide +kernel
theorem dX0_findFollowers_52 : decode cX0_findFollowers 52 = .ok (.iload 5, 2) := by decide +kernel
theorem dX0_findFollowers_54 : decode cX0_findFollowers 54 = .ok (.if_icmp .ne 47, 3) := by decide +kernel
theorem dX0_findFollowers_57 : decode cX0_findFollowers 57 = .ok (.aload_n 0, 1) := by decide +kernel
theorem dX0_findFollowers_58 : decode cX0_findFollowers 58 = .ok (.getfield 38, 3) := by decide +kernel
theorem dX0_findFollowers_61 : decode cX0_findFollowers 61 = .ok (.aload_n 0, 1) := by decide +kernel
theorem dX0_findFollowers_62 : decode cX0_findFollowers 62 = .ok (.getfield 42, 3) := by decide +kernel
theorem dX0_findFollowers_65 : decode cX0_findFollowers 65 = .ok (.iload_n 3, 1) := by decide +kernel
theorem dX0_findFollowers_66 : decode cX0_findFollowers 66 = .ok (.iload 4, 2) := by decide +kernel
theorem dX0_findFollowers_68 : decode cX0_findFollowers 68 = .ok (.iload_n 2, 1) := by decide +kernel
theorem dX0_findFollowers_69 : decode cX0_findFollowers 69 = .ok (.invokevirtual 57, 3) := by decide +kernel
theorem dX0_findFollowers_72 : decode cX0_findFollowers 72 = .ok (.ifCond .eq 29, 3) := by decide +kernel
theorem dX0_findFollowers_75 : decode cX0_findFollowers 75 = .ok (.aload_n 0, 1) := by decide +kernel
theorem dX0_findFollowers_76 : decode cX0_findFollowers 76 = .ok (.getfield 18, 3) := by decide +kernel
theorem dX0_findFollowers_79 : decode cX0_findFollowers 79 = .ok (.iload_n 3, 1) := by decide +kernel
theorem dX0_findFollowers_80 : decode cX0_findFollowers 80 = .ok (.dup2, 1) := by decide +kernel
theorem dX0_findFollowers_81 : decode cX0_findFollowers 81 = .ok (.iaload, 1) := by decide +kernel
theorem dX0_findFollowers_82 : decode cX0_findFollowers 82 = .ok (.iconst 1, 1) := by decide +kernel
theorem dX0_findFollowers_83 : decode cX0_findFollowers 83 = .ok (.iload 4, 2) := by decide +kernel
theorem dX0_findFollowers_85 : decode cX0_findFollowers 85 = .ok (.ishl, 1) := by decide +kernel
theorem dX0_findFollowers_86 : decode cX0_findFollowers 86 = .ok (.ior, 1) := by decide +kernel
theorem dX0_findFollowers_87 : decode cX0_findFollowers 87 = .ok (.iastore, 1) := by decide +kernel
theorem dX0_findFollowers_88 : decode cX0_findFollowers 88 = .ok (.aload_n 0, 1) := by decide +kernel
theorem dX0_findFollowers_89 : decode cX0_findFollowers 89 = .ok (.getfield 18, 3) := by decide +kernel
theorem dX0_findFollowers_92 : decode cX0_findFollowers 92 = .ok (.iload 4, 2) := by decide +kernel
theorem dX0_findFollowers_94 : decode cX0_findFollowers 94 = .ok (.dup2, 1) := by decide +kernel
theorem dX0_findFollowers_95 : decode cX0_findFollowers 95 = .ok (.iaload, 1) := by decide +kernel
theorem dX0_findFollowers_96 : decode cX0_findFollowers 96 = .ok (.iconst 1, 1) := by decide +kernel
theorem dX0_findFollowers_97 : decode cX0_findFollowers 97 = .ok (.iload_n 3, 1) := by decide +kernel
theorem dX0_findFollowers_98 : decode cX0_findFollowers 98 = .ok (.ishl, 1) := by decide +kernel
theorem dX0_findFollowers_99 : decode cX0_findFollowers 99 = .ok (.ior, 1) := by decide +kernel
theorem dX0_findFollowers_100 : decode cX0_findFollowers 100 = .ok (.iastore, 1) := by decide +kernel
theorem dX0_findFollowers_101 : decode cX0_findFollowers 101 = .ok (.iinc 4 1, 3) := by decide +kernel
theorem dX0_findFollowers_104 : decode cX0_findFollowers 104 = .ok (.goto (-78), 3) := by decide +kernel
theorem dX0_findFollowers_107 : decode cX0_findFollowers 107 = .ok (.iinc 3 1, 3) := by decide +kernel
theorem dX0_findFollowers_110 : decode cX0_findFollowers 110 = .ok (.goto (-100), 3) := by decide +kernel
theorem dX0_findFollowers_113 : decode cX0_findFollowers 113 = .ok (.return_, 1) := by decide +kernel
theorem dX0_lengthenRows_0 : decode cX0_lengthenRows 0 = .ok (.iconst 1, 1) := by decide +kernel
theorem dX0_lengthenRows_1 : decode cX0_lengthenRows 1 = .ok (.istore_n 2, 1) := by decide +kernel
theorem dX0_lengthenRows_2 : decode cX0_lengthenRows 2 = .ok (.iload_n 2, 1) := by decide +kernel
theorem dX0_lengthenRows_3 : decode cX0_lengthenRows 3 = .ok (.iconst 1, 1) := by decide +kernel
theorem dX0_lengthenRows_4 : decode cX0_lengthenRows 4 = .ok (.aload_n 0, 1) := by decide +kernel
theorem dX0_lengthenRows_5 : decode cX0_lengthenRows 5 = .ok (.getfield 42, 3) := by decide +kernel
theorem dX0_lengthenRows_8 : decode cX0_lengthenRows 8 = .ok (.getfield 49, 3) := by decide +kernel
theorem dX0_lengthenRows_11 : decode cX0_lengthenRows 11 = .ok (.ishl, 1) := by decide +kernel
theorem dX0_lengthenRows_12 : decode cX0_lengthenRows 12 = .ok (.if_icmp .ge 42, 3) := by decide +kernel
theorem dX0_lengthenRows_15 : decode cX0_lengthenRows 15 = .ok (.iload_n 2, 1) := by decide +kernel
theorem dX0_lengthenRows_16 : decode cX0_lengthenRows 16 = .ok (.invokestatic 127, 3) := by decide +kernel
theorem dX0_lengthenRows_19 : decode cX0_lengthenRows 19 = .ok (.iload_n 1, 1) := by decide +kernel
theorem dX0_lengthenRows_20 : decode cX0_lengthenRows 20 = .ok (.if_icmp .ne 28, 3) := by decide +kernel
theorem dX0_lengthenRows_23 : decode cX0_lengthenRows 23 = .ok (.iconst 0, 1) := by decide +kernel
theorem dX0_lengthenRows_24 : decode cX0_lengthenRows 24 = .ok (.istore_n 3, 1) := by decide +kernel
theorem dX0_lengthenRows_25 : decode cX0_lengthenRows 25 = .ok (.iload_n 3, 1) := by decide +kernel
theorem dX0_lengthenRows_26 : decode cX0_lengthenRows 26 = .ok (.aload_n 0, 1) := by decide +kernel
theorem dX0_lengthenRows_27 : decode cX0_lengthenRows 27 = .ok (.getfield 42, 3) := by decide +kernel
theorem dX0_lengthenRows_30 : decode cX0_lengthenRows 30 = .ok (.getfield 49, 3) := by decide +kernel
theorem dX0_lengthenRows_33 : decode cX0_lengthenRows 33 = .ok (.if_icmp .ge 15, 3) := by decide +kernel
theorem dX0_lengthenRows_36 : decode cX0_lengthenRows 36 = .ok (.aload_n 0, 1) := by decide +kernel
theorem dX0_lengthenRows_37 : decode cX0_lengthenRows 37 = .ok (.iload_n 2, 1) := by decide +kernel
theorem dX0_lengthenRows_38 : decode cX0_lengthenRows 38 = .ok (.iload_n 3, 1) := by decide +kernel
theorem dX0_lengthenRows_39 : decode cX0_lengthenRows 39 = .ok (.invokevirtual 132, 3) := by decide +kernel
theorem dX0_lengthenRows_42 : decode cX0_lengthenRows 42 = .ok (.iinc 3 1, 3) := by decide +kernel
theorem dX0_lengthenRows_45 : decode cX0_lengthenRows 45 = .ok (.goto (-20), 3) := by decide +kernel
theorem dX0_lengthenRows_48 : decode cX0_lengthenRows 48 = .ok (.iinc 2 1, 3) := by decide +kernel
theorem dX0_lengthenRows_51 : decode cX0_lengthenRows 51 = .ok (.goto (-49), 3) := by decide +kernel
theorem dX0_lengthenRows_54 : decode cX0_lengthenRows 54 = .ok (.return_, 1) := by decide +kernel
theorem dX0_lengthenRow_0 : decode cX0_lengthenRow 0 = .ok (.aload_n 0, 1) := by decide +kernel
theorem dX0_lengthenRow_1 : decode cX0_lengthenRow 1 = .ok (.getfield 25, 3) := by decide +kernel
theorem dX0_lengthenRow_4 : decode cX0_lengthenRow 4 = .ok (.iload_n 1, 1) := by decide +kernel
theorem dX0_lengthenRow_5 : decode cX0_lengthenRow 5 = .ok (.bipush 7, 2) := by decide +kernel
theorem dX0_lengthenRow_7 : decode cX0_lengthenRow 7 = .ok (.imul, 1) := by decide +kernel
theorem dX0_lengthenRow_8 : decode cX0_lengthenRow 8 = .ok (.iload_n 2, 1) := by decide +kernel
theorem dX0_lengthenRow_9 : decode cX0_lengthenRow 9 = .ok (.iadd, 1) := by decide +kernel
theorem dX0_lengthenRow_10 : decode cX0_lengthenRow 10 = .ok (.iaload, 1) := by decide +kernel
theorem dX0_lengthenRow_11 : decode cX0_lengthenRow 11 = .ok (.istore_n 3, 1) := by decide +kernel
theorem dX0_lengthenRow_12 : decode cX0_lengthenRow 12 = .ok (.iload_n 3, 1) := by decide +kernel
theorem dX0_lengthenRow_13 : decode cX0_lengthenRow 13 = .ok (.iconst (-1), 1) := by decide +kernel
theorem dX0_lengthenRow_14 : decode cX0_lengthenRow 14 = .ok (.if_icmp .ne 4, 3) := by decide +kernel
theorem dX0_lengthenRow_17 : decode cX0_lengthenRow 17 = .ok (.return_, 1) := by decide +kernel
theorem dX0_lengthenRow_18 : decode cX0_lengthenRow 18 = .ok (.aload_n 0, 1) := by decide +kernel
theorem dX0_lengthenRow_19 : decode cX0_lengthenRow 19 = .ok (.getfield 18, 3) := by decide +kernel
theorem dX0_lengthenRow_22 : decode cX0_lengthenRow 22 = .ok (.iload_n 2, 1) := by decide +kernel
theorem dX0_lengthenRow_23 : decode cX0_lengthenRow 23 = .ok (.iaload, 1) := by decide +kernel
theorem dX0_lengthenRow_24 : decode cX0_lengthenRow 24 = .ok (.iload_n 1, 1) := by decide +kernel
theorem dX0_lengthenRow_25 : decode cX0_lengthenRow 25 = .ok (.iconst (-1), 1) := by decide +kernel
theorem dX0_lengthenRow_26 : decode cX0_lengthenRow 26 = .ok (.ixor, 1) := by decide +kernel
theorem dX0_lengthenRow_27 : decode cX0_lengthenRow 27 = .ok (.iand, 1) := by decide +kernel
theorem dX0_lengthenRow_28 : decode cX0_lengthenRow 28 = .ok (.istore 4, 2) := by decide +kernel
theorem dX0_lengthenRow_30 : decode cX0_lengthenRow 30 = .ok (.iconst 0, 1) := by decide +kernel
theorem dX0_lengthenRow_31 : decode cX0_lengthenRow 31 = .ok (.istore 5, 2) := by decide +kernel
theorem dX0_lengthenRow_33 : decode cX0_lengthenRow 33 = .ok (.iload 5, 2) := by decide +kernel
theorem dX0_lengthenRow_35 : decode cX0_lengthenRow 35 = .ok (.aload_n 0, 1) := by decide +kernel
theorem dX0_lengthenRow_36 : decode cX0_lengthenRow 36 = .ok (.getfield 42, 3) := by decide +kernel
theorem dX0_lengthenRow_39 : decode cX0_lengthenRow 39 = .ok (.getfield 49, 3) := by decide +kernel
theorem dX0_lengthenRow_42 : decode cX0_lengthenRow 42 = .ok (.if_icmp .ge 75, 3) := by decide +kernel
theorem dX0_lengthenRow_45 : decode cX0_lengthenRow 45 = .ok (.iload 4, 2) := by decide +kernel
theorem dX0_lengthenRow_47 : decode cX0_lengthenRow 47 = .ok (.iload 5, 2) := by decide +kernel
theorem dX0_lengthenRow_49 : decode cX0_lengthenRow 49 = .ok (.ishr, 1) := by decide +kernel
theorem dX0_lengthenRow_50 : decode cX0_lengthenRow 50 = .ok (.iconst 1, 1) := by decide +kernel
theorem dX0_lengthenRow_51 : decode cX0_lengthenRow 51 = .ok (.iand, 1) := by decide +kernel
theorem dX0_lengthenRow_52 : decode cX0_lengthenRow 52 = .ok (.iconst 1, 1) := by decide +kernel
theorem dX0_lengthenRow_53 : decode cX0_lengthenRow 53 = .ok (.if_icmp .ne 58, 3) := by decide +kernel
theorem dX0_lengthenRow_56 : decode cX0_lengthenRow 56 = .ok (.iload_n 1, 1) := by decide +kernel
theorem dX0_lengthenRow_57 : decode cX0_lengthenRow 57 = .ok (.iconst 1, 1) := by decide +kernel
theorem dX0_lengthenRow_58 : decode cX0_lengthenRow 58 = .ok (.iload 5, 2) := by decide +kernel
theorem dX0_lengthenRow_60 : decode cX0_lengthenRow 60 = .ok (.ishl, 1) := by decide +kernel
theorem dX0_lengthenRow_61 : decode cX0_lengthenRow 61 = .ok (.ior, 1) := by decide +kernel
theorem dX0_lengthenRow_62 : decode cX0_lengthenRow 62 = .ok (.bipush 7, 2) := by decide +kernel
theorem dX0_lengthenRow_64 : decode cX0_lengthenRow 64 = .ok (.imul, 1) := by decide +kernel
theorem dX0_lengthenRow_65 : decode cX0_lengthenRow 65 = .ok (.iload 5, 2) := by decide +kernel
theorem dX0_lengthenRow_67 : decode cX0_lengthenRow 67 = .ok (.iadd, 1) := by decide +kernel
theorem dX0_lengthenRow_68 : decode cX0_lengthenRow 68 = .ok (.istore 6, 2) := by decide +kernel
theorem dX0_lengthenRow_70 : decode cX0_lengthenRow 70 = .ok (.iload_n 3, 1) := by decide +kernel
theorem dX0_lengthenRow_71 : decode cX0_lengthenRow 71 = .ok (.bipush 10, 2) := by decide +kernel
theorem dX0_lengthenRow_73 : decode cX0_lengthenRow 73 = .ok (.imul, 1) := by decide +kernel
theorem dX0_lengthenRow_74 : decode cX0_lengthenRow 74 = .ok (.iload 5, 2) := by decide +kernel
theorem dX0_lengthenRow_76 : decode cX0_lengthenRow 76 = .ok (.iadd, 1) := by decide +kernel
theorem dX0_lengthenRow_77 : decode cX0_lengthenRow 77 = .ok (.istore 7, 2) := by decide +kernel
theorem dX0_lengthenRow_79 : decode cX0_lengthenRow 79 = .ok (.aload_n 0, 1) := by decide +kernel
theorem dX0_lengthenRow_80 : decode cX0_lengthenRow 80 = .ok (.getfield 25, 3) := by decide +kernel
theorem dX0_lengthenRow_83 : decode cX0_lengthenRow 83 = .ok (.iload 6, 2) := by decide +kernel
theorem dX0_lengthenRow_85 : decode cX0_lengthenRow 85 = .ok (.iaload, 1) := by decide +kernel
theorem dX0_lengthenRow_86 : decode cX0_lengthenRow 86 = .ok (.iconst (-1), 1) := by decide +kernel
theorem dX0_lengthenRow_87 : decode cX0_lengthenRow 87 = .ok (.if_icmp .eq 15, 3) := by decide +kernel
theorem dX0_lengthenRow_90 : decode cX0_lengthenRow 90 = .ok (.iload 7, 2) := by decide +kernel
theorem dX0_lengthenRow_92 : decode cX0_lengthenRow 92 = .ok (.aload_n 0, 1) := by decide +kernel
theorem dX0_lengthenRow_93 : decode cX0_lengthenRow 93 = .ok (.getfield 25, 3) := by decide +kernel
theorem dX0_lengthenRow_96 : decode cX0_lengthenRow 96 = .ok (.iload 6, 2) := by decide +kernel
theorem dX0_lengthenRow_98 : decode cX0_lengthenRow 98 = .ok (.iaload, 1) := by decide +kernel
theorem dX0_lengthenRow_99 : decode cX0_lengthenRow 99 = .ok (.if_icmp .ge 12, 3) := by decide +kernel
theorem dX0_lengthenRow_102 : decode cX0_lengthenRow 102 = .ok (.aload_n 0, 1) := by decide +kernel
theorem dX0_lengthenRow_103 : decode cX0_lengthenRow 103 = .ok (.getfield 25, 3) := by decide +kernel
theorem dX0_lengthenRow_106 : decode cX0_lengthenRow 106 = .ok (.iload 6, 2) := by decide +kernel
theorem dX0_lengthenRow_108 : decode cX0_lengthenRow 108 = .ok (.iload 7, 2) := by decide +kernel
theorem dX0_lengthenRow_110 : decode cX0_lengthenRow 110 = .ok (.iastore, 1) := by decide +kernel
theorem dX0_lengthenRow_111 : decode cX0_lengthenRow 111 = .ok (.iinc 5 1, 3) := by decide +kernel
theorem dX0_lengthenRow_114 : decode cX0_lengthenRow 114 = .ok (.goto (-81), 3) := by decide +kernel
theorem dX0_lengthenRow_117 : decode cX0_lengthenRow 117 = .ok (.return_, 1) := by decide +kernel
theorem dX0_leastRowOf_0 : decode cX0_leastRowOf 0 = .ok (.iconst (-1), 1) := by decide +kernel
theorem dX0_leastRowOf_1 : decode cX0_leastRowOf 1 = .ok (.istore_n 2, 1) := by decide +kernel
theorem dX0_leastRowOf_2 : decode cX0_leastRowOf 2 = .ok (.iconst 0, 1) := by decide +kernel
theorem dX0_leastRowOf_3 : decode cX0_leastRowOf 3 = .ok (.istore_n 3, 1) := by decide +kernel
theorem dX0_leastRowOf_4 : decode cX0_leastRowOf 4 = .ok (.iload_n 3, 1) := by decide +kernel
theorem dX0_leastRowOf_5 : decode cX0_leastRowOf 5 = .ok (.aload_n 0, 1) := by decide +kernel
theorem dX0_leastRowOf_6 : decode cX0_leastRowOf 6 = .ok (.getfield 42, 3) := by decide +kernel
theorem dX0_leastRowOf_9 : decode cX0_leastRowOf 9 = .ok (.getfield 49, 3) := by decide +kernel
theorem dX0_leastRowOf_12 : decode cX0_leastRowOf 12 = .ok (.if_icmp .ge 42, 3) := by decide +kernel
theorem dX0_leastRowOf_15 : decode cX0_leastRowOf 15 = .ok (.aload_n 0, 1) := by decide +kernel
theorem dX0_leastRowOf_16 : decode cX0_leastRowOf 16 = .ok (.getfield 25, 3) := by decide +kernel
theorem dX0_leastRowOf_19 : decode cX0_leastRowOf 19 = .ok (.iload_n 1, 1) := by decide +kernel
theorem dX0_leastRowOf_20 : decode cX0_leastRowOf 20 = .ok (.bipush 7, 2) := by decide +kernel
theorem dX0_leastRowOf_22 : decode cX0_leastRowOf 22 = .ok (.imul, 1) := by decide +kernel
theorem dX0_leastRowOf_23 : decode cX0_leastRowOf 23 = .ok (.iload_n 3, 1) := by decide +kernel
theorem dX0_leastRowOf_24 : decode cX0_leastRowOf 24 = .ok (.iadd, 1) := by decide +kernel
theorem dX0_leastRowOf_25 : decode cX0_leastRowOf 25 = .ok (.iaload, 1) := by decide +kernel
theorem dX0_leastRowOf_26 : decode cX0_leastRowOf 26 = .ok (.istore 4, 2) := by decide +kernel
theorem dX0_leastRowOf_28 : decode cX0_leastRowOf 28 = .ok (.iload 4, 2) := by decide +kernel
theorem dX0_leastRowOf_30 : decode cX0_leastRowOf 30 = .ok (.iconst (-1), 1) := by decide +kernel
theorem dX0_leastRowOf_31 : decode cX0_leastRowOf 31 = .ok (.if_icmp .eq 17, 3) := by decide +kernel
theorem dX0_leastRowOf_34 : decode cX0_leastRowOf 34 = .ok (.iload_n 2, 1) := by decide +kernel
theorem dX0_leastRowOf_35 : decode cX0_leastRowOf 35 = .ok (.iconst (-1), 1) := by decide +kernel
theorem dX0_leastRowOf_36 : decode cX0_leastRowOf 36 = .ok (.if_icmp .eq 9, 3) := by decide +kernel
theorem dX0_leastRowOf_39 : decode cX0_leastRowOf 39 = .ok (.iload 4, 2) := by decide +kernel
theorem dX0_leastRowOf_41 : decode cX0_leastRowOf 41 = .ok (.iload_n 2, 1) := by decide +kernel
theorem dX0_leastRowOf_42 : decode cX0_leastRowOf 42 = .ok (.if_icmp .ge 6, 3) := by decide +kernel
theorem dX0_leastRowOf_45 : decode cX0_leastRowOf 45 = .ok (.iload 4, 2) := by decide +kernel
theorem dX0_leastRowOf_47 : decode cX0_leastRowOf 47 = .ok (.istore_n 2, 1) := by decide +kernel
theorem dX0_leastRowOf_48 : decode cX0_leastRowOf 48 = .ok (.iinc 3 1, 3) := by decide +kernel
theorem dX0_leastRowOf_51 : decode cX0_leastRowOf 51 = .ok (.goto (-47), 3) := by decide +kernel
theorem dX0_leastRowOf_54 : decode cX0_leastRowOf 54 = .ok (.iload_n 2, 1) := by decide +kernel
theorem dX0_leastRowOf_55 : decode cX0_leastRowOf 55 = .ok (.ireturn, 1) := by decide +kernel
theorem dX0_isBetter_0 : decode cX0_isBetter 0 = .ok (.aload_n 0, 1) := by decide +kernel
theorem dX0_isBetter_1 : decode cX0_isBetter 1 = .ok (.getfield 42, 3) := by decide +kernel
theorem dX0_isBetter_4 : decode cX0_isBetter 4 = .ok (.iload_n 1, 1) := by decide +kernel
theorem dX0_isBetter_5 : decode cX0_isBetter 5 = .ok (.invokevirtual 124, 3) := by decide +kernel
theorem dX0_isBetter_8 : decode cX0_isBetter 8 = .ok (.istore 4, 2) := by decide +kernel
theorem dX0_isBetter_10 : decode cX0_isBetter 10 = .ok (.iload 4, 2) := by decide +kernel
theorem dX0_isBetter_12 : decode cX0_isBetter 12 = .ok (.aload_n 0, 1) := by decide +kernel
theorem dX0_isBetter_13 : decode cX0_isBetter 13 = .ok (.getfield 70, 3) := by decide +kernel
theorem dX0_isBetter_16 : decode cX0_isBetter 16 = .ok (.if_icmp .eq 18, 3) := by decide +kernel
theorem dX0_isBetter_19 : decode cX0_isBetter 19 = .ok (.iload 4, 2) := by decide +kernel
theorem dX0_isBetter_21 : decode cX0_isBetter 21 = .ok (.aload_n 0, 1) := by decide +kernel
theorem dX0_isBetter_22 : decode cX0_isBetter 22 = .ok (.getfield 70, 3) := by decide +kernel
theorem dX0_isBetter_25 : decode cX0_isBetter 25 = .ok (.if_icmp .le 7, 3) := by decide +kernel
theorem dX0_isBetter_28 : decode cX0_isBetter 28 = .ok (.iconst 1, 1) := by decide +kernel
theorem dX0_isBetter_29 : decode cX0_isBetter 29 = .ok (.goto 4, 3) := by decide +kernel
theorem dX0_isBetter_32 : decode cX0_isBetter 32 = .ok (.iconst 0, 1) := by decide +kernel
theorem dX0_isBetter_33 : decode cX0_isBetter 33 = .ok (.ireturn, 1) := by decide +kernel
theorem dX0_isBetter_34 : decode cX0_isBetter 34 = .ok (.iload_n 3, 1) := by decide +kernel
theorem dX0_isBetter_35 : decode cX0_isBetter 35 = .ok (.invokestatic 127, 3) := by decide +kernel
theorem dX0_isBetter_38 : decode cX0_isBetter 38 = .ok (.iload_n 1, 1) := by decide +kernel
theorem dX0_isBetter_39 : decode cX0_isBetter 39 = .ok (.invokestatic 127, 3) := by decide +kernel
theorem dX0_isBetter_42 : decode cX0_isBetter 42 = .ok (.isub, 1) := by decide +kernel
theorem dX0_isBetter_43 : decode cX0_isBetter 43 = .ok (.istore 5, 2) := by decide +kernel
theorem dX0_isBetter_45 : decode cX0_isBetter 45 = .ok (.iload 5, 2) := by decide +kernel
theorem dX0_isBetter_47 : decode cX0_isBetter 47 = .ok (.ifCond .gt 16, 3) := by decide +kernel
theorem dX0_isBetter_50 : decode cX0_isBetter 50 = .ok (.iload 5, 2) := by decide +kernel
theorem dX0_isBetter_52 : decode cX0_isBetter 52 = .ok (.ifCond .ne 15, 3) := by decide +kernel
theorem dX0_isBetter_55 : decode cX0_isBetter 55 = .ok (.iload_n 2, 1) := by decide +kernel
theorem dX0_isBetter_56 : decode cX0_isBetter 56 = .ok (.aload_n 0, 1) := by decide +kernel
theorem dX0_isBetter_57 : decode cX0_isBetter 57 = .ok (.getfield 91, 3) := by decide +kernel
theorem dX0_isBetter_60 : decode cX0_isBetter 60 = .ok (.if_icmp .ge 7, 3) := by decide +kernel
theorem dX0_isBetter_63 : decode cX0_isBetter 63 = .ok (.iconst 1, 1) := by decide +kernel
theorem dX0_isBetter_64 : decode cX0_isBetter 64 = .ok (.goto 4, 3) := by decide +kernel
theorem dX0_isBetter_67 : decode cX0_isBetter 67 = .ok (.iconst 0, 1) := by decide +kernel
theorem dX0_isBetter_68 : decode cX0_isBetter 68 = .ok (.ireturn, 1) := by decide +kernel
theorem dX0_findTry_0 : decode cX0_findTry 0 = .ok (.aload_n 0, 1) := by decide +kernel
theorem dX0_findTry_1 : decode cX0_findTry 1 = .ok (.iconst 0, 1) := by decide +kernel
theorem dX0_findTry_2 : decode cX0_findTry 2 = .ok (.putfield 70, 3) := by decide +kernel
theorem dX0_findTry_5 : decode cX0_findTry 5 = .ok (.aload_n 0, 1) := by decide +kernel
theorem dX0_findTry_6 : decode cX0_findTry 6 = .ok (.iconst (-1), 1) := by decide +kernel
theorem dX0_findTry_7 : decode cX0_findTry 7 = .ok (.putfield 91, 3) := by decide +kernel
theorem dX0_findTry_10 : decode cX0_findTry 10 = .ok (.iconst 0, 1) := by decide +kernel
theorem dX0_findTry_11 : decode cX0_findTry 11 = .ok (.istore_n 2, 1) := by decide +kernel
theorem dX0_findTry_12 : decode cX0_findTry 12 = .ok (.iload_n 2, 1) := by decide +kernel
theorem dX0_findTry_13 : decode cX0_findTry 13 = .ok (.aload_n 1, 1) := by decide +kernel
theorem dX0_findTry_14 : decode cX0_findTry 14 = .ok (.getfield 49, 3) := by decide +kernel
theorem dX0_findTry_17 : decode cX0_findTry 17 = .ok (.if_icmp .ge 89, 3) := by decide +kernel
theorem dX0_findTry_20 : decode cX0_findTry 20 = .ok (.iconst 0, 1) := by decide +kernel
theorem dX0_findTry_21 : decode cX0_findTry 21 = .ok (.istore_n 3, 1) := by decide +kernel
theorem dX0_findTry_22 : decode cX0_findTry 22 = .ok (.iload_n 3, 1) := by decide +kernel
theorem dX0_findTry_23 : decode cX0_findTry 23 = .ok (.aload_n 1, 1) := by decide +kernel
theorem dX0_findTry_24 : decode cX0_findTry 24 = .ok (.getfield 49, 3) := by decide +kernel
theorem dX0_findTry_27 : decode cX0_findTry 27 = .ok (.if_icmp .ge 73, 3) := by decide +kernel
theorem dX0_findTry_30 : decode cX0_findTry 30 = .ok (.aload_n 1, 1) := by decide +kernel
theorem dX0_findTry_31 : decode cX0_findTry 31 = .ok (.iload_n 2, 1) := by decide +kernel
theorem dX0_findTry_32 : decode cX0_findTry 32 = .ok (.iload_n 3, 1) := by decide +kernel
theorem dX0_findTry_33 : decode cX0_findTry 33 = .ok (.invokevirtual 53, 3) := by decide +kernel
theorem dX0_findTry_36 : decode cX0_findTry 36 = .ok (.ifCond .ne 6, 3) := by decide +kernel
theorem dX0_findTry_39 : decode cX0_findTry 39 = .ok (.goto 55, 3) := by decide +kernel
theorem dX0_findTry_42 : decode cX0_findTry 42 = .ok (.aload_n 0, 1) := by decide +kernel
theorem dX0_findTry_43 : decode cX0_findTry 43 = .ok (.getfield 91, 3) := by decide +kernel
theorem dX0_findTry_46 : decode cX0_findTry 46 = .ok (.iconst (-1), 1) := by decide +kernel
theorem dX0_findTry_47 : decode cX0_findTry 47 = .ok (.if_icmp .ne 13, 3) := by decide +kernel
theorem dX0_findTry_50 : decode cX0_findTry 50 = .ok (.aload_n 0, 1) := by decide +kernel
theorem dX0_findTry_51 : decode cX0_findTry 51 = .ok (.iload_n 2, 1) := by decide +kernel
theorem dX0_findTry_52 : decode cX0_findTry 52 = .ok (.bipush 10, 2) := by decide +kernel
theorem dX0_findTry_54 : decode cX0_findTry 54 = .ok (.imul, 1) := by decide +kernel
theorem dX0_findTry_55 : decode cX0_findTry 55 = .ok (.iload_n 3, 1) := by decide +kernel
theorem dX0_findTry_56 : decode cX0_findTry 56 = .ok (.iadd, 1) := by decide +kernel
theorem dX0_findTry_57 : decode cX0_findTry 57 = .ok (.putfield 91, 3) := by decide +kernel
theorem dX0_findTry_60 : decode cX0_findTry 60 = .ok (.aload_n 0, 1) := by decide +kernel
theorem dX0_findTry_61 : decode cX0_findTry 61 = .ok (.getfield 38, 3) := by decide +kernel
theorem dX0_findTry_64 : decode cX0_findTry 64 = .ok (.aload_n 1, 1) := by decide +kernel
theorem dX0_findTry_65 : decode cX0_findTry 65 = .ok (.iload_n 2, 1) := by decide +kernel
theorem dX0_findTry_66 : decode cX0_findTry 66 = .ok (.iload_n 3, 1) := by decide +kernel
theorem dX0_findTry_67 : decode cX0_findTry 67 = .ok (.aload_n 1, 1) := by decide +kernel
theorem dX0_findTry_68 : decode cX0_findTry 68 = .ok (.iload_n 2, 1) := by decide +kernel
theorem dX0_findTry_69 : decode cX0_findTry 69 = .ok (.invokevirtual 45, 3) := by decide +kernel
theorem dX0_findTry_72 : decode cX0_findTry 72 = .ok (.invokevirtual 57, 3) := by decide +kernel
theorem dX0_findTry_75 : decode cX0_findTry 75 = .ok (.ifCond .eq 19, 3) := by decide +kernel
theorem dX0_findTry_78 : decode cX0_findTry 78 = .ok (.aload_n 0, 1) := by decide +kernel
theorem dX0_findTry_79 : decode cX0_findTry 79 = .ok (.iconst 1, 1) := by decide +kernel
theorem dX0_findTry_80 : decode cX0_findTry 80 = .ok (.putfield 70, 3) := by decide +kernel
theorem dX0_findTry_83 : decode cX0_findTry 83 = .ok (.aload_n 0, 1) := by decide +kernel
theorem dX0_findTry_84 : decode cX0_findTry 84 = .ok (.iload_n 2, 1) := by decide +kernel
theorem dX0_findTry_85 : decode cX0_findTry 85 = .ok (.bipush 10, 2) := by decide +kernel
theorem dX0_findTry_87 : decode cX0_findTry 87 = .ok (.imul, 1) := by decide +kernel
theorem dX0_findTry_88 : decode cX0_findTry 88 = .ok (.iload_n 3, 1) := by decide +kernel
theorem dX0_findTry_89 : decode cX0_findTry 89 = .ok (.iadd, 1) := by decide +kernel
theorem dX0_findTry_90 : decode cX0_findTry 90 = .ok (.putfield 91, 3) := by decide +kernel
theorem dX0_findTry_93 : decode cX0_findTry 93 = .ok (.return_, 1) := by decide +kernel
theorem dX0_findTry_94 : decode cX0_findTry 94 = .ok (.iinc 3 1, 3) := by decide +kernel
theorem dX0_findTry_97 : decode cX0_findTry 97 = .ok (.goto (-75), 3) := by decide +kernel
theorem dX0_findTry_100 : decode cX0_findTry 100 = .ok (.iinc 2 1, 3) := by decide +kernel
theorem dX0_findTry_103 : decode cX0_findTry 103 = .ok (.goto (-91), 3) := by decide +kernel
theorem dX0_findTry_106 : decode cX0_findTry 106 = .ok (.return_, 1) := by decide +kernel
theorem dX0_findTwoTries_0 : decode cX0_findTwoTries 0 = .ok (.iconst 0, 1) := by decide +kernel
theorem dX0_findTwoTries_1 : decode cX0_findTwoTries 1 = .ok (.istore_n 1, 1) := by decide +kernel
theorem dX0_findTwoTries_2 : decode cX0_findTwoTries 2 = .ok (.iconst (-1), 1) := by decide +kernel
theorem dX0_findTwoTries_3 : decode cX0_findTwoTries 3 = .ok (.istore_n 2, 1) := by decide +kernel
theorem dX0_findTwoTries_4 : decode cX0_findTwoTries 4 = .ok (.iconst 0, 1) := by decide +kernel
theorem dX0_findTwoTries_5 : decode cX0_findTwoTries 5 = .ok (.istore_n 3, 1) := by decide +kernel
theorem dX0_findTwoTries_6 : decode cX0_findTwoTries 6 = .ok (.iload_n 3, 1) := by decide +kernel
theorem dX0_findTwoTries_7 : decode cX0_findTwoTries 7 = .ok (.aload_n 0, 1) := by decide +kernel
theorem dX0_findTwoTries_8 : decode cX0_findTwoTries 8 = .ok (.getfield 42, 3) := by decide +kernel
theorem dX0_findTwoTries_11 : decode cX0_findTwoTries 11 = .ok (.getfield 49, 3) := by decide +kernel
theorem dX0_findTwoTries_14 : decode cX0_findTwoTries 14 = .ok (.if_icmp .ge 99, 3) := by decide +kernel
theorem dX0_findTwoTries_17 : decode cX0_findTwoTries 17 = .ok (.iload_n 1, 1) := by decide +kernel
theorem dX0_findTwoTries_18 : decode cX0_findTwoTries 18 = .ok (.iconst 2, 1) := by decide +kernel
theorem dX0_findTwoTries_19 : decode cX0_findTwoTries 19 = .ok (.if_icmp .ge 94, 3) := by decide +kernel
theorem dX0_findTwoTries_22 : decode cX0_findTwoTries 22 = .ok (.iconst 0, 1) := by decide +kernel
theorem dX0_findTwoTries_23 : decode cX0_findTwoTries 23 = .ok (.istore 4, 2) := by decide +kernel
theorem dX0_findTwoTries_25 : decode cX0_findTwoTries 25 = .ok (.iload 4, 2) := by decide +kernel
theorem dX0_findTwoTries_27 : decode cX0_findTwoTries 27 = .ok (.aload_n 0, 1) := by decide +kernel
theorem dX0_findTwoTries_28 : decode cX0_findTwoTries 28 = .ok (.getfield 42, 3) := by decide +kernel
theorem dX0_findTwoTries_31 : decode cX0_findTwoTries 31 = .ok (.getfield 49, 3) := by decide +kernel
theorem dX0_findTwoTries_34 : decode cX0_findTwoTries 34 = .ok (.if_icmp .ge 73, 3) := by decide +kernel
theorem dX0_findTwoTries_37 : decode cX0_findTwoTries 37 = .ok (.iload_n 1, 1) := by decide +kernel
theorem dX0_findTwoTries_38 : decode cX0_findTwoTries 38 = .ok (.iconst 2, 1) := by decide +kernel
theorem dX0_findTwoTries_39 : decode cX0_findTwoTries 39 = .ok (.if_icmp .ge 68, 3) := by decide +kernel
theorem dX0_findTwoTries_42 : decode cX0_findTwoTries 42 = .ok (.aload_n 0, 1) := by decide +kernel
theorem dX0_findTwoTries_43 : decode cX0_findTwoTries 43 = .ok (.getfield 42, 3) := by decide +kernel
theorem dX0_findTwoTries_46 : decode cX0_findTwoTries 46 = .ok (.iload_n 3, 1) := by decide +kernel
theorem dX0_findTwoTries_47 : decode cX0_findTwoTries 47 = .ok (.iload 4, 2) := by decide +kernel
theorem dX0_findTwoTries_49 : decode cX0_findTwoTries 49 = .ok (.invokevirtual 53, 3) := by decide +kernel
theorem dX0_findTwoTries_52 : decode cX0_findTwoTries 52 = .ok (.ifCond .eq 49, 3) := by decide +kernel
theorem dX0_findTwoTries_55 : decode cX0_findTwoTries 55 = .ok (.aload_n 0, 1) := by decide +kernel
theorem dX0_findTwoTries_56 : decode cX0_findTwoTries 56 = .ok (.iload_n 3, 1) := by decide +kernel
theorem dX0_findTwoTries_57 : decode cX0_findTwoTries 57 = .ok (.iload 4, 2) := by decide +kernel
theorem dX0_findTwoTries_59 : decode cX0_findTwoTries 59 = .ok (.invokevirtual 135, 3) := by decide +kernel
theorem dX0_findTwoTries_62 : decode cX0_findTwoTries 62 = .ok (.iload_n 2, 1) := by decide +kernel
theorem dX0_findTwoTries_63 : decode cX0_findTwoTries 63 = .ok (.iconst (-1), 1) := by decide +kernel
theorem dX0_findTwoTries_64 : decode cX0_findTwoTries 64 = .ok (.if_icmp .eq 27, 3) := by decide +kernel
theorem dX0_findTwoTries_67 : decode cX0_findTwoTries 67 = .ok (.aload_n 0, 1) := by decide +kernel
theorem dX0_findTwoTries_68 : decode cX0_findTwoTries 68 = .ok (.getfield 70, 3) := by decide +kernel
theorem dX0_findTwoTries_71 : decode cX0_findTwoTries 71 = .ok (.iload_n 1, 1) := by decide +kernel
theorem dX0_findTwoTries_72 : decode cX0_findTwoTries 72 = .ok (.if_icmp .gt 19, 3) := by decide +kernel
theorem dX0_findTwoTries_75 : decode cX0_findTwoTries 75 = .ok (.aload_n 0, 1) := by decide +kernel
theorem dX0_findTwoTries_76 : decode cX0_findTwoTries 76 = .ok (.getfield 70, 3) := by decide +kernel
theorem dX0_findTwoTries_79 : decode cX0_findTwoTries 79 = .ok (.iload_n 1, 1) := by decide +kernel
theorem dX0_findTwoTries_80 : decode cX0_findTwoTries 80 = .ok (.if_icmp .ne 21, 3) := by decide +kernel
theorem dX0_findTwoTries_83 : decode cX0_findTwoTries 83 = .ok (.aload_n 0, 1) := by decide +kernel
theorem dX0_findTwoTries_84 : decode cX0_findTwoTries 84 = .ok (.getfield 91, 3) := by decide +kernel
theorem dX0_findTwoTries_87 : decode cX0_findTwoTries 87 = .ok (.iload_n 2, 1) := by decide +kernel
theorem dX0_findTwoTries_88 : decode cX0_findTwoTries 88 = .ok (.if_icmp .ge 13, 3) := by decide +kernel
theorem dX0_findTwoTries_91 : decode cX0_findTwoTries 91 = .ok (.aload_n 0, 1) := by decide +kernel
theorem dX0_findTwoTries_92 : decode cX0_findTwoTries 92 = .ok (.getfield 70, 3) := by decide +kernel
theorem dX0_findTwoTries_95 : decode cX0_findTwoTries 95 = .ok (.istore_n 1, 1) := by decide +kernel
theorem dX0_findTwoTries_96 : decode cX0_findTwoTries 96 = .ok (.aload_n 0, 1) := by decide +kernel
theorem dX0_findTwoTries_97 : decode cX0_findTwoTries 97 = .ok (.getfield 91, 3) := by decide +kernel
theorem dX0_findTwoTries_100 : decode cX0_findTwoTries 100 = .ok (.istore_n 2, 1) := by decide +kernel
theorem dX0_findTwoTries_101 : decode cX0_findTwoTries 101 = .ok (.iinc 4 1, 3) := by decide +kernel
theorem dX0_findTwoTries_104 : decode cX0_findTwoTries 104 = .ok (.goto (-79), 3) := by decide +kernel
theorem dX0_findTwoTries_107 : decode cX0_findTwoTries 107 = .ok (.iinc 3 1, 3) := by decide +kernel
theorem dX0_findTwoTries_110 : decode cX0_findTwoTries 110 = .ok (.goto (-104), 3) := by decide +kernel
theorem dX0_findTwoTries_113 : decode cX0_findTwoTries 113 = .ok (.aload_n 0, 1) := by decide +kernel
theorem dX0_findTwoTries_114 : decode cX0_findTwoTries 114 = .ok (.iload_n 1, 1) := by decide +kernel
theorem dX0_findTwoTries_115 : decode cX0_findTwoTries 115 = .ok (.putfield 70, 3) := by decide +kernel
theorem dX0_findTwoTries_118 : decode cX0_findTwoTries 118 = .ok (.aload_n 0, 1) := by decide +kernel
theorem dX0_findTwoTries_119 : decode cX0_findTwoTries 119 = .ok (.iload_n 2, 1) := by decide +kernel
theorem dX0_findTwoTries_120 : decode cX0_findTwoTries 120 = .ok (.putfield 91, 3) := by decide +kernel
theorem dX0_findTwoTries_123 : decode cX0_findTwoTries 123 = .ok (.return_, 1) := by decide +kernel
theorem dX0_tryAndFindNext_0 : decode cX0_tryAndFindNext 0 = .ok (.aload_n 0, 1) := by decide +kernel
theorem dX0_tryAndFindNext_1 : decode cX0_tryAndFindNext 1 = .ok (.getfield 12, 3) := by decide +kernel
theorem dX0_tryAndFindNext_4 : decode cX0_tryAndFindNext 4 = .ok (.aload_n 0, 1) := by decide +kernel
theorem dX0_tryAndFindNext_5 : decode cX0_tryAndFindNext 5 = .ok (.getfield 42, 3) := by decide +kernel
theorem dX0_tryAndFindNext_8 : decode cX0_tryAndFindNext 8 = .ok (.invokevirtual 63, 3) := by decide +kernel
theorem dX0_tryAndFindNext_11 : decode cX0_tryAndFindNext 11 = .ok (.aload_n 0, 1) := by decide +kernel
theorem dX0_tryAndFindNext_12 : decode cX0_tryAndFindNext 12 = .ok (.getfield 38, 3) := by decide +kernel
theorem dX0_tryAndFindNext_15 : decode cX0_tryAndFindNext 15 = .ok (.aload_n 0, 1) := by decide +kernel
theorem dX0_tryAndFindNext_16 : decode cX0_tryAndFindNext 16 = .ok (.getfield 12, 3) := by decide +kernel
theorem dX0_tryAndFindNext_19 : decode cX0_tryAndFindNext 19 = .ok (.iload_n 1, 1) := by decide +kernel
theorem dX0_tryAndFindNext_20 : decode cX0_tryAndFindNext 20 = .ok (.iload_n 2, 1) := by decide +kernel
theorem dX0_tryAndFindNext_21 : decode cX0_tryAndFindNext 21 = .ok (.invokevirtual 138, 3) := by decide +kernel
theorem dX0_tryAndFindNext_24 : decode cX0_tryAndFindNext 24 = .ok (.ifCond .eq 7, 3) := by decide +kernel
theorem dX0_tryAndFindNext_27 : decode cX0_tryAndFindNext 27 = .ok (.iconst 1, 1) := by decide +kernel
theorem dX0_tryAndFindNext_28 : decode cX0_tryAndFindNext 28 = .ok (.goto 4, 3) := by decide +kernel
theorem dX0_tryAndFindNext_31 : decode cX0_tryAndFindNext 31 = .ok (.iconst 0, 1) := by decide +kernel
theorem dX0_tryAndFindNext_32 : decode cX0_tryAndFindNext 32 = .ok (.istore_n 3, 1) := by decide +kernel
theorem dX0_tryAndFindNext_33 : decode cX0_tryAndFindNext 33 = .ok (.iload_n 1, 1) := by decide +kernel
theorem dX0_tryAndFindNext_34 : decode cX0_tryAndFindNext 34 = .ok (.bipush 10, 2) := by decide +kernel
theorem dX0_tryAndFindNext_36 : decode cX0_tryAndFindNext 36 = .ok (.imul, 1) := by decide +kernel
theorem dX0_tryAndFindNext_37 : decode cX0_tryAndFindNext 37 = .ok (.iload_n 2, 1) := by decide +kernel
theorem dX0_tryAndFindNext_38 : decode cX0_tryAndFindNext 38 = .ok (.iadd, 1) := by decide +kernel
theorem dX0_tryAndFindNext_39 : decode cX0_tryAndFindNext 39 = .ok (.istore 4, 2) := by decide +kernel
theorem dX0_tryAndFindNext_41 : decode cX0_tryAndFindNext 41 = .ok (.aload_n 0, 1) := by decide +kernel
theorem dX0_tryAndFindNext_42 : decode cX0_tryAndFindNext 42 = .ok (.aload_n 0, 1) := by decide +kernel
theorem dX0_tryAndFindNext_43 : decode cX0_tryAndFindNext 43 = .ok (.getfield 12, 3) := by decide +kernel
theorem dX0_tryAndFindNext_46 : decode cX0_tryAndFindNext 46 = .ok (.invokevirtual 142, 3) := by decide +kernel
theorem dX0_tryAndFindNext_49 : decode cX0_tryAndFindNext 49 = .ok (.aload_n 0, 1) := by decide +kernel
theorem dX0_tryAndFindNext_50 : decode cX0_tryAndFindNext 50 = .ok (.dup, 1) := by decide +kernel
theorem dX0_tryAndFindNext_51 : decode cX0_tryAndFindNext 51 = .ok (.getfield 70, 3) := by decide +kernel
theorem dX0_tryAndFindNext_54 : decode cX0_tryAndFindNext 54 = .ok (.iload_n 3, 1) := by decide +kernel
theorem dX0_tryAndFindNext_55 : decode cX0_tryAndFindNext 55 = .ok (.iadd, 1) := by decide +kernel
theorem dX0_tryAndFindNext_56 : decode cX0_tryAndFindNext 56 = .ok (.putfield 70, 3) := by decide +kernel
theorem dX0_tryAndFindNext_59 : decode cX0_tryAndFindNext 59 = .ok (.aload_n 0, 1) := by decide +kernel
theorem dX0_tryAndFindNext_60 : decode cX0_tryAndFindNext 60 = .ok (.aload_n 0, 1) := by decide +kernel
theorem dX0_tryAndFindNext_61 : decode cX0_tryAndFindNext 61 = .ok (.getfield 91, 3) := by decide +kernel
theorem dX0_tryAndFindNext_64 : decode cX0_tryAndFindNext 64 = .ok (.iconst (-1), 1) := by decide +kernel
theorem dX0_tryAndFindNext_65 : decode cX0_tryAndFindNext 65 = .ok (.if_icmp .ne 8, 3) := by decide +kernel
theorem dX0_tryAndFindNext_68 : decode cX0_tryAndFindNext 68 = .ok (.iload 4, 2) := by decide +kernel
theorem dX0_tryAndFindNext_70 : decode cX0_tryAndFindNext 70 = .ok (.goto 13, 3) := by decide +kernel
theorem dX0_tryAndFindNext_73 : decode cX0_tryAndFindNext 73 = .ok (.iload 4, 2) := by decide +kernel
theorem dX0_tryAndFindNext_75 : decode cX0_tryAndFindNext 75 = .ok (.bipush 100, 2) := by decide +kernel
theorem dX0_tryAndFindNext_77 : decode cX0_tryAndFindNext 77 = .ok (.imul, 1) := by decide +kernel
theorem dX0_tryAndFindNext_78 : decode cX0_tryAndFindNext 78 = .ok (.aload_n 0, 1) := by decide +kernel
theorem dX0_tryAndFindNext_79 : decode cX0_tryAndFindNext 79 = .ok (.getfield 91, 3) := by decide +kernel
theorem dX0_tryAndFindNext_82 : decode cX0_tryAndFindNext 82 = .ok (.iadd, 1) := by decide +kernel
theorem dX0_tryAndFindNext_83 : decode cX0_tryAndFindNext 83 = .ok (.putfield 91, 3) := by decide +kernel
theorem dX0_tryAndFindNext_86 : decode cX0_tryAndFindNext 86 = .ok (.return_, 1) := by decide +kernel
theorem dX0_fewestBlankets_0 : decode cX0_fewestBlankets 0 = .ok (.iconst 0, 1) := by decide +kernel
theorem dX0_fewestBlankets_1 : decode cX0_fewestBlankets 1 = .ok (.istore_n 2, 1) := by decide +kernel
theorem dX0_fewestBlankets_2 : decode cX0_fewestBlankets 2 = .ok (.iconst 0, 1) := by decide +kernel
theorem dX0_fewestBlankets_3 : decode cX0_fewestBlankets 3 = .ok (.istore_n 3, 1) := by decide +kernel
theorem dX0_fewestBlankets_4 : decode cX0_fewestBlankets 4 = .ok (.iload_n 3, 1) := by decide +kernel
theorem dX0_fewestBlankets_5 : decode cX0_fewestBlankets 5 = .ok (.aload_n 0, 1) := by decide +kernel
theorem dX0_fewestBlankets_6 : decode cX0_fewestBlankets 6 = .ok (.getfield 42, 3) := by decide +kernel
theorem dX0_fewestBlankets_9 : decode cX0_fewestBlankets 9 = .ok (.getfield 49, 3) := by decide +kernel
theorem dX0_fewestBlankets_12 : decode cX0_fewestBlankets 12 = .ok (.if_icmp .ge 69, 3) := by decide +kernel
theorem dX0_fewestBlankets_15 : decode cX0_fewestBlankets 15 = .ok (.aload_n 0, 1) := by decide +kernel
theorem dX0_fewestBlankets_16 : decode cX0_fewestBlankets 16 = .ok (.getfield 42, 3) := by decide +kernel
theorem dX0_fewestBlankets_19 : decode cX0_fewestBlankets 19 = .ok (.iload_n 3, 1) := by decide +kernel
theorem dX0_fewestBlankets_20 : decode cX0_fewestBlankets 20 = .ok (.invokevirtual 84, 3) := by decide +kernel
theorem dX0_fewestBlankets_23 : decode cX0_fewestBlankets 23 = .ok (.ifCond .ne 52, 3) := by decide +kernel
theorem dX0_fewestBlankets_26 : decode cX0_fewestBlankets 26 = .ok (.aload_n 0, 1) := by decide +kernel
theorem dX0_fewestBlankets_27 : decode cX0_fewestBlankets 27 = .ok (.getfield 42, 3) := by decide +kernel
theorem dX0_fewestBlankets_30 : decode cX0_fewestBlankets 30 = .ok (.getfield 88, 3) := by decide +kernel
theorem dX0_fewestBlankets_33 : decode cX0_fewestBlankets 33 = .ok (.iload_n 3, 1) := by decide +kernel
theorem dX0_fewestBlankets_34 : decode cX0_fewestBlankets 34 = .ok (.iaload, 1) := by decide +kernel
theorem dX0_fewestBlankets_35 : decode cX0_fewestBlankets 35 = .ok (.iconst (-1), 1) := by decide +kernel
theorem dX0_fewestBlankets_36 : decode cX0_fewestBlankets 36 = .ok (.if_icmp .ne 39, 3) := by decide +kernel
theorem dX0_fewestBlankets_39 : decode cX0_fewestBlankets 39 = .ok (.aload_n 0, 1) := by decide +kernel
theorem dX0_fewestBlankets_40 : decode cX0_fewestBlankets 40 = .ok (.getfield 31, 3) := by decide +kernel
theorem dX0_fewestBlankets_43 : decode cX0_fewestBlankets 43 = .ok (.iload_n 2, 1) := by decide +kernel
theorem dX0_fewestBlankets_44 : decode cX0_fewestBlankets 44 = .ok (.aload_n 0, 1) := by decide +kernel
theorem dX0_fewestBlankets_45 : decode cX0_fewestBlankets 45 = .ok (.getfield 42, 3) := by decide +kernel
theorem dX0_fewestBlankets_48 : decode cX0_fewestBlankets 48 = .ok (.aload_n 0, 1) := by decide +kernel
theorem dX0_fewestBlankets_49 : decode cX0_fewestBlankets 49 = .ok (.getfield 42, 3) := by decide +kernel
theorem dX0_fewestBlankets_52 : decode cX0_fewestBlankets 52 = .ok (.iload_n 3, 1) := by decide +kernel
theorem dX0_fewestBlankets_53 : decode cX0_fewestBlankets 53 = .ok (.invokevirtual 145, 3) := by decide +kernel
theorem dX0_fewestBlankets_56 : decode cX0_fewestBlankets 56 = .ok (.invokevirtual 124, 3) := by decide +kernel
theorem dX0_fewestBlankets_59 : decode cX0_fewestBlankets 59 = .ok (.iastore, 1) := by decide +kernel
theorem dX0_fewestBlankets_60 : decode cX0_fewestBlankets 60 = .ok (.aload_n 0, 1) := by decide +kernel
theorem dX0_fewestBlankets_61 : decode cX0_fewestBlankets 61 = .ok (.getfield 31, 3) := by decide +kernel
theorem dX0_fewestBlankets_64 : decode cX0_fewestBlankets 64 = .ok (.iload_n 2, 1) := by decide +kernel
theorem dX0_fewestBlankets_65 : decode cX0_fewestBlankets 65 = .ok (.iaload, 1) := by decide +kernel
theorem dX0_fewestBlankets_66 : decode cX0_fewestBlankets 66 = .ok (.iload_n 1, 1) := by decide +kernel
theorem dX0_fewestBlankets_67 : decode cX0_fewestBlankets 67 = .ok (.if_icmp .le 5, 3) := by decide +kernel
theorem dX0_fewestBlankets_70 : decode cX0_fewestBlankets 70 = .ok (.iconst (-1), 1) := by decide +kernel
theorem dX0_fewestBlankets_71 : decode cX0_fewestBlankets 71 = .ok (.ireturn, 1) := by decide +kernel
theorem dX0_fewestBlankets_72 : decode cX0_fewestBlankets 72 = .ok (.iinc 2 1, 3) := by decide +kernel
theorem dX0_fewestBlankets_75 : decode cX0_fewestBlankets 75 = .ok (.iinc 3 1, 3) := by decide +kernel
theorem dX0_fewestBlankets_78 : decode cX0_fewestBlankets 78 = .ok (.goto (-74), 3) := by decide +kernel
theorem dX0_fewestBlankets_81 : decode cX0_fewestBlankets 81 = .ok (.aload_n 0, 1) := by decide +kernel
theorem dX0_fewestBlankets_82 : decode cX0_fewestBlankets 82 = .ok (.iload_n 2, 1) := by decide +kernel
theorem dX0_fewestBlankets_83 : decode cX0_fewestBlankets 83 = .ok (.iload_n 1, 1) := by decide +kernel
theorem dX0_fewestBlankets_84 : decode cX0_fewestBlankets 84 = .ok (.invokevirtual 148, 3) := by decide +kernel
theorem dX0_fewestBlankets_87 : decode cX0_fewestBlankets 87 = .ok (.ireturn, 1) := by decide +kernel
theorem dX0_fewestFor_0 : decode cX0_fewestFor 0 = .ok (.aload_n 0, 1) := by decide +kernel
theorem dX0_fewestFor_1 : decode cX0_fewestFor 1 = .ok (.getfield 28, 3) := by decide +kernel
theorem dX0_fewestFor_4 : decode cX0_fewestFor 4 = .ok (.sipush 8000, 3) := by decide +kernel
theorem dX0_fewestFor_7 : decode cX0_fewestFor 7 = .ok (.invokestatic 104, 3) := by decide +kernel
theorem dX0_fewestFor_10 : decode cX0_fewestFor 10 = .ok (.aload_n 0, 1) := by decide +kernel
theorem dX0_fewestFor_11 : decode cX0_fewestFor 11 = .ok (.getfield 28, 3) := by decide +kernel
theorem dX0_fewestFor_14 : decode cX0_fewestFor 14 = .ok (.iconst 0, 1) := by decide +kernel
theorem dX0_fewestFor_15 : decode cX0_fewestFor 15 = .ok (.iload_n 2, 1) := by decide +kernel
theorem dX0_fewestFor_16 : decode cX0_fewestFor 16 = .ok (.iastore, 1) := by decide +kernel
theorem dX0_fewestFor_17 : decode cX0_fewestFor 17 = .ok (.iconst 0, 1) := by decide +kernel
theorem dX0_fewestFor_18 : decode cX0_fewestFor 18 = .ok (.istore_n 3, 1) := by decide +kernel
theorem dX0_fewestFor_19 : decode cX0_fewestFor 19 = .ok (.iload_n 3, 1) := by decide +kernel
theorem dX0_fewestFor_20 : decode cX0_fewestFor 20 = .ok (.iconst 1, 1) := by decide +kernel
theorem dX0_fewestFor_21 : decode cX0_fewestFor 21 = .ok (.iload_n 1, 1) := by decide +kernel
theorem dX0_fewestFor_22 : decode cX0_fewestFor 22 = .ok (.ishl, 1) := by decide +kernel
theorem dX0_fewestFor_23 : decode cX0_fewestFor 23 = .ok (.if_icmp .ge 72, 3) := by decide +kernel
theorem dX0_fewestFor_26 : decode cX0_fewestFor 26 = .ok (.iconst 0, 1) := by decide +kernel
theorem dX0_fewestFor_27 : decode cX0_fewestFor 27 = .ok (.istore 4, 2) := by decide +kernel
theorem dX0_fewestFor_29 : decode cX0_fewestFor 29 = .ok (.iload 4, 2) := by decide +kernel
theorem dX0_fewestFor_31 : decode cX0_fewestFor 31 = .ok (.iload_n 1, 1) := by decide +kernel
theorem dX0_fewestFor_32 : decode cX0_fewestFor 32 = .ok (.if_icmp .ge 57, 3) := by decide +kernel
theorem dX0_fewestFor_35 : decode cX0_fewestFor 35 = .ok (.iload_n 3, 1) := by decide +kernel
theorem dX0_fewestFor_36 : decode cX0_fewestFor 36 = .ok (.iconst 1, 1) := by decide +kernel
theorem dX0_fewestFor_37 : decode cX0_fewestFor 37 = .ok (.iload 4, 2) := by decide +kernel
theorem dX0_fewestFor_39 : decode cX0_fewestFor 39 = .ok (.ishl, 1) := by decide +kernel
theorem dX0_fewestFor_40 : decode cX0_fewestFor 40 = .ok (.ior, 1) := by decide +kernel
theorem dX0_fewestFor_41 : decode cX0_fewestFor 41 = .ok (.istore 5, 2) := by decide +kernel
theorem dX0_fewestFor_43 : decode cX0_fewestFor 43 = .ok (.iload 5, 2) := by decide +kernel
theorem dX0_fewestFor_45 : decode cX0_fewestFor 45 = .ok (.iload_n 3, 1) := by decide +kernel
theorem dX0_fewestFor_46 : decode cX0_fewestFor 46 = .ok (.if_icmp .eq 37, 3) := by decide +kernel
theorem dX0_fewestFor_49 : decode cX0_fewestFor 49 = .ok (.aload_n 0, 1) := by decide +kernel
theorem dX0_fewestFor_50 : decode cX0_fewestFor 50 = .ok (.getfield 28, 3) := by decide +kernel
theorem dX0_fewestFor_53 : decode cX0_fewestFor 53 = .ok (.iload 5, 2) := by decide +kernel
theorem dX0_fewestFor_55 : decode cX0_fewestFor 55 = .ok (.aload_n 0, 1) := by decide +kernel
theorem dX0_fewestFor_56 : decode cX0_fewestFor 56 = .ok (.getfield 28, 3) := by decide +kernel
theorem dX0_fewestFor_59 : decode cX0_fewestFor 59 = .ok (.iload 5, 2) := by decide +kernel
theorem dX0_fewestFor_61 : decode cX0_fewestFor 61 = .ok (.iaload, 1) := by decide +kernel
theorem dX0_fewestFor_62 : decode cX0_fewestFor 62 = .ok (.aload_n 0, 1) := by decide +kernel
theorem dX0_fewestFor_63 : decode cX0_fewestFor 63 = .ok (.getfield 28, 3) := by decide +kernel
theorem dX0_fewestFor_66 : decode cX0_fewestFor 66 = .ok (.iload_n 3, 1) := by decide +kernel
theorem dX0_fewestFor_67 : decode cX0_fewestFor 67 = .ok (.iaload, 1) := by decide +kernel
theorem dX0_fewestFor_68 : decode cX0_fewestFor 68 = .ok (.aload_n 0, 1) := by decide +kernel
theorem dX0_fewestFor_69 : decode cX0_fewestFor 69 = .ok (.getfield 31, 3) := by decide +kernel
theorem dX0_fewestFor_72 : decode cX0_fewestFor 72 = .ok (.iload 4, 2) := by decide +kernel
theorem dX0_fewestFor_74 : decode cX0_fewestFor 74 = .ok (.iaload, 1) := by decide +kernel
theorem dX0_fewestFor_75 : decode cX0_fewestFor 75 = .ok (.iload_n 2, 1) := by decide +kernel
theorem dX0_fewestFor_76 : decode cX0_fewestFor 76 = .ok (.invokestatic 152, 3) := by decide +kernel
theorem dX0_fewestFor_79 : decode cX0_fewestFor 79 = .ok (.invokestatic 156, 3) := by decide +kernel
theorem dX0_fewestFor_82 : decode cX0_fewestFor 82 = .ok (.iastore, 1) := by decide +kernel
theorem dX0_fewestFor_83 : decode cX0_fewestFor 83 = .ok (.iinc 4 1, 3) := by decide +kernel
theorem dX0_fewestFor_86 : decode cX0_fewestFor 86 = .ok (.goto (-57), 3) := by decide +kernel
theorem dX0_fewestFor_89 : decode cX0_fewestFor 89 = .ok (.iinc 3 1, 3) := by decide +kernel
theorem dX0_fewestFor_92 : decode cX0_fewestFor 92 = .ok (.goto (-73), 3) := by decide +kernel
theorem dX0_fewestFor_95 : decode cX0_fewestFor 95 = .ok (.aload_n 0, 1) := by decide +kernel
theorem dX0_fewestFor_96 : decode cX0_fewestFor 96 = .ok (.getfield 28, 3) := by decide +kernel
theorem dX0_fewestFor_99 : decode cX0_fewestFor 99 = .ok (.iconst 1, 1) := by decide +kernel
theorem dX0_fewestFor_100 : decode cX0_fewestFor 100 = .ok (.iload_n 1, 1) := by decide +kernel
theorem dX0_fewestFor_101 : decode cX0_fewestFor 101 = .ok (.ishl, 1) := by decide +kernel
theorem dX0_fewestFor_102 : decode cX0_fewestFor 102 = .ok (.iconst 1, 1) := by decide +kernel
theorem dX0_fewestFor_103 : decode cX0_fewestFor 103 = .ok (.isub, 1) := by decide +kernel
theorem dX0_fewestFor_104 : decode cX0_fewestFor 104 = .ok (.iaload, 1) := by decide +kernel
theorem dX0_fewestFor_105 : decode cX0_fewestFor 105 = .ok (.sipush 1000, 3) := by decide +kernel
theorem dX0_fewestFor_108 : decode cX0_fewestFor 108 = .ok (.idiv, 1) := by decide +kernel
theorem dX0_fewestFor_109 : decode cX0_fewestFor 109 = .ok (.ireturn, 1) := by decide +kernel
theorem dX0_layIn_0 : decode cX0_layIn 0 = .ok (.iload_n 0, 1) := by decide +kernel
theorem dX0_layIn_1 : decode cX0_layIn 1 = .ok (.sipush 1000, 3) := by decide +kernel
theorem dX0_layIn_4 : decode cX0_layIn 4 = .ok (.irem, 1) := by decide +kernel
theorem dX0_layIn_5 : decode cX0_layIn 5 = .ok (.iload_n 1, 1) := by decide +kernel
theorem dX0_layIn_6 : decode cX0_layIn 6 = .ok (.iadd, 1) := by decide +kernel
theorem dX0_layIn_7 : decode cX0_layIn 7 = .ok (.iload_n 2, 1) := by decide +kernel
theorem dX0_layIn_8 : decode cX0_layIn 8 = .ok (.if_icmp .gt 7, 3) := by decide +kernel
theorem dX0_layIn_11 : decode cX0_layIn 11 = .ok (.iload_n 0, 1) := by decide +kernel
theorem dX0_layIn_12 : decode cX0_layIn 12 = .ok (.iload_n 1, 1) := by decide +kernel
theorem dX0_layIn_13 : decode cX0_layIn 13 = .ok (.iadd, 1) := by decide +kernel
theorem dX0_layIn_14 : decode cX0_layIn 14 = .ok (.ireturn, 1) := by decide +kernel
theorem dX0_layIn_15 : decode cX0_layIn 15 = .ok (.iload_n 0, 1) := by decide +kernel
theorem dX0_layIn_16 : decode cX0_layIn 16 = .ok (.sipush 1000, 3) := by decide +kernel
theorem dX0_layIn_19 : decode cX0_layIn 19 = .ok (.idiv, 1) := by decide +kernel
theorem dX0_layIn_20 : decode cX0_layIn 20 = .ok (.iconst 1, 1) := by decide +kernel
theorem dX0_layIn_21 : decode cX0_layIn 21 = .ok (.iadd, 1) := by decide +kernel
theorem dX0_layIn_22 : decode cX0_layIn 22 = .ok (.sipush 1000, 3) := by decide +kernel
theorem dX0_layIn_25 : decode cX0_layIn 25 = .ok (.imul, 1) := by decide +kernel
theorem dX0_layIn_26 : decode cX0_layIn 26 = .ok (.iload_n 1, 1) := by decide +kernel
theorem dX0_layIn_27 : decode cX0_layIn 27 = .ok (.iadd, 1) := by decide +kernel
theorem dX0_layIn_28 : decode cX0_layIn 28 = .ok (.ireturn, 1) := by decide +kernel
theorem dX0_knottedParts_0 : decode cX0_knottedParts 0 = .ok (.ldc2_w 161, 3) := by decide +kernel
theorem dX0_knottedParts_3 : decode cX0_knottedParts 3 = .ok (.lstore_n 3, 1) := by decide +kernel
theorem dX0_knottedParts_4 : decode cX0_knottedParts 4 = .ok (.aload_n 0, 1) := by decide +kernel
theorem dX0_knottedParts_5 : decode cX0_knottedParts 5 = .ok (.getfield 42, 3) := by decide +kernel
theorem dX0_knottedParts_8 : decode cX0_knottedParts 8 = .ok (.iload_n 1, 1) := by decide +kernel
theorem dX0_knottedParts_9 : decode cX0_knottedParts 9 = .ok (.invokevirtual 45, 3) := by decide +kernel
theorem dX0_knottedParts_12 : decode cX0_knottedParts 12 = .ok (.istore 5, 2) := by decide +kernel
theorem dX0_knottedParts_14 : decode cX0_knottedParts 14 = .ok (.aload_n 0, 1) := by decide +kernel
theorem dX0_knottedParts_15 : decode cX0_knottedParts 15 = .ok (.getfield 12, 3) := by decide +kernel
theorem dX0_knottedParts_18 : decode cX0_knottedParts 18 = .ok (.aload_n 0, 1) := by decide +kernel
theorem dX0_knottedParts_19 : decode cX0_knottedParts 19 = .ok (.getfield 42, 3) := by decide +kernel
theorem dX0_knottedParts_22 : decode cX0_knottedParts 22 = .ok (.invokevirtual 63, 3) := by decide +kernel
theorem dX0_knottedParts_25 : decode cX0_knottedParts 25 = .ok (.iconst 0, 1) := by decide +kernel
theorem dX0_knottedParts_26 : decode cX0_knottedParts 26 = .ok (.istore 6, 2) := by decide +kernel
theorem dX0_knottedParts_28 : decode cX0_knottedParts 28 = .ok (.iload 6, 2) := by decide +kernel
theorem dX0_knottedParts_30 : decode cX0_knottedParts 30 = .ok (.aload_n 0, 1) := by decide +kernel
theorem dX0_knottedParts_31 : decode cX0_knottedParts 31 = .ok (.getfield 42, 3) := by decide +kernel
theorem dX0_knottedParts_34 : decode cX0_knottedParts 34 = .ok (.getfield 49, 3) := by decide +kernel
theorem dX0_knottedParts_37 : decode cX0_knottedParts 37 = .ok (.if_icmp .ge 65, 3) := by decide +kernel
theorem dX0_knottedParts_40 : decode cX0_knottedParts 40 = .ok (.aload_n 0, 1) := by decide +kernel
theorem dX0_knottedParts_41 : decode cX0_knottedParts 41 = .ok (.getfield 42, 3) := by decide +kernel
theorem dX0_knottedParts_44 : decode cX0_knottedParts 44 = .ok (.iload_n 1, 1) := by decide +kernel
theorem dX0_knottedParts_45 : decode cX0_knottedParts 45 = .ok (.iload 6, 2) := by decide +kernel
theorem dX0_knottedParts_47 : decode cX0_knottedParts 47 = .ok (.invokevirtual 53, 3) := by decide +kernel
theorem dX0_knottedParts_50 : decode cX0_knottedParts 50 = .ok (.ifCond .eq 46, 3) := by decide +kernel
theorem dX0_knottedParts_53 : decode cX0_knottedParts 53 = .ok (.aload_n 0, 1) := by decide +kernel
theorem dX0_knottedParts_54 : decode cX0_knottedParts 54 = .ok (.getfield 38, 3) := by decide +kernel
theorem dX0_knottedParts_57 : decode cX0_knottedParts 57 = .ok (.aload_n 0, 1) := by decide +kernel
theorem dX0_knottedParts_58 : decode cX0_knottedParts 58 = .ok (.getfield 12, 3) := by decide +kernel
theorem dX0_knottedParts_61 : decode cX0_knottedParts 61 = .ok (.iload_n 1, 1) := by decide +kernel
theorem dX0_knottedParts_62 : decode cX0_knottedParts 62 = .ok (.iload 6, 2) := by decide +kernel
theorem dX0_knottedParts_64 : decode cX0_knottedParts 64 = .ok (.iload 5, 2) := by decide +kernel
theorem dX0_knottedParts_66 : decode cX0_knottedParts 66 = .ok (.invokevirtual 57, 3) := by decide +kernel
theorem dX0_knottedParts_69 : decode cX0_knottedParts 69 = .ok (.ifCond .eq 12, 3) := by decide +kernel
theorem dX0_knottedParts_72 : decode cX0_knottedParts 72 = .ok (.lload_n 3, 1) := by decide +kernel
theorem dX0_knottedParts_73 : decode cX0_knottedParts 73 = .ok (.iload_n 2, 1) := by decide +kernel
theorem dX0_knottedParts_74 : decode cX0_knottedParts 74 = .ok (.i2l, 1) := by decide +kernel
theorem dX0_knottedParts_75 : decode cX0_knottedParts 75 = .ok (.lmul, 1) := by decide +kernel
theorem dX0_knottedParts_76 : decode cX0_knottedParts 76 = .ok (.ldc2_w 163, 3) := by decide +kernel
theorem dX0_knottedParts_79 : decode cX0_knottedParts 79 = .ok (.ldiv, 1) := by decide +kernel
theorem dX0_knottedParts_80 : decode cX0_knottedParts 80 = .ok (.lstore_n 3, 1) := by decide +kernel
theorem dX0_knottedParts_81 : decode cX0_knottedParts 81 = .ok (.aload_n 0, 1) := by decide +kernel
theorem dX0_knottedParts_82 : decode cX0_knottedParts 82 = .ok (.getfield 12, 3) := by decide +kernel
theorem dX0_knottedParts_85 : decode cX0_knottedParts 85 = .ok (.iload_n 1, 1) := by decide +kernel
theorem dX0_knottedParts_86 : decode cX0_knottedParts 86 = .ok (.aload_n 0, 1) := by decide +kernel
theorem dX0_knottedParts_87 : decode cX0_knottedParts 87 = .ok (.getfield 34, 3) := by decide +kernel
theorem dX0_knottedParts_90 : decode cX0_knottedParts 90 = .ok (.getfield 165, 3) := by decide +kernel
theorem dX0_knottedParts_93 : decode cX0_knottedParts 93 = .ok (.invokevirtual 170, 3) := by decide +kernel
theorem dX0_knottedParts_96 : decode cX0_knottedParts 96 = .ok (.iinc 6 1, 3) := by decide +kernel
theorem dX0_knottedParts_99 : decode cX0_knottedParts 99 = .ok (.goto (-71), 3) := by decide +kernel
theorem dX0_knottedParts_102 : decode cX0_knottedParts 102 = .ok (.ldc2_w 161, 3) := by decide +kernel
theorem dX0_knottedParts_105 : decode cX0_knottedParts 105 = .ok (.lload_n 3, 1) := by decide +kernel
theorem dX0_knottedParts_106 : decode cX0_knottedParts 106 = .ok (.lsub, 1) := by decide +kernel
theorem dX0_knottedParts_107 : decode cX0_knottedParts 107 = .ok (.l2i, 1) := by decide +kernel
theorem dX0_knottedParts_108 : decode cX0_knottedParts 108 = .ok (.ireturn, 1) := by decide +kernel
theorem dX0_rackBits_0 : decode cX0_rackBits 0 = .ok (.aload_n 0, 1) := by decide +kernel
theorem dX0_rackBits_1 : decode cX0_rackBits 1 = .ok (.getfield 42, 3) := by decide +kernel
theorem dX0_rackBits_4 : decode cX0_rackBits 4 = .ok (.invokevirtual 101, 3) := by decide +kernel
theorem dX0_rackBits_7 : decode cX0_rackBits 7 = .ok (.istore_n 1, 1) := by decide +kernel
theorem dX0_rackBits_8 : decode cX0_rackBits 8 = .ok (.aload_n 0, 1) := by decide +kernel
theorem dX0_rackBits_9 : decode cX0_rackBits 9 = .ok (.iload_n 1, 1) := by decide +kernel
theorem dX0_rackBits_10 : decode cX0_rackBits 10 = .ok (.iconst 1, 1) := by decide +kernel
theorem dX0_rackBits_11 : decode cX0_rackBits 11 = .ok (.invokevirtual 110, 3) := by decide +kernel
theorem dX0_rackBits_14 : decode cX0_rackBits 14 = .ok (.iconst 0, 1) := by decide +kernel
theorem dX0_rackBits_15 : decode cX0_rackBits 15 = .ok (.istore_n 2, 1) := by decide +kernel
theorem dX0_rackBits_16 : decode cX0_rackBits 16 = .ok (.iconst 0, 1) := by decide +kernel
theorem dX0_rackBits_17 : decode cX0_rackBits 17 = .ok (.istore_n 3, 1) := by decide +kernel
theorem dX0_rackBits_18 : decode cX0_rackBits 18 = .ok (.iload_n 3, 1) := by decide +kernel
theorem dX0_rackBits_19 : decode cX0_rackBits 19 = .ok (.aload_n 0, 1) := by decide +kernel
theorem dX0_rackBits_20 : decode cX0_rackBits 20 = .ok (.getfield 42, 3) := by decide +kernel
theorem dX0_rackBits_23 : decode cX0_rackBits 23 = .ok (.getfield 49, 3) := by decide +kernel
theorem dX0_rackBits_26 : decode cX0_rackBits 26 = .ok (.if_icmp .ge 33, 3) := by decide +kernel
theorem dX0_rackBits_29 : decode cX0_rackBits 29 = .ok (.iload_n 1, 1) := by decide +kernel
theorem dX0_rackBits_30 : decode cX0_rackBits 30 = .ok (.iload_n 3, 1) := by decide +kernel
theorem dX0_rackBits_31 : decode cX0_rackBits 31 = .ok (.ishr, 1) := by decide +kernel
theorem dX0_rackBits_32 : decode cX0_rackBits 32 = .ok (.iconst 1, 1) := by decide +kernel
theorem dX0_rackBits_33 : decode cX0_rackBits 33 = .ok (.iand, 1) := by decide +kernel
theorem dX0_rackBits_34 : decode cX0_rackBits 34 = .ok (.iconst 1, 1) := by decide +kernel
theorem dX0_rackBits_35 : decode cX0_rackBits 35 = .ok (.if_icmp .ne 18, 3) := by decide +kernel
theorem dX0_rackBits_38 : decode cX0_rackBits 38 = .ok (.aload_n 0, 1) := by decide +kernel
theorem dX0_rackBits_39 : decode cX0_rackBits 39 = .ok (.getfield 18, 3) := by decide +kernel
theorem dX0_rackBits_42 : decode cX0_rackBits 42 = .ok (.iload_n 3, 1) := by decide +kernel
theorem dX0_rackBits_43 : decode cX0_rackBits 43 = .ok (.iaload, 1) := by decide +kernel
theorem dX0_rackBits_44 : decode cX0_rackBits 44 = .ok (.ifCond .ne 9, 3) := by decide +kernel
theorem dX0_rackBits_47 : decode cX0_rackBits 47 = .ok (.iload_n 2, 1) := by decide +kernel
theorem dX0_rackBits_48 : decode cX0_rackBits 48 = .ok (.iconst 1, 1) := by decide +kernel
theorem dX0_rackBits_49 : decode cX0_rackBits 49 = .ok (.iload_n 3, 1) := by decide +kernel
theorem dX0_rackBits_50 : decode cX0_rackBits 50 = .ok (.ishl, 1) := by decide +kernel
theorem dX0_rackBits_51 : decode cX0_rackBits 51 = .ok (.ior, 1) := by decide +kernel
theorem dX0_rackBits_52 : decode cX0_rackBits 52 = .ok (.istore_n 2, 1) := by decide +kernel
theorem dX0_rackBits_53 : decode cX0_rackBits 53 = .ok (.iinc 3 1, 3) := by decide +kernel
theorem dX0_rackBits_56 : decode cX0_rackBits 56 = .ok (.goto (-38), 3) := by decide +kernel
theorem dX0_rackBits_59 : decode cX0_rackBits 59 = .ok (.iload_n 2, 1) := by decide +kernel
theorem dX0_rackBits_60 : decode cX0_rackBits 60 = .ok (.ireturn, 1) := by decide +kernel
theorem dX0_isFirstOfTale_0 : decode cX0_isFirstOfTale 0 = .ok (.aload_n 0, 1) := by decide +kernel
theorem dX0_isFirstOfTale_1 : decode cX0_isFirstOfTale 1 = .ok (.getfield 42, 3) := by decide +kernel
theorem dX0_isFirstOfTale_4 : decode cX0_isFirstOfTale 4 = .ok (.iload_n 1, 1) := by decide +kernel
theorem dX0_isFirstOfTale_5 : decode cX0_isFirstOfTale 5 = .ok (.invokevirtual 84, 3) := by decide +kernel
theorem dX0_isFirstOfTale_8 : decode cX0_isFirstOfTale 8 = .ok (.ifCond .ne 33, 3) := by decide +kernel
theorem dX0_isFirstOfTale_11 : decode cX0_isFirstOfTale 11 = .ok (.aload_n 0, 1) := by decide +kernel
theorem dX0_isFirstOfTale_12 : decode cX0_isFirstOfTale 12 = .ok (.getfield 42, 3) := by decide +kernel
theorem dX0_isFirstOfTale_15 : decode cX0_isFirstOfTale 15 = .ok (.getfield 88, 3) := by decide +kernel
theorem dX0_isFirstOfTale_18 : decode cX0_isFirstOfTale 18 = .ok (.iload_n 1, 1) := by decide +kernel
theorem dX0_isFirstOfTale_19 : decode cX0_isFirstOfTale 19 = .ok (.iaload, 1) := by decide +kernel
theorem dX0_isFirstOfTale_20 : decode cX0_isFirstOfTale 20 = .ok (.iconst (-1), 1) := by decide +kernel
theorem dX0_isFirstOfTale_21 : decode cX0_isFirstOfTale 21 = .ok (.if_icmp .ne 20, 3) := by decide +kernel
theorem dX0_isFirstOfTale_24 : decode cX0_isFirstOfTale 24 = .ok (.aload_n 0, 1) := by decide +kernel
theorem dX0_isFirstOfTale_25 : decode cX0_isFirstOfTale 25 = .ok (.getfield 42, 3) := by decide +kernel
theorem dX0_isFirstOfTale_28 : decode cX0_isFirstOfTale 28 = .ok (.getfield 173, 3) := by decide +kernel
theorem dX0_isFirstOfTale_31 : decode cX0_isFirstOfTale 31 = .ok (.iload_n 1, 1) := by decide +kernel
theorem dX0_isFirstOfTale_32 : decode cX0_isFirstOfTale 32 = .ok (.iaload, 1) := by decide +kernel
theorem dX0_isFirstOfTale_33 : decode cX0_isFirstOfTale 33 = .ok (.iconst (-1), 1) := by decide +kernel
theorem dX0_isFirstOfTale_34 : decode cX0_isFirstOfTale 34 = .ok (.if_icmp .eq 7, 3) := by decide +kernel
theorem dX0_isFirstOfTale_37 : decode cX0_isFirstOfTale 37 = .ok (.iconst 1, 1) := by decide +kernel
theorem dX0_isFirstOfTale_38 : decode cX0_isFirstOfTale 38 = .ok (.goto 4, 3) := by decide +kernel
theorem dX0_isFirstOfTale_41 : decode cX0_isFirstOfTale 41 = .ok (.iconst 0, 1) := by decide +kernel
theorem dX0_isFirstOfTale_42 : decode cX0_isFirstOfTale 42 = .ok (.ireturn, 1) := by decide +kernel
theorem dX0_countTales_0 : decode cX0_countTales 0 = .ok (.iconst 0, 1) := by decide +kernel
theorem dX0_countTales_1 : decode cX0_countTales 1 = .ok (.istore_n 1, 1) := by decide +kernel
theorem dX0_countTales_2 : decode cX0_countTales 2 = .ok (.iconst 0, 1) := by decide +kernel
theorem dX0_countTales_3 : decode cX0_countTales 3 = .ok (.istore_n 2, 1) := by decide +kernel
theorem dX0_countTales_4 : decode cX0_countTales 4 = .ok (.iload_n 2, 1) := by decide +kernel
theorem dX0_countTales_5 : decode cX0_countTales 5 = .ok (.aload_n 0, 1) := by decide +kernel
theorem dX0_countTales_6 : decode cX0_countTales 6 = .ok (.getfield 42, 3) := by decide +kernel
theorem dX0_countTales_9 : decode cX0_countTales 9 = .ok (.getfield 49, 3) := by decide +kernel
theorem dX0_countTales_12 : decode cX0_countTales 12 = .ok (.if_icmp .ge 20, 3) := by decide +kernel
theorem dX0_countTales_15 : decode cX0_countTales 15 = .ok (.aload_n 0, 1) := by decide +kernel
theorem dX0_countTales_16 : decode cX0_countTales 16 = .ok (.iload_n 2, 1) := by decide +kernel
theorem dX0_countTales_17 : decode cX0_countTales 17 = .ok (.invokevirtual 176, 3) := by decide +kernel
theorem dX0_countTales_20 : decode cX0_countTales 20 = .ok (.ifCond .eq 6, 3) := by decide +kernel
theorem dX0_countTales_23 : decode cX0_countTales 23 = .ok (.iinc 1 1, 3) := by decide +kernel
theorem dX0_countTales_26 : decode cX0_countTales 26 = .ok (.iinc 2 1, 3) := by decide +kernel
theorem dX0_countTales_29 : decode cX0_countTales 29 = .ok (.goto (-25), 3) := by decide +kernel
theorem dX0_countTales_32 : decode cX0_countTales 32 = .ok (.iload_n 1, 1) := by decide +kernel
theorem dX0_countTales_33 : decode cX0_countTales 33 = .ok (.ireturn, 1) := by decide +kernel
theorem dX0_priceOfTales_0 : decode cX0_priceOfTales 0 = .ok (.iconst 0, 1) := by decide +kernel
theorem dX0_priceOfTales_1 : decode cX0_priceOfTales 1 = .ok (.istore_n 1, 1) := by decide +kernel
theorem dX0_priceOfTales_2 : decode cX0_priceOfTales 2 = .ok (.iconst 0, 1) := by decide +kernel
theorem dX0_priceOfTales_3 : decode cX0_priceOfTales 3 = .ok (.istore_n 2, 1) := by decide +kernel
theorem dX0_priceOfTales_4 : decode cX0_priceOfTales 4 = .ok (.iload_n 2, 1) := by decide +kernel
theorem dX0_priceOfTales_5 : decode cX0_priceOfTales 5 = .ok (.aload_n 0, 1) := by decide +kernel
theorem dX0_priceOfTales_6 : decode cX0_priceOfTales 6 = .ok (.getfield 42, 3) := by decide +kernel
theorem dX0_priceOfTales_9 : decode cX0_priceOfTales 9 = .ok (.getfield 49, 3) := by decide +kernel
theorem dX0_priceOfTales_12 : decode cX0_priceOfTales 12 = .ok (.if_icmp .ge 35, 3) := by decide +kernel
theorem dX0_priceOfTales_15 : decode cX0_priceOfTales 15 = .ok (.aload_n 0, 1) := by decide +kernel
theorem dX0_priceOfTales_16 : decode cX0_priceOfTales 16 = .ok (.iload_n 2, 1) := by decide +kernel
theorem dX0_priceOfTales_17 : decode cX0_priceOfTales 17 = .ok (.invokevirtual 176, 3) := by decide +kernel
theorem dX0_priceOfTales_20 : decode cX0_priceOfTales 20 = .ok (.ifCond .eq 21, 3) := by decide +kernel
theorem dX0_priceOfTales_23 : decode cX0_priceOfTales 23 = .ok (.iload_n 1, 1) := by decide +kernel
theorem dX0_priceOfTales_24 : decode cX0_priceOfTales 24 = .ok (.aload_n 0, 1) := by decide +kernel
theorem dX0_priceOfTales_25 : decode cX0_priceOfTales 25 = .ok (.getfield 42, 3) := by decide +kernel
theorem dX0_priceOfTales_28 : decode cX0_priceOfTales 28 = .ok (.aload_n 0, 1) := by decide +kernel
theorem dX0_priceOfTales_29 : decode cX0_priceOfTales 29 = .ok (.getfield 42, 3) := by decide +kernel
theorem dX0_priceOfTales_32 : decode cX0_priceOfTales 32 = .ok (.iload_n 2, 1) := by decide +kernel
theorem dX0_priceOfTales_33 : decode cX0_priceOfTales 33 = .ok (.invokevirtual 145, 3) := by decide +kernel
theorem dX0_priceOfTales_36 : decode cX0_priceOfTales 36 = .ok (.invokevirtual 179, 3) := by decide +kernel
theorem dX0_priceOfTales_39 : decode cX0_priceOfTales 39 = .ok (.iadd, 1) := by decide +kernel
theorem dX0_priceOfTales_40 : decode cX0_priceOfTales 40 = .ok (.istore_n 1, 1) := by decide +kernel
theorem dX0_priceOfTales_41 : decode cX0_priceOfTales 41 = .ok (.iinc 2 1, 3) := by decide +kernel
theorem dX0_priceOfTales_44 : decode cX0_priceOfTales 44 = .ok (.goto (-40), 3) := by decide +kernel
theorem dX0_priceOfTales_47 : decode cX0_priceOfTales 47 = .ok (.iload_n 1, 1) := by decide +kernel
theorem dX0_priceOfTales_48 : decode cX0_priceOfTales 48 = .ok (.ireturn, 1) := by decide +kernel
theorem dX1_init_0 : decode cX1_init 0 = .ok (.aload_n 0, 1) := by decide +kernel
theorem dX1_init_1 : decode cX1_init 1 = .ok (.invokespecial 3, 3) := by decide +kernel
theorem dX1_init_4 : decode cX1_init 4 = .ok (.aload_n 0, 1) := by decide +kernel
theorem dX1_init_5 : decode cX1_init 5 = .ok (.bipush 16, 2) := by decide +kernel
theorem dX1_init_7 : decode cX1_init 7 = .ok (.newarray .int, 2) := by decide +kernel
theorem dX1_init_9 : decode cX1_init 9 = .ok (.putfield 11, 3) := by decide +kernel
theorem dX1_init_12 : decode cX1_init 12 = .ok (.aload_n 0, 1) := by decide +kernel
theorem dX1_init_13 : decode cX1_init 13 = .ok (.bipush 16, 2) := by decide +kernel
theorem dX1_init_15 : decode cX1_init 15 = .ok (.newarray .int, 2) := by decide +kernel
theorem dX1_init_17 : decode cX1_init 17 = .ok (.putfield 15, 3) := by decide +kernel
theorem dX1_init_20 : decode cX1_init 20 = .ok (.aload_n 0, 1) := by decide +kernel
theorem dX1_init_21 : decode cX1_init 21 = .ok (.aload_n 1, 1) := by decide +kernel
theorem dX1_init_22 : decode cX1_init 22 = .ok (.putfield 18, 3) := by decide +kernel
theorem dX1_init_25 : decode cX1_init 25 = .ok (.aload_n 0, 1) := by decide +kernel
theorem dX1_init_26 : decode cX1_init 26 = .ok (.aload_n 2, 1) := by decide +kernel
theorem dX1_init_27 : decode cX1_init 27 = .ok (.putfield 22, 3) := by decide +kernel
theorem dX1_init_30 : decode cX1_init 30 = .ok (.aload_n 0, 1) := by decide +kernel
theorem dX1_init_31 : decode cX1_init 31 = .ok (.aload_n 3, 1) := by decide +kernel
theorem dX1_init_32 : decode cX1_init 32 = .ok (.putfield 26, 3) := by decide +kernel
theorem dX1_init_35 : decode cX1_init 35 = .ok (.return_, 1) := by decide +kernel
theorem dX1_isMove_0 : decode cX1_isMove 0 = .ok (.iload_n 0, 1) := by decide +kernel
theorem dX1_isMove_1 : decode cX1_isMove 1 = .ok (.ifCond .lt 12, 3) := by decide +kernel
theorem dX1_isMove_4 : decode cX1_isMove 4 = .ok (.iload_n 0, 1) := by decide +kernel
theorem dX1_isMove_5 : decode cX1_isMove 5 = .ok (.iconst 4, 1) := by decide +kernel
theorem dX1_isMove_6 : decode cX1_isMove 6 = .ok (.if_icmp .ge 7, 3) := by decide +kernel
theorem dX1_isMove_9 : decode cX1_isMove 9 = .ok (.iconst 1, 1) := by decide +kernel
theorem dX1_isMove_10 : decode cX1_isMove 10 = .ok (.goto 4, 3) := by decide +kernel
theorem dX1_isMove_13 : decode cX1_isMove 13 = .ok (.iconst 0, 1) := by decide +kernel
theorem dX1_isMove_14 : decode cX1_isMove 14 = .ok (.ireturn, 1) := by decide +kernel
theorem dX1_dyedOn_0 : decode cX1_dyedOn 0 = .ok (.bipush 20, 2) := by decide +kernel
theorem dX1_dyedOn_2 : decode cX1_dyedOn 2 = .ok (.aload_n 0, 1) := by decide +kernel
theorem dX1_dyedOn_3 : decode cX1_dyedOn 3 = .ok (.getfield 26, 3) := by decide +kernel
theorem dX1_dyedOn_6 : decode cX1_dyedOn 6 = .ok (.getfield 30, 3) := by decide +kernel
theorem dX1_dyedOn_9 : decode cX1_dyedOn 9 = .ok (.iload_n 1, 1) := by decide +kernel
theorem dX1_dyedOn_10 : decode cX1_dyedOn 10 = .ok (.iaload, 1) := by decide +kernel
theorem dX1_dyedOn_11 : decode cX1_dyedOn 11 = .ok (.iload_n 2, 1) := by decide +kernel
theorem dX1_dyedOn_12 : decode cX1_dyedOn 12 = .ok (.iadd, 1) := by decide +kernel
theorem dX1_dyedOn_13 : decode cX1_dyedOn 13 = .ok (.invokestatic 35, 3) := by decide +kernel
theorem dX1_dyedOn_16 : decode cX1_dyedOn 16 = .ok (.ireturn, 1) := by decide +kernel
theorem dX1_has_0 : decode cX1_has 0 = .ok (.aload_n 0, 1) := by decide +kernel
theorem dX1_has_1 : decode cX1_has 1 = .ok (.iload_n 1, 1) := by decide +kernel
theorem dX1_has_2 : decode cX1_has 2 = .ok (.iload_n 3, 1) := by decide +kernel
theorem dX1_has_3 : decode cX1_has 3 = .ok (.invokevirtual 41, 3) := by decide +kernel
theorem dX1_has_6 : decode cX1_has 6 = .ok (.istore 5, 2) := by decide +kernel
theorem dX1_has_8 : decode cX1_has 8 = .ok (.iconst 0, 1) := by decide +kernel
theorem dX1_has_9 : decode cX1_has 9 = .ok (.istore 6, 2) := by decide +kernel
theorem dX1_has_11 : decode cX1_has 11 = .ok (.iconst 0, 1) := by decide +kernel
theorem dX1_has_12 : decode cX1_has 12 = .ok (.istore 7, 2) := by decide +kernel
theorem dX1_has_14 : decode cX1_has 14 = .ok (.iload 7, 2) := by decide +kernel
theorem dX1_has_16 : decode cX1_has 16 = .ok (.aload_n 0, 1) := by decide +kernel
theorem dX1_has_17 : decode cX1_has 17 = .ok (.getfield 26, 3) := by decide +kernel
theorem dX1_has_20 : decode cX1_has 20 = .ok (.getfield 44, 3) := by decide +kernel
theorem dX1_has_23 : decode cX1_has 23 = .ok (.if_icmp .ge 111, 3) := by decide +kernel
theorem dX1_has_26 : decode cX1_has 26 = .ok (.iload 7, 2) := by decide +kernel
theorem dX1_has_28 : decode cX1_has 28 = .ok (.iload_n 1, 1) := by decide +kernel
theorem dX1_has_29 : decode cX1_has 29 = .ok (.if_icmp .eq 99, 3) := by decide +kernel
theorem dX1_has_32 : decode cX1_has 32 = .ok (.iload 5, 2) := by decide +kernel
theorem dX1_has_34 : decode cX1_has 34 = .ok (.aload_n 0, 1) := by decide +kernel
theorem dX1_has_35 : decode cX1_has 35 = .ok (.iload 7, 2) := by decide +kernel
theorem dX1_has_37 : decode cX1_has 37 = .ok (.iload 7, 2) := by decide +kernel
theorem dX1_has_39 : decode cX1_has 39 = .ok (.iload_n 2, 1) := by decide +kernel
theorem dX1_has_40 : decode cX1_has 40 = .ok (.if_icmp .ne 8, 3) := by decide +kernel
theorem dX1_has_43 : decode cX1_has 43 = .ok (.iload 4, 2) := by decide +kernel
theorem dX1_has_45 : decode cX1_has 45 = .ok (.goto 4, 3) := by decide +kernel
theorem dX1_has_48 : decode cX1_has 48 = .ok (.iconst 0, 1) := by decide +kernel
theorem dX1_has_49 : decode cX1_has 49 = .ok (.invokevirtual 41, 3) := by decide +kernel
theorem dX1_has_52 : decode cX1_has 52 = .ok (.isub, 1) := by decide +kernel
theorem dX1_has_53 : decode cX1_has 53 = .ok (.invokestatic 48, 3) := by decide +kernel
theorem dX1_has_56 : decode cX1_has 56 = .ok (.istore 8, 2) := by decide +kernel
theorem dX1_has_58 : decode cX1_has 58 = .ok (.aload_n 0, 1) := by decide +kernel
theorem dX1_has_59 : decode cX1_has 59 = .ok (.getfield 18, 3) := by decide +kernel
theorem dX1_has_62 : decode cX1_has 62 = .ok (.getfield 52, 3) := by decide +kernel
theorem dX1_has_65 : decode cX1_has 65 = .ok (.iload_n 1, 1) := by decide +kernel
theorem dX1_has_66 : decode cX1_has 66 = .ok (.iaload, 1) := by decide +kernel
theorem dX1_has_67 : decode cX1_has 67 = .ok (.aload_n 0, 1) := by decide +kernel
theorem dX1_has_68 : decode cX1_has 68 = .ok (.getfield 18, 3) := by decide +kernel
theorem dX1_has_71 : decode cX1_has 71 = .ok (.getfield 52, 3) := by decide +kernel
theorem dX1_has_74 : decode cX1_has 74 = .ok (.iload 7, 2) := by decide +kernel
theorem dX1_has_76 : decode cX1_has 76 = .ok (.iaload, 1) := by decide +kernel
theorem dX1_has_77 : decode cX1_has 77 = .ok (.isub, 1) := by decide +kernel
theorem dX1_has_78 : decode cX1_has 78 = .ok (.invokestatic 48, 3) := by decide +kernel
theorem dX1_has_81 : decode cX1_has 81 = .ok (.istore 9, 2) := by decide +kernel
theorem dX1_has_83 : decode cX1_has 83 = .ok (.aload_n 0, 1) := by decide +kernel
theorem dX1_has_84 : decode cX1_has 84 = .ok (.getfield 22, 3) := by decide +kernel
theorem dX1_has_87 : decode cX1_has 87 = .ok (.iload 8, 2) := by decide +kernel
theorem dX1_has_89 : decode cX1_has 89 = .ok (.iload 9, 2) := by decide +kernel
theorem dX1_has_91 : decode cX1_has 91 = .ok (.aload_n 0, 1) := by decide +kernel
theorem dX1_has_92 : decode cX1_has 92 = .ok (.getfield 26, 3) := by decide +kernel
theorem dX1_has_95 : decode cX1_has 95 = .ok (.getfield 57, 3) := by decide +kernel
theorem dX1_has_98 : decode cX1_has 98 = .ok (.iload_n 1, 1) := by decide +kernel
theorem dX1_has_99 : decode cX1_has 99 = .ok (.iaload, 1) := by decide +kernel
theorem dX1_has_100 : decode cX1_has 100 = .ok (.aload_n 0, 1) := by decide +kernel
theorem dX1_has_101 : decode cX1_has 101 = .ok (.getfield 26, 3) := by decide +kernel
theorem dX1_has_104 : decode cX1_has 104 = .ok (.getfield 57, 3) := by decide +kernel
theorem dX1_has_107 : decode cX1_has 107 = .ok (.iload 7, 2) := by decide +kernel
theorem dX1_has_109 : decode cX1_has 109 = .ok (.iaload, 1) := by decide +kernel
theorem dX1_has_110 : decode cX1_has 110 = .ok (.iadd, 1) := by decide +kernel
theorem dX1_has_111 : decode cX1_has 111 = .ok (.iconst 1, 1) := by decide +kernel
theorem dX1_has_112 : decode cX1_has 112 = .ok (.aload_n 0, 1) := by decide +kernel
theorem dX1_has_113 : decode cX1_has 113 = .ok (.getfield 26, 3) := by decide +kernel
theorem dX1_has_116 : decode cX1_has 116 = .ok (.getfield 60, 3) := by decide +kernel
theorem dX1_has_119 : decode cX1_has 119 = .ok (.invokevirtual 63, 3) := by decide +kernel
theorem dX1_has_122 : decode cX1_has 122 = .ok (.ifCond .eq 6, 3) := by decide +kernel
theorem dX1_has_125 : decode cX1_has 125 = .ok (.iinc 6 1, 3) := by decide +kernel
theorem dX1_has_128 : decode cX1_has 128 = .ok (.iinc 7 1, 3) := by decide +kernel
theorem dX1_has_131 : decode cX1_has 131 = .ok (.goto (-117), 3) := by decide +kernel
theorem dX1_has_134 : decode cX1_has 134 = .ok (.iload 6, 2) := by decide +kernel
theorem dX1_has_136 : decode cX1_has 136 = .ok (.iload_n 3, 1) := by decide +kernel
theorem dX1_has_137 : decode cX1_has 137 = .ok (.isub, 1) := by decide +kernel
theorem dX1_has_138 : decode cX1_has 138 = .ok (.ireturn, 1) := by decide +kernel
theorem dX1_play_0 : decode cX1_play 0 = .ok (.iconst 0, 1) := by decide +kernel
theorem dX1_play_1 : decode cX1_play 1 = .ok (.istore_n 3, 1) := by decide +kernel
theorem dX1_play_2 : decode cX1_play 2 = .ok (.iload_n 3, 1) := by decide +kernel
theorem dX1_play_3 : decode cX1_play 3 = .ok (.iconst 4, 1) := by decide +kernel
theorem dX1_play_4 : decode cX1_play 4 = .ok (.if_icmp .ge 64, 3) := by decide +kernel
theorem dX1_play_7 : decode cX1_play 7 = .ok (.iconst 0, 1) := by decide +kernel
theorem dX1_play_8 : decode cX1_play 8 = .ok (.istore 4, 2) := by decide +kernel
theorem dX1_play_10 : decode cX1_play 10 = .ok (.iload 4, 2) := by decide +kernel
theorem dX1_play_12 : decode cX1_play 12 = .ok (.iconst 4, 1) := by decide +kernel
theorem dX1_play_13 : decode cX1_play 13 = .ok (.if_icmp .ge 49, 3) := by decide +kernel
theorem dX1_play_16 : decode cX1_play 16 = .ok (.aload_n 0, 1) := by decide +kernel
theorem dX1_play_17 : decode cX1_play 17 = .ok (.getfield 11, 3) := by decide +kernel
theorem dX1_play_20 : decode cX1_play 20 = .ok (.iload_n 3, 1) := by decide +kernel
theorem dX1_play_21 : decode cX1_play 21 = .ok (.iconst 4, 1) := by decide +kernel
theorem dX1_play_22 : decode cX1_play 22 = .ok (.imul, 1) := by decide +kernel
theorem dX1_play_23 : decode cX1_play 23 = .ok (.iload 4, 2) := by decide +kernel
theorem dX1_play_25 : decode cX1_play 25 = .ok (.iadd, 1) := by decide +kernel
theorem dX1_play_26 : decode cX1_play 26 = .ok (.aload_n 0, 1) := by decide +kernel
theorem dX1_play_27 : decode cX1_play 27 = .ok (.iload_n 1, 1) := by decide +kernel
theorem dX1_play_28 : decode cX1_play 28 = .ok (.iload_n 2, 1) := by decide +kernel
theorem dX1_play_29 : decode cX1_play 29 = .ok (.iload_n 3, 1) := by decide +kernel
theorem dX1_play_30 : decode cX1_play 30 = .ok (.iload 4, 2) := by decide +kernel
theorem dX1_play_32 : decode cX1_play 32 = .ok (.invokevirtual 69, 3) := by decide +kernel
theorem dX1_play_35 : decode cX1_play 35 = .ok (.iastore, 1) := by decide +kernel
theorem dX1_play_36 : decode cX1_play 36 = .ok (.aload_n 0, 1) := by decide +kernel
theorem dX1_play_37 : decode cX1_play 37 = .ok (.getfield 15, 3) := by decide +kernel
theorem dX1_play_40 : decode cX1_play 40 = .ok (.iload_n 3, 1) := by decide +kernel
theorem dX1_play_41 : decode cX1_play 41 = .ok (.iconst 4, 1) := by decide +kernel
theorem dX1_play_42 : decode cX1_play 42 = .ok (.imul, 1) := by decide +kernel
theorem dX1_play_43 : decode cX1_play 43 = .ok (.iload 4, 2) := by decide +kernel
theorem dX1_play_45 : decode cX1_play 45 = .ok (.iadd, 1) := by decide +kernel
theorem dX1_play_46 : decode cX1_play 46 = .ok (.aload_n 0, 1) := by decide +kernel
theorem dX1_play_47 : decode cX1_play 47 = .ok (.iload_n 2, 1) := by decide +kernel
theorem dX1_play_48 : decode cX1_play 48 = .ok (.iload_n 1, 1) := by decide +kernel
theorem dX1_play_49 : decode cX1_play 49 = .ok (.iload 4, 2) := by decide +kernel
theorem dX1_play_51 : decode cX1_play 51 = .ok (.iload_n 3, 1) := by decide +kernel
theorem dX1_play_52 : decode cX1_play 52 = .ok (.invokevirtual 69, 3) := by decide +kernel
theorem dX1_play_55 : decode cX1_play 55 = .ok (.iastore, 1) := by decide +kernel
theorem dX1_play_56 : decode cX1_play 56 = .ok (.iinc 4 1, 3) := by decide +kernel
theorem dX1_play_59 : decode cX1_play 59 = .ok (.goto (-49), 3) := by decide +kernel
theorem dX1_play_62 : decode cX1_play 62 = .ok (.iinc 3 1, 3) := by decide +kernel
theorem dX1_play_65 : decode cX1_play 65 = .ok (.goto (-63), 3) := by decide +kernel
theorem dX1_play_68 : decode cX1_play 68 = .ok (.return_, 1) := by decide +kernel
theorem dX1_isRest_0 : decode cX1_isRest 0 = .ok (.iload_n 1, 1) := by decide +kernel
theorem dX1_isRest_1 : decode cX1_isRest 1 = .ok (.iconst 4, 1) := by decide +kernel
theorem dX1_isRest_2 : decode cX1_isRest 2 = .ok (.imul, 1) := by decide +kernel
theorem dX1_isRest_3 : decode cX1_isRest 3 = .ok (.iload_n 2, 1) := by decide +kernel
theorem dX1_isRest_4 : decode cX1_isRest 4 = .ok (.iadd, 1) := by decide +kernel
theorem dX1_isRest_5 : decode cX1_isRest 5 = .ok (.istore_n 3, 1) := by decide +kernel
theorem dX1_isRest_6 : decode cX1_isRest 6 = .ok (.iconst 0, 1) := by decide +kernel
theorem dX1_isRest_7 : decode cX1_isRest 7 = .ok (.istore 4, 2) := by decide +kernel
theorem dX1_isRest_9 : decode cX1_isRest 9 = .ok (.iload 4, 2) := by decide +kernel
theorem dX1_isRest_11 : decode cX1_isRest 11 = .ok (.iconst 4, 1) := by decide +kernel
theorem dX1_isRest_12 : decode cX1_isRest 12 = .ok (.if_icmp .ge 51, 3) := by decide +kernel
theorem dX1_isRest_15 : decode cX1_isRest 15 = .ok (.aload_n 0, 1) := by decide +kernel
theorem dX1_isRest_16 : decode cX1_isRest 16 = .ok (.getfield 11, 3) := by decide +kernel
theorem dX1_isRest_19 : decode cX1_isRest 19 = .ok (.iload 4, 2) := by decide +kernel
theorem dX1_isRest_21 : decode cX1_isRest 21 = .ok (.iconst 4, 1) := by decide +kernel
theorem dX1_isRest_22 : decode cX1_isRest 22 = .ok (.imul, 1) := by decide +kernel
theorem dX1_isRest_23 : decode cX1_isRest 23 = .ok (.iload_n 2, 1) := by decide +kernel
theorem dX1_isRest_24 : decode cX1_isRest 24 = .ok (.iadd, 1) := by decide +kernel
theorem dX1_isRest_25 : decode cX1_isRest 25 = .ok (.iaload, 1) := by decide +kernel
theorem dX1_isRest_26 : decode cX1_isRest 26 = .ok (.aload_n 0, 1) := by decide +kernel
theorem dX1_isRest_27 : decode cX1_isRest 27 = .ok (.getfield 11, 3) := by decide +kernel
theorem dX1_isRest_30 : decode cX1_isRest 30 = .ok (.iload_n 3, 1) := by decide +kernel
theorem dX1_isRest_31 : decode cX1_isRest 31 = .ok (.iaload, 1) := by decide +kernel
theorem dX1_isRest_32 : decode cX1_isRest 32 = .ok (.if_icmp .gt 23, 3) := by decide +kernel
theorem dX1_isRest_35 : decode cX1_isRest 35 = .ok (.aload_n 0, 1) := by decide +kernel
theorem dX1_isRest_36 : decode cX1_isRest 36 = .ok (.getfield 15, 3) := by decide +kernel
theorem dX1_isRest_39 : decode cX1_isRest 39 = .ok (.iload_n 1, 1) := by decide +kernel
theorem dX1_isRest_40 : decode cX1_isRest 40 = .ok (.iconst 4, 1) := by decide +kernel
theorem dX1_isRest_41 : decode cX1_isRest 41 = .ok (.imul, 1) := by decide +kernel
theorem dX1_isRest_42 : decode cX1_isRest 42 = .ok (.iload 4, 2) := by decide +kernel
theorem dX1_isRest_44 : decode cX1_isRest 44 = .ok (.iadd, 1) := by decide +kernel
theorem dX1_isRest_45 : decode cX1_isRest 45 = .ok (.iaload, 1) := by decide +kernel
theorem dX1_isRest_46 : decode cX1_isRest 46 = .ok (.aload_n 0, 1) := by decide +kernel
theorem dX1_isRest_47 : decode cX1_isRest 47 = .ok (.getfield 15, 3) := by decide +kernel
theorem dX1_isRest_50 : decode cX1_isRest 50 = .ok (.iload_n 3, 1) := by decide +kernel
theorem dX1_isRest_51 : decode cX1_isRest 51 = .ok (.iaload, 1) := by decide +kernel
theorem dX1_isRest_52 : decode cX1_isRest 52 = .ok (.if_icmp .le 5, 3) := by decide +kernel
theorem dX1_isRest_55 : decode cX1_isRest 55 = .ok (.iconst 0, 1) := by decide +kernel
theorem dX1_isRest_56 : decode cX1_isRest 56 = .ok (.ireturn, 1) := by decide +kernel
theorem dX1_isRest_57 : decode cX1_isRest 57 = .ok (.iinc 4 1, 3) := by decide +kernel
theorem dX1_isRest_60 : decode cX1_isRest 60 = .ok (.goto (-51), 3) := by decide +kernel
theorem dX1_isRest_63 : decode cX1_isRest 63 = .ok (.iconst 1, 1) := by decide +kernel
theorem dX1_isRest_64 : decode cX1_isRest 64 = .ok (.ireturn, 1) := by decide +kernel
theorem dX1_countRests_0 : decode cX1_countRests 0 = .ok (.iconst 0, 1) := by decide +kernel
theorem dX1_countRests_1 : decode cX1_countRests 1 = .ok (.istore_n 1, 1) := by decide +kernel
theorem dX1_countRests_2 : decode cX1_countRests 2 = .ok (.iconst 0, 1) := by decide +kernel
theorem dX1_countRests_3 : decode cX1_countRests 3 = .ok (.istore_n 2, 1) := by decide +kernel
theorem dX1_countRests_4 : decode cX1_countRests 4 = .ok (.iload_n 2, 1) := by decide +kernel
theorem dX1_countRests_5 : decode cX1_countRests 5 = .ok (.iconst 4, 1) := by decide +kernel
theorem dX1_countRests_6 : decode cX1_countRests 6 = .ok (.if_icmp .ge 34, 3) := by decide +kernel
theorem dX1_countRests_9 : decode cX1_countRests 9 = .ok (.iconst 0, 1) := by decide +kernel
theorem dX1_countRests_10 : decode cX1_countRests 10 = .ok (.istore_n 3, 1) := by decide +kernel
theorem dX1_countRests_11 : decode cX1_countRests 11 = .ok (.iload_n 3, 1) := by decide +kernel
theorem dX1_countRests_12 : decode cX1_countRests 12 = .ok (.iconst 4, 1) := by decide +kernel
theorem dX1_countRests_13 : decode cX1_countRests 13 = .ok (.if_icmp .ge 21, 3) := by decide +kernel
theorem dX1_countRests_16 : decode cX1_countRests 16 = .ok (.aload_n 0, 1) := by decide +kernel
theorem dX1_countRests_17 : decode cX1_countRests 17 = .ok (.iload_n 2, 1) := by decide +kernel
theorem dX1_countRests_18 : decode cX1_countRests 18 = .ok (.iload_n 3, 1) := by decide +kernel
theorem dX1_countRests_19 : decode cX1_countRests 19 = .ok (.invokevirtual 73, 3) := by decide +kernel
theorem dX1_countRests_22 : decode cX1_countRests 22 = .ok (.ifCond .eq 6, 3) := by decide +kernel
theorem dX1_countRests_25 : decode cX1_countRests 25 = .ok (.iinc 1 1, 3) := by decide +kernel
theorem dX1_countRests_28 : decode cX1_countRests 28 = .ok (.iinc 3 1, 3) := by decide +kernel
theorem dX1_countRests_31 : decode cX1_countRests 31 = .ok (.goto (-20), 3) := by decide +kernel
theorem dX1_countRests_34 : decode cX1_countRests 34 = .ok (.iinc 2 1, 3) := by decide +kernel
theorem dX1_countRests_37 : decode cX1_countRests 37 = .ok (.goto (-33), 3) := by decide +kernel
theorem dX1_countRests_40 : decode cX1_countRests 40 = .ok (.iload_n 1, 1) := by decide +kernel
theorem dX1_countRests_41 : decode cX1_countRests 41 = .ok (.ireturn, 1) := by decide +kernel
theorem dX1_restAt_0 : decode cX1_restAt 0 = .ok (.iload_n 1, 1) := by decide +kernel
theorem dX1_restAt_1 : decode cX1_restAt 1 = .ok (.istore_n 2, 1) := by decide +kernel
theorem dX1_restAt_2 : decode cX1_restAt 2 = .ok (.iconst 0, 1) := by decide +kernel
theorem dX1_restAt_3 : decode cX1_restAt 3 = .ok (.istore_n 3, 1) := by decide +kernel
theorem dX1_restAt_4 : decode cX1_restAt 4 = .ok (.iload_n 3, 1) := by decide +kernel
theorem dX1_restAt_5 : decode cX1_restAt 5 = .ok (.iconst 4, 1) := by decide +kernel
theorem dX1_restAt_6 : decode cX1_restAt 6 = .ok (.if_icmp .ge 49, 3) := by decide +kernel
theorem dX1_restAt_9 : decode cX1_restAt 9 = .ok (.iconst 0, 1) := by decide +kernel
theorem dX1_restAt_10 : decode cX1_restAt 10 = .ok (.istore 4, 2) := by decide +kernel
theorem dX1_restAt_12 : decode cX1_restAt 12 = .ok (.iload 4, 2) := by decide +kernel
theorem dX1_restAt_14 : decode cX1_restAt 14 = .ok (.iconst 4, 1) := by decide +kernel
theorem dX1_restAt_15 : decode cX1_restAt 15 = .ok (.if_icmp .ge 34, 3) := by decide +kernel
theorem dX1_restAt_18 : decode cX1_restAt 18 = .ok (.aload_n 0, 1) := by decide +kernel
theorem dX1_restAt_19 : decode cX1_restAt 19 = .ok (.iload_n 3, 1) := by decide +kernel
theorem dX1_restAt_20 : decode cX1_restAt 20 = .ok (.iload 4, 2) := by decide +kernel
theorem dX1_restAt_22 : decode cX1_restAt 22 = .ok (.invokevirtual 73, 3) := by decide +kernel
theorem dX1_restAt_25 : decode cX1_restAt 25 = .ok (.ifCond .eq 18, 3) := by decide +kernel
theorem dX1_restAt_28 : decode cX1_restAt 28 = .ok (.iload_n 2, 1) := by decide +kernel
theorem dX1_restAt_29 : decode cX1_restAt 29 = .ok (.ifCond .ne 11, 3) := by decide +kernel
theorem dX1_restAt_32 : decode cX1_restAt 32 = .ok (.iload_n 3, 1) := by decide +kernel
theorem dX1_restAt_33 : decode cX1_restAt 33 = .ok (.bipush 10, 2) := by decide +kernel
theorem dX1_restAt_35 : decode cX1_restAt 35 = .ok (.imul, 1) := by decide +kernel
theorem dX1_restAt_36 : decode cX1_restAt 36 = .ok (.iload 4, 2) := by decide +kernel
theorem dX1_restAt_38 : decode cX1_restAt 38 = .ok (.iadd, 1) := by decide +kernel
theorem dX1_restAt_39 : decode cX1_restAt 39 = .ok (.ireturn, 1) := by decide +kernel
theorem dX1_restAt_40 : decode cX1_restAt 40 = .ok (.iinc 2 (-1), 3) := by decide +kernel
theorem dX1_restAt_43 : decode cX1_restAt 43 = .ok (.iinc 4 1, 3) := by decide +kernel
theorem dX1_restAt_46 : decode cX1_restAt 46 = .ok (.goto (-34), 3) := by decide +kernel
theorem dX1_restAt_49 : decode cX1_restAt 49 = .ok (.iinc 3 1, 3) := by decide +kernel
theorem dX1_restAt_52 : decode cX1_restAt 52 = .ok (.goto (-48), 3) := by decide +kernel
theorem dX1_restAt_55 : decode cX1_restAt 55 = .ok (.iconst (-1), 1) := by decide +kernel
theorem dX1_restAt_56 : decode cX1_restAt 56 = .ok (.ireturn, 1) := by decide +kernel
theorem dX2_init_0 : decode cX2_init 0 = .ok (.aload_n 0, 1) := by decide +kernel
theorem dX2_init_1 : decode cX2_init 1 = .ok (.invokespecial 3, 3) := by decide +kernel
theorem dX2_init_4 : decode cX2_init 4 = .ok (.aload_n 0, 1) := by decide +kernel
theorem dX2_init_5 : decode cX2_init 5 = .ok (.iconst 4, 1) := by decide +kernel
theorem dX2_init_6 : decode cX2_init 6 = .ok (.iconst 0, 1) := by decide +kernel
theorem dX2_init_7 : decode cX2_init 7 = .ok (.multianewarray 9 2, 4) := by decide +kernel
theorem dX2_init_11 : decode cX2_init 11 = .ok (.putfield 11, 3) := by decide +kernel
theorem dX2_init_14 : decode cX2_init 14 = .ok (.aload_n 0, 1) := by decide +kernel
theorem dX2_init_15 : decode cX2_init 15 = .ok (.bipush 6, 2) := by decide +kernel
theorem dX2_init_17 : decode cX2_init 17 = .ok (.newarray .int, 2) := by decide +kernel
theorem dX2_init_19 : decode cX2_init 19 = .ok (.putfield 16, 3) := by decide +kernel
theorem dX2_init_22 : decode cX2_init 22 = .ok (.aload_n 0, 1) := by decide +kernel
theorem dX2_init_23 : decode cX2_init 23 = .ok (.bipush 64, 2) := by decide +kernel
theorem dX2_init_25 : decode cX2_init 25 = .ok (.newarray .int, 2) := by decide +kernel
theorem dX2_init_27 : decode cX2_init 27 = .ok (.putfield 20, 3) := by decide +kernel
theorem dX2_init_30 : decode cX2_init 30 = .ok (.aload_n 0, 1) := by decide +kernel
theorem dX2_init_31 : decode cX2_init 31 = .ok (.iconst (-1), 1) := by decide +kernel
theorem dX2_init_32 : decode cX2_init 32 = .ok (.putfield 23, 3) := by decide +kernel
theorem dX2_init_35 : decode cX2_init 35 = .ok (.aload_n 0, 1) := by decide +kernel
theorem dX2_init_36 : decode cX2_init 36 = .ok (.aload_n 1, 1) := by decide +kernel
theorem dX2_init_37 : decode cX2_init 37 = .ok (.putfield 27, 3) := by decide +kernel
theorem dX2_init_40 : decode cX2_init 40 = .ok (.return_, 1) := by decide +kernel
theorem dX2_add_0 : decode cX2_add 0 = .ok (.aload_n 0, 1) := by decide +kernel
theorem dX2_add_1 : decode cX2_add 1 = .ok (.getfield 31, 3) := by decide +kernel
theorem dX2_add_4 : decode cX2_add 4 = .ok (.iconst 4, 1) := by decide +kernel
theorem dX2_add_5 : decode cX2_add 5 = .ok (.if_icmp .ge 13, 3) := by decide +kernel
theorem dX2_add_8 : decode cX2_add 8 = .ok (.iload_n 2, 1) := by decide +kernel
theorem dX2_add_9 : decode cX2_add 9 = .ok (.ifCond .lt 9, 3) := by decide +kernel
theorem dX2_add_12 : decode cX2_add 12 = .ok (.iload_n 2, 1) := by decide +kernel
theorem dX2_add_13 : decode cX2_add 13 = .ok (.aload_n 1, 1) := by decide +kernel
theorem dX2_add_14 : decode cX2_add 14 = .ok (.arraylength, 1) := by decide +kernel
theorem dX2_add_15 : decode cX2_add 15 = .ok (.if_icmp .le 5, 3) := by decide +kernel
theorem dX2_add_18 : decode cX2_add 18 = .ok (.iconst (-1), 1) := by decide +kernel
theorem dX2_add_19 : decode cX2_add 19 = .ok (.ireturn, 1) := by decide +kernel
theorem dX2_add_20 : decode cX2_add 20 = .ok (.aload_n 0, 1) := by decide +kernel
theorem dX2_add_21 : decode cX2_add 21 = .ok (.getfield 11, 3) := by decide +kernel
theorem dX2_add_24 : decode cX2_add 24 = .ok (.aload_n 0, 1) := by decide +kernel
theorem dX2_add_25 : decode cX2_add 25 = .ok (.getfield 31, 3) := by decide +kernel
theorem dX2_add_28 : decode cX2_add 28 = .ok (.aload_n 1, 1) := by decide +kernel
theorem dX2_add_29 : decode cX2_add 29 = .ok (.iload_n 2, 1) := by decide +kernel
theorem dX2_add_30 : decode cX2_add 30 = .ok (.invokestatic 34, 3) := by decide +kernel
theorem dX2_add_33 : decode cX2_add 33 = .ok (.aastore, 1) := by decide +kernel
theorem dX2_add_34 : decode cX2_add 34 = .ok (.aload_n 0, 1) := by decide +kernel
theorem dX2_add_35 : decode cX2_add 35 = .ok (.dup, 1) := by decide +kernel
theorem dX2_add_36 : decode cX2_add 36 = .ok (.getfield 31, 3) := by decide +kernel
theorem dX2_add_39 : decode cX2_add 39 = .ok (.iconst 1, 1) := by decide +kernel
theorem dX2_add_40 : decode cX2_add 40 = .ok (.iadd, 1) := by decide +kernel
theorem dX2_add_41 : decode cX2_add 41 = .ok (.putfield 31, 3) := by decide +kernel
theorem dX2_add_44 : decode cX2_add 44 = .ok (.aload_n 0, 1) := by decide +kernel
theorem dX2_add_45 : decode cX2_add 45 = .ok (.getfield 31, 3) := by decide +kernel
theorem dX2_add_48 : decode cX2_add 48 = .ok (.iconst 1, 1) := by decide +kernel
theorem dX2_add_49 : decode cX2_add 49 = .ok (.isub, 1) := by decide +kernel
theorem dX2_add_50 : decode cX2_add 50 = .ok (.ireturn, 1) := by decide +kernel
theorem dX2_allows_0 : decode cX2_allows 0 = .ok (.aload_n 0, 1) := by decide +kernel
theorem dX2_allows_1 : decode cX2_allows 1 = .ok (.getfield 23, 3) := by decide +kernel
theorem dX2_allows_4 : decode cX2_allows 4 = .ok (.ifCond .lt 14, 3) := by decide +kernel
theorem dX2_allows_7 : decode cX2_allows 7 = .ok (.aload_n 0, 1) := by decide +kernel
theorem dX2_allows_8 : decode cX2_allows 8 = .ok (.getfield 23, 3) := by decide +kernel
theorem dX2_allows_11 : decode cX2_allows 11 = .ok (.aload_n 0, 1) := by decide +kernel
theorem dX2_allows_12 : decode cX2_allows 12 = .ok (.getfield 31, 3) := by decide +kernel
theorem dX2_allows_15 : decode cX2_allows 15 = .ok (.if_icmp .lt 27, 3) := by decide +kernel
theorem dX2_allows_18 : decode cX2_allows 18 = .ok (.aload_n 0, 1) := by decide +kernel
theorem dX2_allows_19 : decode cX2_allows 19 = .ok (.getfield 27, 3) := by decide +kernel
theorem dX2_allows_22 : decode cX2_allows 22 = .ok (.getfield 40, 3) := by decide +kernel
theorem dX2_allows_25 : decode cX2_allows 25 = .ok (.iconst 1, 1) := by decide +kernel
theorem dX2_allows_26 : decode cX2_allows 26 = .ok (.iadd, 1) := by decide +kernel
theorem dX2_allows_27 : decode cX2_allows 27 = .ok (.iload_n 1, 1) := by decide +kernel
theorem dX2_allows_28 : decode cX2_allows 28 = .ok (.isub, 1) := by decide +kernel
theorem dX2_allows_29 : decode cX2_allows 29 = .ok (.iconst 2, 1) := by decide +kernel
theorem dX2_allows_30 : decode cX2_allows 30 = .ok (.iload_n 2, 1) := by decide +kernel
theorem dX2_allows_31 : decode cX2_allows 31 = .ok (.imul, 1) := by decide +kernel
theorem dX2_allows_32 : decode cX2_allows 32 = .ok (.isub, 1) := by decide +kernel
theorem dX2_allows_33 : decode cX2_allows 33 = .ok (.ifCond .le 7, 3) := by decide +kernel
theorem dX2_allows_36 : decode cX2_allows 36 = .ok (.iconst 1, 1) := by decide +kernel
theorem dX2_allows_37 : decode cX2_allows 37 = .ok (.goto 4, 3) := by decide +kernel
theorem dX2_allows_40 : decode cX2_allows 40 = .ok (.iconst 0, 1) := by decide +kernel
theorem dX2_allows_41 : decode cX2_allows 41 = .ok (.ireturn, 1) := by decide +kernel
theorem dX2_allows_42 : decode cX2_allows 42 = .ok (.aload_n 0, 1) := by decide +kernel
theorem dX2_allows_43 : decode cX2_allows 43 = .ok (.getfield 16, 3) := by decide +kernel
theorem dX2_allows_46 : decode cX2_allows 46 = .ok (.iconst 0, 1) := by decide +kernel
theorem dX2_allows_47 : decode cX2_allows 47 = .ok (.iload_n 1, 1) := by decide +kernel
theorem dX2_allows_48 : decode cX2_allows 48 = .ok (.iastore, 1) := by decide +kernel
theorem dX2_allows_49 : decode cX2_allows 49 = .ok (.aload_n 0, 1) := by decide +kernel
theorem dX2_allows_50 : decode cX2_allows 50 = .ok (.getfield 16, 3) := by decide +kernel
theorem dX2_allows_53 : decode cX2_allows 53 = .ok (.iconst 1, 1) := by decide +kernel
theorem dX2_allows_54 : decode cX2_allows 54 = .ok (.iload_n 2, 1) := by decide +kernel
theorem dX2_allows_55 : decode cX2_allows 55 = .ok (.iastore, 1) := by decide +kernel
theorem dX2_allows_56 : decode cX2_allows 56 = .ok (.aload_n 0, 1) := by decide +kernel
theorem dX2_allows_57 : decode cX2_allows 57 = .ok (.getfield 16, 3) := by decide +kernel
theorem dX2_allows_60 : decode cX2_allows 60 = .ok (.iconst 2, 1) := by decide +kernel
theorem dX2_allows_61 : decode cX2_allows 61 = .ok (.iload_n 3, 1) := by decide +kernel
theorem dX2_allows_62 : decode cX2_allows 62 = .ok (.iastore, 1) := by decide +kernel
theorem dX2_allows_63 : decode cX2_allows 63 = .ok (.aload_n 0, 1) := by decide +kernel
theorem dX2_allows_64 : decode cX2_allows 64 = .ok (.getfield 16, 3) := by decide +kernel
theorem dX2_allows_67 : decode cX2_allows 67 = .ok (.iconst 3, 1) := by decide +kernel
theorem dX2_allows_68 : decode cX2_allows 68 = .ok (.aload_n 0, 1) := by decide +kernel
theorem dX2_allows_69 : decode cX2_allows 69 = .ok (.getfield 27, 3) := by decide +kernel
theorem dX2_allows_72 : decode cX2_allows 72 = .ok (.getfield 40, 3) := by decide +kernel
theorem dX2_allows_75 : decode cX2_allows 75 = .ok (.iastore, 1) := by decide +kernel
theorem dX2_allows_76 : decode cX2_allows 76 = .ok (.aload_n 0, 1) := by decide +kernel
theorem dX2_allows_77 : decode cX2_allows 77 = .ok (.getfield 16, 3) := by decide +kernel
theorem dX2_allows_80 : decode cX2_allows 80 = .ok (.iconst 4, 1) := by decide +kernel
theorem dX2_allows_81 : decode cX2_allows 81 = .ok (.iload 4, 2) := by decide +kernel
theorem dX2_allows_83 : decode cX2_allows 83 = .ok (.iastore, 1) := by decide +kernel
theorem dX2_allows_84 : decode cX2_allows 84 = .ok (.aload_n 0, 1) := by decide +kernel
theorem dX2_allows_85 : decode cX2_allows 85 = .ok (.getfield 16, 3) := by decide +kernel
theorem dX2_allows_88 : decode cX2_allows 88 = .ok (.iconst 5, 1) := by decide +kernel
theorem dX2_allows_89 : decode cX2_allows 89 = .ok (.iload 5, 2) := by decide +kernel
theorem dX2_allows_91 : decode cX2_allows 91 = .ok (.iastore, 1) := by decide +kernel
theorem dX2_allows_92 : decode cX2_allows 92 = .ok (.aload_n 0, 1) := by decide +kernel
theorem dX2_allows_93 : decode cX2_allows 93 = .ok (.aload_n 0, 1) := by decide +kernel
theorem dX2_allows_94 : decode cX2_allows 94 = .ok (.getfield 11, 3) := by decide +kernel
theorem dX2_allows_97 : decode cX2_allows 97 = .ok (.aload_n 0, 1) := by decide +kernel
theorem dX2_allows_98 : decode cX2_allows 98 = .ok (.getfield 23, 3) := by decide +kernel
theorem dX2_allows_101 : decode cX2_allows 101 = .ok (.aaload, 1) := by decide +kernel
theorem dX2_allows_102 : decode cX2_allows 102 = .ok (.invokevirtual 45, 3) := by decide +kernel
theorem dX2_allows_105 : decode cX2_allows 105 = .ok (.ifCond .le 7, 3) := by decide +kernel
theorem dX2_allows_108 : decode cX2_allows 108 = .ok (.iconst 1, 1) := by decide +kernel
theorem dX2_allows_109 : decode cX2_allows 109 = .ok (.goto 4, 3) := by decide +kernel
theorem dX2_allows_112 : decode cX2_allows 112 = .ok (.iconst 0, 1) := by decide +kernel
theorem dX2_allows_113 : decode cX2_allows 113 = .ok (.ireturn, 1) := by decide +kernel
theorem dX2_worth_0 : decode cX2_worth 0 = .ok (.iconst 0, 1) := by decide +kernel
theorem dX2_worth_1 : decode cX2_worth 1 = .ok (.istore_n 2, 1) := by decide +kernel
theorem dX2_worth_2 : decode cX2_worth 2 = .ok (.iconst 0, 1) := by decide +kernel
theorem dX2_worth_3 : decode cX2_worth 3 = .ok (.istore_n 3, 1) := by decide +kernel
theorem dX2_worth_4 : decode cX2_worth 4 = .ok (.iload_n 3, 1) := by decide +kernel
theorem dX2_worth_5 : decode cX2_worth 5 = .ok (.aload_n 1, 1) := by decide +kernel
theorem dX2_worth_6 : decode cX2_worth 6 = .ok (.arraylength, 1) := by decide +kernel
theorem dX2_worth_7 : decode cX2_worth 7 = .ok (.if_icmp .ge 197, 3) := by decide +kernel
theorem dX2_worth_10 : decode cX2_worth 10 = .ok (.aload_n 1, 1) := by decide +kernel
theorem dX2_worth_11 : decode cX2_worth 11 = .ok (.iload_n 3, 1) := by decide +kernel
theorem dX2_worth_12 : decode cX2_worth 12 = .ok (.iaload, 1) := by decide +kernel
theorem dX2_worth_13 : decode cX2_worth 13 = .ok (.istore 4, 2) := by decide +kernel
theorem dX2_worth_15 : decode cX2_worth 15 = .ok (.iload 4, 2) := by decide +kernel
theorem dX2_worth_17 : decode cX2_worth 17 = .ok (.sipush 10010, 3) := by decide +kernel
theorem dX2_worth_20 : decode cX2_worth 20 = .ok (.if_icmp .ge 29, 3) := by decide +kernel
theorem dX2_worth_23 : decode cX2_worth 23 = .ok (.iload_n 2, 1) := by decide +kernel
theorem dX2_worth_24 : decode cX2_worth 24 = .ok (.bipush 64, 2) := by decide +kernel
theorem dX2_worth_26 : decode cX2_worth 26 = .ok (.if_icmp .lt 5, 3) := by decide +kernel
theorem dX2_worth_29 : decode cX2_worth 29 = .ok (.iconst 0, 1) := by decide +kernel
theorem dX2_worth_30 : decode cX2_worth 30 = .ok (.ireturn, 1) := by decide +kernel
theorem dX2_worth_31 : decode cX2_worth 31 = .ok (.aload_n 0, 1) := by decide +kernel
theorem dX2_worth_32 : decode cX2_worth 32 = .ok (.getfield 20, 3) := by decide +kernel
theorem dX2_worth_35 : decode cX2_worth 35 = .ok (.iload_n 2, 1) := by decide +kernel
theorem dX2_worth_36 : decode cX2_worth 36 = .ok (.aload_n 0, 1) := by decide +kernel
theorem dX2_worth_37 : decode cX2_worth 37 = .ok (.iload 4, 2) := by decide +kernel
theorem dX2_worth_39 : decode cX2_worth 39 = .ok (.invokevirtual 49, 3) := by decide +kernel
theorem dX2_worth_42 : decode cX2_worth 42 = .ok (.iastore, 1) := by decide +kernel
theorem dX2_worth_43 : decode cX2_worth 43 = .ok (.iinc 2 1, 3) := by decide +kernel
theorem dX2_worth_46 : decode cX2_worth 46 = .ok (.goto 152, 3) := by decide +kernel
theorem dX2_worth_49 : decode cX2_worth 49 = .ok (.iload 4, 2) := by decide +kernel
theorem dX2_worth_51 : decode cX2_worth 51 = .ok (.sipush 10019, 3) := by decide +kernel
theorem dX2_worth_54 : decode cX2_worth 54 = .ok (.if_icmp .ge 62, 3) := by decide +kernel
theorem dX2_worth_57 : decode cX2_worth 57 = .ok (.iload_n 2, 1) := by decide +kernel
theorem dX2_worth_58 : decode cX2_worth 58 = .ok (.iconst 2, 1) := by decide +kernel
theorem dX2_worth_59 : decode cX2_worth 59 = .ok (.if_icmp .ge 5, 3) := by decide +kernel
theorem dX2_worth_62 : decode cX2_worth 62 = .ok (.iconst 0, 1) := by decide +kernel
theorem dX2_worth_63 : decode cX2_worth 63 = .ok (.ireturn, 1) := by decide +kernel
theorem dX2_worth_64 : decode cX2_worth 64 = .ok (.iinc 2 (-1), 3) := by decide +kernel
theorem dX2_worth_67 : decode cX2_worth 67 = .ok (.iload 4, 2) := by decide +kernel
theorem dX2_worth_69 : decode cX2_worth 69 = .ok (.aload_n 0, 1) := by decide +kernel
theorem dX2_worth_70 : decode cX2_worth 70 = .ok (.getfield 20, 3) := by decide +kernel
theorem dX2_worth_73 : decode cX2_worth 73 = .ok (.iload_n 2, 1) := by decide +kernel
theorem dX2_worth_74 : decode cX2_worth 74 = .ok (.iconst 1, 1) := by decide +kernel
theorem dX2_worth_75 : decode cX2_worth 75 = .ok (.isub, 1) := by decide +kernel
theorem dX2_worth_76 : decode cX2_worth 76 = .ok (.iaload, 1) := by decide +kernel
theorem dX2_worth_77 : decode cX2_worth 77 = .ok (.i2l, 1) := by decide +kernel
theorem dX2_worth_78 : decode cX2_worth 78 = .ok (.aload_n 0, 1) := by decide +kernel
theorem dX2_worth_79 : decode cX2_worth 79 = .ok (.getfield 20, 3) := by decide +kernel
theorem dX2_worth_82 : decode cX2_worth 82 = .ok (.iload_n 2, 1) := by decide +kernel
theorem dX2_worth_83 : decode cX2_worth 83 = .ok (.iaload, 1) := by decide +kernel
theorem dX2_worth_84 : decode cX2_worth 84 = .ok (.i2l, 1) := by decide +kernel
theorem dX2_worth_85 : decode cX2_worth 85 = .ok (.invokestatic 53, 3) := by decide +kernel
theorem dX2_worth_88 : decode cX2_worth 88 = .ok (.lstore 5, 2) := by decide +kernel
theorem dX2_worth_90 : decode cX2_worth 90 = .ok (.aload_n 0, 1) := by decide +kernel
theorem dX2_worth_91 : decode cX2_worth 91 = .ok (.getfield 20, 3) := by decide +kernel
theorem dX2_worth_94 : decode cX2_worth 94 = .ok (.iload_n 2, 1) := by decide +kernel
theorem dX2_worth_95 : decode cX2_worth 95 = .ok (.iconst 1, 1) := by decide +kernel
theorem dX2_worth_96 : decode cX2_worth 96 = .ok (.isub, 1) := by decide +kernel
theorem dX2_worth_97 : decode cX2_worth 97 = .ok (.ldc2_w 57, 3) := by decide +kernel
theorem dX2_worth_100 : decode cX2_worth 100 = .ok (.ldc2_w 59, 3) := by decide +kernel
theorem dX2_worth_103 : decode cX2_worth 103 = .ok (.lload 5, 2) := by decide +kernel
theorem dX2_worth_105 : decode cX2_worth 105 = .ok (.invokestatic 61, 3) := by decide +kernel
theorem dX2_worth_108 : decode cX2_worth 108 = .ok (.invokestatic 67, 3) := by decide +kernel
theorem dX2_worth_111 : decode cX2_worth 111 = .ok (.l2i, 1) := by decide +kernel
theorem dX2_worth_112 : decode cX2_worth 112 = .ok (.iastore, 1) := by decide +kernel
theorem dX2_worth_113 : decode cX2_worth 113 = .ok (.goto 85, 3) := by decide +kernel
theorem dX2_worth_116 : decode cX2_worth 116 = .ok (.iload_n 2, 1) := by decide +kernel
theorem dX2_worth_117 : decode cX2_worth 117 = .ok (.iconst 1, 1) := by decide +kernel
theorem dX2_worth_118 : decode cX2_worth 118 = .ok (.if_icmp .ge 5, 3) := by decide +kernel
theorem dX2_worth_121 : decode cX2_worth 121 = .ok (.iconst 0, 1) := by decide +kernel
theorem dX2_worth_122 : decode cX2_worth 122 = .ok (.ireturn, 1) := by decide +kernel
theorem dX2_worth_123 : decode cX2_worth 123 = .ok (.iload 4, 2) := by decide +kernel
theorem dX2_worth_125 : decode cX2_worth 125 = .ok (.sipush 10019, 3) := by decide +kernel
theorem dX2_worth_128 : decode cX2_worth 128 = .ok (.if_icmp .ne 24, 3) := by decide +kernel
theorem dX2_worth_131 : decode cX2_worth 131 = .ok (.aload_n 0, 1) := by decide +kernel
theorem dX2_worth_132 : decode cX2_worth 132 = .ok (.getfield 20, 3) := by decide +kernel
theorem dX2_worth_135 : decode cX2_worth 135 = .ok (.iload_n 2, 1) := by decide +kernel
theorem dX2_worth_136 : decode cX2_worth 136 = .ok (.iconst 1, 1) := by decide +kernel
theorem dX2_worth_137 : decode cX2_worth 137 = .ok (.isub, 1) := by decide +kernel
theorem dX2_worth_138 : decode cX2_worth 138 = .ok (.iconst 1, 1) := by decide +kernel
theorem dX2_worth_139 : decode cX2_worth 139 = .ok (.aload_n 0, 1) := by decide +kernel
theorem dX2_worth_140 : decode cX2_worth 140 = .ok (.getfield 20, 3) := by decide +kernel
theorem dX2_worth_143 : decode cX2_worth 143 = .ok (.iload_n 2, 1) := by decide +kernel
theorem dX2_worth_144 : decode cX2_worth 144 = .ok (.iconst 1, 1) := by decide +kernel
theorem dX2_worth_145 : decode cX2_worth 145 = .ok (.isub, 1) := by decide +kernel
theorem dX2_worth_146 : decode cX2_worth 146 = .ok (.iaload, 1) := by decide +kernel
theorem dX2_worth_147 : decode cX2_worth 147 = .ok (.isub, 1) := by decide +kernel
theorem dX2_worth_148 : decode cX2_worth 148 = .ok (.iastore, 1) := by decide +kernel
theorem dX2_worth_149 : decode cX2_worth 149 = .ok (.goto 49, 3) := by decide +kernel
theorem dX2_worth_152 : decode cX2_worth 152 = .ok (.iload 4, 2) := by decide +kernel
theorem dX2_worth_154 : decode cX2_worth 154 = .ok (.sipush 10020, 3) := by decide +kernel
theorem dX2_worth_157 : decode cX2_worth 157 = .ok (.if_icmp .ne 12, 3) := by decide +kernel
theorem dX2_worth_160 : decode cX2_worth 160 = .ok (.aload_n 0, 1) := by decide +kernel
theorem dX2_worth_161 : decode cX2_worth 161 = .ok (.getfield 20, 3) := by decide +kernel
theorem dX2_worth_164 : decode cX2_worth 164 = .ok (.iload_n 2, 1) := by decide +kernel
theorem dX2_worth_165 : decode cX2_worth 165 = .ok (.iconst 1, 1) := by decide +kernel
theorem dX2_worth_166 : decode cX2_worth 166 = .ok (.isub, 1) := by decide +kernel
theorem dX2_worth_167 : decode cX2_worth 167 = .ok (.iaload, 1) := by decide +kernel
theorem dX2_worth_168 : decode cX2_worth 168 = .ok (.ireturn, 1) := by decide +kernel
theorem dX2_worth_169 : decode cX2_worth 169 = .ok (.iinc 2 (-1), 3) := by decide +kernel
theorem dX2_worth_172 : decode cX2_worth 172 = .ok (.aload_n 0, 1) := by decide +kernel
theorem dX2_worth_173 : decode cX2_worth 173 = .ok (.getfield 20, 3) := by decide +kernel
theorem dX2_worth_176 : decode cX2_worth 176 = .ok (.iload_n 2, 1) := by decide +kernel
theorem dX2_worth_177 : decode cX2_worth 177 = .ok (.iaload, 1) := by decide +kernel
theorem dX2_worth_178 : decode cX2_worth 178 = .ok (.ifCond .ne 18, 3) := by decide +kernel
theorem dX2_worth_181 : decode cX2_worth 181 = .ok (.iload_n 3, 1) := by decide +kernel
theorem dX2_worth_182 : decode cX2_worth 182 = .ok (.iload 4, 2) := by decide +kernel
theorem dX2_worth_184 : decode cX2_worth 184 = .ok (.sipush 20000, 3) := by decide +kernel
theorem dX2_worth_187 : decode cX2_worth 187 = .ok (.isub, 1) := by decide +kernel
theorem dX2_worth_188 : decode cX2_worth 188 = .ok (.iconst 1, 1) := by decide +kernel
theorem dX2_worth_189 : decode cX2_worth 189 = .ok (.isub, 1) := by decide +kernel
theorem dX2_worth_190 : decode cX2_worth 190 = .ok (.invokestatic 70, 3) := by decide +kernel
theorem dX2_worth_193 : decode cX2_worth 193 = .ok (.goto 4, 3) := by decide +kernel
theorem dX2_worth_196 : decode cX2_worth 196 = .ok (.iload_n 3, 1) := by decide +kernel
theorem dX2_worth_197 : decode cX2_worth 197 = .ok (.istore_n 3, 1) := by decide +kernel
theorem dX2_worth_198 : decode cX2_worth 198 = .ok (.iinc 3 1, 3) := by decide +kernel
theorem dX2_worth_201 : decode cX2_worth 201 = .ok (.goto (-197), 3) := by decide +kernel
theorem dX2_worth_204 : decode cX2_worth 204 = .ok (.iconst 0, 1) := by decide +kernel
theorem dX2_worth_205 : decode cX2_worth 205 = .ok (.ireturn, 1) := by decide +kernel
theorem dX2_valueOf_0 : decode cX2_valueOf 0 = .ok (.iload_n 1, 1) := by decide +kernel
theorem dX2_valueOf_1 : decode cX2_valueOf 1 = .ok (.sipush 10000, 3) := by decide +kernel
theorem dX2_valueOf_4 : decode cX2_valueOf 4 = .ok (.isub, 1) := by decide +kernel
theorem dX2_valueOf_5 : decode cX2_valueOf 5 = .ok (.istore_n 2, 1) := by decide +kernel
theorem dX2_valueOf_6 : decode cX2_valueOf 6 = .ok (.iload_n 2, 1) := by decide +kernel
theorem dX2_valueOf_7 : decode cX2_valueOf 7 = .ok (.ifCond .lt 18, 3) := by decide +kernel
theorem dX2_valueOf_10 : decode cX2_valueOf 10 = .ok (.iload_n 2, 1) := by decide +kernel
theorem dX2_valueOf_11 : decode cX2_valueOf 11 = .ok (.bipush 6, 2) := by decide +kernel
theorem dX2_valueOf_13 : decode cX2_valueOf 13 = .ok (.if_icmp .ge 12, 3) := by decide +kernel
theorem dX2_valueOf_16 : decode cX2_valueOf 16 = .ok (.aload_n 0, 1) := by decide +kernel
theorem dX2_valueOf_17 : decode cX2_valueOf 17 = .ok (.getfield 16, 3) := by decide +kernel
theorem dX2_valueOf_20 : decode cX2_valueOf 20 = .ok (.iload_n 2, 1) := by decide +kernel
theorem dX2_valueOf_21 : decode cX2_valueOf 21 = .ok (.iaload, 1) := by decide +kernel
theorem dX2_valueOf_22 : decode cX2_valueOf 22 = .ok (.goto 4, 3) := by decide +kernel
theorem dX2_valueOf_25 : decode cX2_valueOf 25 = .ok (.iload_n 1, 1) := by decide +kernel
theorem dX2_valueOf_26 : decode cX2_valueOf 26 = .ok (.ireturn, 1) := by decide +kernel
theorem dX2_reckon_0 : decode cX2_reckon 0 = .ok (.iload_n 0, 1) := by decide +kernel
theorem dX2_reckon_1 : decode cX2_reckon 1 = .ok (.tableswitch 113 10010 10017 #[47, 51, 55, 59, 73, 85, 97, 109], 47) := by decide +kernel
theorem dX2_reckon_48 : decode cX2_reckon 48 = .ok (.lload_n 1, 1) := by decide +kernel
theorem dX2_reckon_49 : decode cX2_reckon 49 = .ok (.lload_n 3, 1) := by decide +kernel
theorem dX2_reckon_50 : decode cX2_reckon 50 = .ok (.ladd, 1) := by decide +kernel
theorem dX2_reckon_51 : decode cX2_reckon 51 = .ok (.lreturn, 1) := by decide +kernel
theorem dX2_reckon_52 : decode cX2_reckon 52 = .ok (.lload_n 1, 1) := by decide +kernel
theorem dX2_reckon_53 : decode cX2_reckon 53 = .ok (.lload_n 3, 1) := by decide +kernel
theorem dX2_reckon_54 : decode cX2_reckon 54 = .ok (.lsub, 1) := by decide +kernel
theorem dX2_reckon_55 : decode cX2_reckon 55 = .ok (.lreturn, 1) := by decide +kernel
theorem dX2_reckon_56 : decode cX2_reckon 56 = .ok (.lload_n 1, 1) := by decide +kernel
theorem dX2_reckon_57 : decode cX2_reckon 57 = .ok (.lload_n 3, 1) := by decide +kernel
theorem dX2_reckon_58 : decode cX2_reckon 58 = .ok (.lmul, 1) := by decide +kernel
theorem dX2_reckon_59 : decode cX2_reckon 59 = .ok (.lreturn, 1) := by decide +kernel
theorem dX2_reckon_60 : decode cX2_reckon 60 = .ok (.lload_n 3, 1) := by decide +kernel
theorem dX2_reckon_61 : decode cX2_reckon 61 = .ok (.lconst 0, 1) := by decide +kernel
theorem dX2_reckon_62 : decode cX2_reckon 62 = .ok (.lcmp, 1) := by decide +kernel
theorem dX2_reckon_63 : decode cX2_reckon 63 = .ok (.ifCond .ne 7, 3) := by decide +kernel
theorem dX2_reckon_66 : decode cX2_reckon 66 = .ok (.lconst 0, 1) := by decide +kernel
theorem dX2_reckon_67 : decode cX2_reckon 67 = .ok (.goto 6, 3) := by decide +kernel
theorem dX2_reckon_70 : decode cX2_reckon 70 = .ok (.lload_n 1, 1) := by decide +kernel
theorem dX2_reckon_71 : decode cX2_reckon 71 = .ok (.lload_n 3, 1) := by decide +kernel
theorem dX2_reckon_72 : decode cX2_reckon 72 = .ok (.ldiv, 1) := by decide +kernel
theorem dX2_reckon_73 : decode cX2_reckon 73 = .ok (.lreturn, 1) := by decide +kernel
theorem dX2_reckon_74 : decode cX2_reckon 74 = .ok (.lload_n 1, 1) := by decide +kernel
theorem dX2_reckon_75 : decode cX2_reckon 75 = .ok (.lload_n 3, 1) := by decide +kernel
theorem dX2_reckon_76 : decode cX2_reckon 76 = .ok (.lcmp, 1) := by decide +kernel
theorem dX2_reckon_77 : decode cX2_reckon 77 = .ok (.ifCond .ne 7, 3) := by decide +kernel
theorem dX2_reckon_80 : decode cX2_reckon 80 = .ok (.lconst 1, 1) := by decide +kernel
theorem dX2_reckon_81 : decode cX2_reckon 81 = .ok (.goto 4, 3) := by decide +kernel
theorem dX2_reckon_84 : decode cX2_reckon 84 = .ok (.lconst 0, 1) := by decide +kernel
theorem dX2_reckon_85 : decode cX2_reckon 85 = .ok (.lreturn, 1) := by decide +kernel
theorem dX2_reckon_86 : decode cX2_reckon 86 = .ok (.lload_n 1, 1) := by decide +kernel
theorem dX2_reckon_87 : decode cX2_reckon 87 = .ok (.lload_n 3, 1) := by decide +kernel
theorem dX2_reckon_88 : decode cX2_reckon 88 = .ok (.lcmp, 1) := by decide +kernel
theorem dX2_reckon_89 : decode cX2_reckon 89 = .ok (.ifCond .ge 7, 3) := by decide +kernel
theorem dX2_reckon_92 : decode cX2_reckon 92 = .ok (.lconst 1, 1) := by decide +kernel
theorem dX2_reckon_93 : decode cX2_reckon 93 = .ok (.goto 4, 3) := by decide +kernel
theorem dX2_reckon_96 : decode cX2_reckon 96 = .ok (.lconst 0, 1) := by decide +kernel
theorem dX2_reckon_97 : decode cX2_reckon 97 = .ok (.lreturn, 1) := by decide +kernel
theorem dX2_reckon_98 : decode cX2_reckon 98 = .ok (.lload_n 1, 1) := by decide +kernel
theorem dX2_reckon_99 : decode cX2_reckon 99 = .ok (.lload_n 3, 1) := by decide +kernel
theorem dX2_reckon_100 : decode cX2_reckon 100 = .ok (.lcmp, 1) := by decide +kernel
theorem dX2_reckon_101 : decode cX2_reckon 101 = .ok (.ifCond .le 7, 3) := by decide +kernel
theorem dX2_reckon_104 : decode cX2_reckon 104 = .ok (.lconst 1, 1) := by decide +kernel
theorem dX2_reckon_105 : decode cX2_reckon 105 = .ok (.goto 4, 3) := by decide +kernel
theorem dX2_reckon_108 : decode cX2_reckon 108 = .ok (.lconst 0, 1) := by decide +kernel
theorem dX2_reckon_109 : decode cX2_reckon 109 = .ok (.lreturn, 1) := by decide +kernel
theorem dX2_reckon_110 : decode cX2_reckon 110 = .ok (.lload_n 1, 1) := by decide +kernel
theorem dX2_reckon_111 : decode cX2_reckon 111 = .ok (.lload_n 3, 1) := by decide +kernel
theorem dX2_reckon_112 : decode cX2_reckon 112 = .ok (.land, 1) := by decide +kernel
theorem dX2_reckon_113 : decode cX2_reckon 113 = .ok (.lreturn, 1) := by decide +kernel
theorem dX2_reckon_114 : decode cX2_reckon 114 = .ok (.lload_n 1, 1) := by decide +kernel
theorem dX2_reckon_115 : decode cX2_reckon 115 = .ok (.lload_n 3, 1) := by decide +kernel
theorem dX2_reckon_116 : decode cX2_reckon 116 = .ok (.lor, 1) := by decide +kernel
theorem dX2_reckon_117 : decode cX2_reckon 117 = .ok (.lreturn, 1) := by decide +kernel
theorem dX3_init_0 : decode cX3_init 0 = .ok (.aload_n 0, 1) := by decide +kernel
theorem dX3_init_1 : decode cX3_init 1 = .ok (.invokespecial 3, 3) := by decide +kernel
theorem dX3_init_4 : decode cX3_init 4 = .ok (.aload_n 0, 1) := by decide +kernel
theorem dX3_init_5 : decode cX3_init 5 = .ok (.sipush 240, 3) := by decide +kernel
theorem dX3_init_8 : decode cX3_init 8 = .ok (.newarray .int, 2) := by decide +kernel
theorem dX3_init_10 : decode cX3_init 10 = .ok (.putfield 9, 3) := by decide +kernel
theorem dX3_init_13 : decode cX3_init 13 = .ok (.aload_n 0, 1) := by decide +kernel
theorem dX3_init_14 : decode cX3_init 14 = .ok (.aload_n 1, 1) := by decide +kernel
theorem dX3_init_15 : decode cX3_init 15 = .ok (.putfield 15, 3) := by decide +kernel
theorem dX3_init_18 : decode cX3_init 18 = .ok (.return_, 1) := by decide +kernel
theorem dX3_read_0 : decode cX3_read 0 = .ok (.aload_n 0, 1) := by decide +kernel
theorem dX3_read_1 : decode cX3_read 1 = .ok (.iconst 0, 1) := by decide +kernel
theorem dX3_read_2 : decode cX3_read 2 = .ok (.putfield 19, 3) := by decide +kernel
theorem dX3_read_5 : decode cX3_read 5 = .ok (.aload_n 0, 1) := by decide +kernel
theorem dX3_read_6 : decode cX3_read 6 = .ok (.getfield 15, 3) := by decide +kernel
theorem dX3_read_9 : decode cX3_read 9 = .ok (.iconst 0, 1) := by decide +kernel
theorem dX3_read_10 : decode cX3_read 10 = .ok (.putfield 23, 3) := by decide +kernel
theorem dX3_read_13 : decode cX3_read 13 = .ok (.iconst 0, 1) := by decide +kernel
theorem dX3_read_14 : decode cX3_read 14 = .ok (.istore_n 1, 1) := by decide +kernel
theorem dX3_read_15 : decode cX3_read 15 = .ok (.iload_n 1, 1) := by decide +kernel
theorem dX3_read_16 : decode cX3_read 16 = .ok (.sipush 240, 3) := by decide +kernel
theorem dX3_read_19 : decode cX3_read 19 = .ok (.if_icmp .gt 57, 3) := by decide +kernel
theorem dX3_read_22 : decode cX3_read 22 = .ok (.aload_n 0, 1) := by decide +kernel
theorem dX3_read_23 : decode cX3_read 23 = .ok (.invokevirtual 28, 3) := by decide +kernel
theorem dX3_read_26 : decode cX3_read 26 = .ok (.ifCond .ne 11, 3) := by decide +kernel
theorem dX3_read_29 : decode cX3_read 29 = .ok (.aload_n 0, 1) := by decide +kernel
theorem dX3_read_30 : decode cX3_read 30 = .ok (.getfield 15, 3) := by decide +kernel
theorem dX3_read_33 : decode cX3_read 33 = .ok (.getfield 23, 3) := by decide +kernel
theorem dX3_read_36 : decode cX3_read 36 = .ok (.ireturn, 1) := by decide +kernel
theorem dX3_read_37 : decode cX3_read 37 = .ok (.aload_n 0, 1) := by decide +kernel
theorem dX3_read_38 : decode cX3_read 38 = .ok (.getfield 15, 3) := by decide +kernel
theorem dX3_read_41 : decode cX3_read 41 = .ok (.invokevirtual 32, 3) := by decide +kernel
theorem dX3_read_44 : decode cX3_read 44 = .ok (.iconst (-1), 1) := by decide +kernel
theorem dX3_read_45 : decode cX3_read 45 = .ok (.if_icmp .ne 5, 3) := by decide +kernel
theorem dX3_read_48 : decode cX3_read 48 = .ok (.iconst (-1), 1) := by decide +kernel
theorem dX3_read_49 : decode cX3_read 49 = .ok (.ireturn, 1) := by decide +kernel
theorem dX3_read_50 : decode cX3_read 50 = .ok (.aload_n 0, 1) := by decide +kernel
theorem dX3_read_51 : decode cX3_read 51 = .ok (.getfield 15, 3) := by decide +kernel
theorem dX3_read_54 : decode cX3_read 54 = .ok (.bipush 59, 2) := by decide +kernel
theorem dX3_read_56 : decode cX3_read 56 = .ok (.invokevirtual 36, 3) := by decide +kernel
theorem dX3_read_59 : decode cX3_read 59 = .ok (.ifCond .ne 11, 3) := by decide +kernel
theorem dX3_read_62 : decode cX3_read 62 = .ok (.aload_n 0, 1) := by decide +kernel
theorem dX3_read_63 : decode cX3_read 63 = .ok (.getfield 15, 3) := by decide +kernel
theorem dX3_read_66 : decode cX3_read 66 = .ok (.getfield 23, 3) := by decide +kernel
theorem dX3_read_69 : decode cX3_read 69 = .ok (.ireturn, 1) := by decide +kernel
theorem dX3_read_70 : decode cX3_read 70 = .ok (.iinc 1 1, 3) := by decide +kernel
theorem dX3_read_73 : decode cX3_read 73 = .ok (.goto (-58), 3) := by decide +kernel
theorem dX3_read_76 : decode cX3_read 76 = .ok (.aload_n 0, 1) := by decide +kernel
theorem dX3_read_77 : decode cX3_read 77 = .ok (.getfield 15, 3) := by decide +kernel
theorem dX3_read_80 : decode cX3_read 80 = .ok (.getfield 23, 3) := by decide +kernel
theorem dX3_read_83 : decode cX3_read 83 = .ok (.ireturn, 1) := by decide +kernel
theorem dX3_write_0 : decode cX3_write 0 = .ok (.aload_n 0, 1) := by decide +kernel
theorem dX3_write_1 : decode cX3_write 1 = .ok (.getfield 19, 3) := by decide +kernel
theorem dX3_write_4 : decode cX3_write 4 = .ok (.aload_n 0, 1) := by decide +kernel
theorem dX3_write_5 : decode cX3_write 5 = .ok (.getfield 9, 3) := by decide +kernel
theorem dX3_write_8 : decode cX3_write 8 = .ok (.arraylength, 1) := by decide +kernel
theorem dX3_write_9 : decode cX3_write 9 = .ok (.if_icmp .ge 23, 3) := by decide +kernel
theorem dX3_write_12 : decode cX3_write 12 = .ok (.aload_n 0, 1) := by decide +kernel
theorem dX3_write_13 : decode cX3_write 13 = .ok (.getfield 9, 3) := by decide +kernel
theorem dX3_write_16 : decode cX3_write 16 = .ok (.aload_n 0, 1) := by decide +kernel
theorem dX3_write_17 : decode cX3_write 17 = .ok (.getfield 19, 3) := by decide +kernel
theorem dX3_write_20 : decode cX3_write 20 = .ok (.iload_n 1, 1) := by decide +kernel
theorem dX3_write_21 : decode cX3_write 21 = .ok (.iastore, 1) := by decide +kernel
theorem dX3_write_22 : decode cX3_write 22 = .ok (.aload_n 0, 1) := by decide +kernel
theorem dX3_write_23 : decode cX3_write 23 = .ok (.dup, 1) := by decide +kernel
theorem dX3_write_24 : decode cX3_write 24 = .ok (.getfield 19, 3) := by decide +kernel
theorem dX3_write_27 : decode cX3_write 27 = .ok (.iconst 1, 1) := by decide +kernel
theorem dX3_write_28 : decode cX3_write 28 = .ok (.iadd, 1) := by decide +kernel
theorem dX3_write_29 : decode cX3_write 29 = .ok (.putfield 19, 3) := by decide +kernel
theorem dX3_write_32 : decode cX3_write 32 = .ok (.return_, 1) := by decide +kernel
theorem dX3_readClause_0 : decode cX3_readClause 0 = .ok (.aload_n 0, 1) := by decide +kernel
theorem dX3_readClause_1 : decode cX3_readClause 1 = .ok (.getfield 15, 3) := by decide +kernel
theorem dX3_readClause_4 : decode cX3_readClause 4 = .ok (.bipush 121, 2) := by decide +kernel
theorem dX3_readClause_6 : decode cX3_readClause 6 = .ok (.invokevirtual 36, 3) := by decide +kernel
theorem dX3_readClause_9 : decode cX3_readClause 9 = .ok (.ifCond .eq 15, 3) := by decide +kernel
theorem dX3_readClause_12 : decode cX3_readClause 12 = .ok (.aload_n 0, 1) := by decide +kernel
theorem dX3_readClause_13 : decode cX3_readClause 13 = .ok (.getfield 15, 3) := by decide +kernel
theorem dX3_readClause_16 : decode cX3_readClause 16 = .ok (.bipush 58, 2) := by decide +kernel
theorem dX3_readClause_18 : decode cX3_readClause 18 = .ok (.invokevirtual 36, 3) := by decide +kernel
theorem dX3_readClause_21 : decode cX3_readClause 21 = .ok (.ifCond .ne 5, 3) := by decide +kernel
theorem dX3_readClause_24 : decode cX3_readClause 24 = .ok (.iconst 0, 1) := by decide +kernel
theorem dX3_readClause_25 : decode cX3_readClause 25 = .ok (.ireturn, 1) := by decide +kernel
theorem dX3_readClause_26 : decode cX3_readClause 26 = .ok (.aload_n 0, 1) := by decide +kernel
theorem dX3_readClause_27 : decode cX3_readClause 27 = .ok (.getfield 15, 3) := by decide +kernel
theorem dX3_readClause_30 : decode cX3_readClause 30 = .ok (.invokevirtual 32, 3) := by decide +kernel
theorem dX3_readClause_33 : decode cX3_readClause 33 = .ok (.istore_n 1, 1) := by decide +kernel
theorem dX3_readClause_34 : decode cX3_readClause 34 = .ok (.iload_n 1, 1) := by decide +kernel
theorem dX3_readClause_35 : decode cX3_readClause 35 = .ok (.bipush 33, 2) := by decide +kernel
theorem dX3_readClause_37 : decode cX3_readClause 37 = .ok (.if_icmp .eq 13, 3) := by decide +kernel
theorem dX3_readClause_40 : decode cX3_readClause 40 = .ok (.iload_n 1, 1) := by decide +kernel
theorem dX3_readClause_41 : decode cX3_readClause 41 = .ok (.bipush 40, 2) := by decide +kernel
theorem dX3_readClause_43 : decode cX3_readClause 43 = .ok (.if_icmp .eq 7, 3) := by decide +kernel
theorem dX3_readClause_46 : decode cX3_readClause 46 = .ok (.iconst 1, 1) := by decide +kernel
theorem dX3_readClause_47 : decode cX3_readClause 47 = .ok (.goto 4, 3) := by decide +kernel
theorem dX3_readClause_50 : decode cX3_readClause 50 = .ok (.iconst 0, 1) := by decide +kernel
theorem dX3_readClause_51 : decode cX3_readClause 51 = .ok (.istore_n 2, 1) := by decide +kernel
theorem dX3_readClause_52 : decode cX3_readClause 52 = .ok (.iload_n 2, 1) := by decide +kernel
theorem dX3_readClause_53 : decode cX3_readClause 53 = .ok (.ifCond .eq 13, 3) := by decide +kernel
theorem dX3_readClause_56 : decode cX3_readClause 56 = .ok (.aload_n 0, 1) := by decide +kernel
theorem dX3_readClause_57 : decode cX3_readClause 57 = .ok (.iconst 0, 1) := by decide +kernel
theorem dX3_readClause_58 : decode cX3_readClause 58 = .ok (.invokevirtual 40, 3) := by decide +kernel
theorem dX3_readClause_61 : decode cX3_readClause 61 = .ok (.ifCond .ne 5, 3) := by decide +kernel
theorem dX3_readClause_64 : decode cX3_readClause 64 = .ok (.iconst 0, 1) := by decide +kernel
theorem dX3_readClause_65 : decode cX3_readClause 65 = .ok (.ireturn, 1) := by decide +kernel
theorem dX3_readClause_66 : decode cX3_readClause 66 = .ok (.iload_n 2, 1) := by decide +kernel
theorem dX3_readClause_67 : decode cX3_readClause 67 = .ok (.ifCond .eq 16, 3) := by decide +kernel
theorem dX3_readClause_70 : decode cX3_readClause 70 = .ok (.aload_n 0, 1) := by decide +kernel
theorem dX3_readClause_71 : decode cX3_readClause 71 = .ok (.getfield 15, 3) := by decide +kernel
theorem dX3_readClause_74 : decode cX3_readClause 74 = .ok (.invokevirtual 32, 3) := by decide +kernel
theorem dX3_readClause_77 : decode cX3_readClause 77 = .ok (.invokestatic 43, 3) := by decide +kernel
theorem dX3_readClause_80 : decode cX3_readClause 80 = .ok (.ifCond .eq 9, 3) := by decide +kernel
theorem dX3_readClause_83 : decode cX3_readClause 83 = .ok (.aload_n 0, 1) := by decide +kernel
theorem dX3_readClause_84 : decode cX3_readClause 84 = .ok (.iload_n 2, 1) := by decide +kernel
theorem dX3_readClause_85 : decode cX3_readClause 85 = .ok (.invokevirtual 46, 3) := by decide +kernel
theorem dX3_readClause_88 : decode cX3_readClause 88 = .ok (.ireturn, 1) := by decide +kernel
theorem dX3_readClause_89 : decode cX3_readClause 89 = .ok (.aload_n 0, 1) := by decide +kernel
theorem dX3_readClause_90 : decode cX3_readClause 90 = .ok (.sipush 10020, 3) := by decide +kernel
theorem dX3_readClause_93 : decode cX3_readClause 93 = .ok (.invokevirtual 52, 3) := by decide +kernel
theorem dX3_readClause_96 : decode cX3_readClause 96 = .ok (.iconst 1, 1) := by decide +kernel
theorem dX3_readClause_97 : decode cX3_readClause 97 = .ok (.ireturn, 1) := by decide +kernel
theorem dX3_readConditioned_0 : decode cX3_readConditioned 0 = .ok (.aload_n 0, 1) := by decide +kernel
theorem dX3_readConditioned_1 : decode cX3_readConditioned 1 = .ok (.iconst 0, 1) := by decide +kernel
theorem dX3_readConditioned_2 : decode cX3_readConditioned 2 = .ok (.iload_n 1, 1) := by decide +kernel
theorem dX3_readConditioned_3 : decode cX3_readConditioned 3 = .ok (.invokevirtual 56, 3) := by decide +kernel
theorem dX3_readConditioned_6 : decode cX3_readConditioned 6 = .ok (.ifCond .eq 15, 3) := by decide +kernel
theorem dX3_readConditioned_9 : decode cX3_readConditioned 9 = .ok (.aload_n 0, 1) := by decide +kernel
theorem dX3_readConditioned_10 : decode cX3_readConditioned 10 = .ok (.getfield 15, 3) := by decide +kernel
theorem dX3_readConditioned_13 : decode cX3_readConditioned 13 = .ok (.bipush 63, 2) := by decide +kernel
theorem dX3_readConditioned_15 : decode cX3_readConditioned 15 = .ok (.invokevirtual 36, 3) := by decide +kernel
theorem dX3_readConditioned_18 : decode cX3_readConditioned 18 = .ok (.ifCond .ne 5, 3) := by decide +kernel
theorem dX3_readConditioned_21 : decode cX3_readConditioned 21 = .ok (.iconst 0, 1) := by decide +kernel
theorem dX3_readConditioned_22 : decode cX3_readConditioned 22 = .ok (.ireturn, 1) := by decide +kernel
theorem dX3_readConditioned_23 : decode cX3_readConditioned 23 = .ok (.aload_n 0, 1) := by decide +kernel
theorem dX3_readConditioned_24 : decode cX3_readConditioned 24 = .ok (.getfield 19, 3) := by decide +kernel
theorem dX3_readConditioned_27 : decode cX3_readConditioned 27 = .ok (.istore_n 2, 1) := by decide +kernel
theorem dX3_readConditioned_28 : decode cX3_readConditioned 28 = .ok (.aload_n 0, 1) := by decide +kernel
theorem dX3_readConditioned_29 : decode cX3_readConditioned 29 = .ok (.sipush 20000, 3) := by decide +kernel
theorem dX3_readConditioned_32 : decode cX3_readConditioned 32 = .ok (.invokevirtual 52, 3) := by decide +kernel
theorem dX3_readConditioned_35 : decode cX3_readConditioned 35 = .ok (.aload_n 0, 1) := by decide +kernel
theorem dX3_readConditioned_36 : decode cX3_readConditioned 36 = .ok (.iconst 0, 1) := by decide +kernel
theorem dX3_readConditioned_37 : decode cX3_readConditioned 37 = .ok (.invokevirtual 40, 3) := by decide +kernel
theorem dX3_readConditioned_40 : decode cX3_readConditioned 40 = .ok (.ifCond .ne 5, 3) := by decide +kernel
theorem dX3_readConditioned_43 : decode cX3_readConditioned 43 = .ok (.iconst 0, 1) := by decide +kernel
theorem dX3_readConditioned_44 : decode cX3_readConditioned 44 = .ok (.ireturn, 1) := by decide +kernel
theorem dX3_readConditioned_45 : decode cX3_readConditioned 45 = .ok (.aload_n 0, 1) := by decide +kernel
theorem dX3_readConditioned_46 : decode cX3_readConditioned 46 = .ok (.sipush 10020, 3) := by decide +kernel
theorem dX3_readConditioned_49 : decode cX3_readConditioned 49 = .ok (.invokevirtual 52, 3) := by decide +kernel
theorem dX3_readConditioned_52 : decode cX3_readConditioned 52 = .ok (.iload_n 2, 1) := by decide +kernel
theorem dX3_readConditioned_53 : decode cX3_readConditioned 53 = .ok (.aload_n 0, 1) := by decide +kernel
theorem dX3_readConditioned_54 : decode cX3_readConditioned 54 = .ok (.getfield 9, 3) := by decide +kernel
theorem dX3_readConditioned_57 : decode cX3_readConditioned 57 = .ok (.arraylength, 1) := by decide +kernel
theorem dX3_readConditioned_58 : decode cX3_readConditioned 58 = .ok (.if_icmp .ge 17, 3) := by decide +kernel
theorem dX3_readConditioned_61 : decode cX3_readConditioned 61 = .ok (.aload_n 0, 1) := by decide +kernel
theorem dX3_readConditioned_62 : decode cX3_readConditioned 62 = .ok (.getfield 9, 3) := by decide +kernel
theorem dX3_readConditioned_65 : decode cX3_readConditioned 65 = .ok (.iload_n 2, 1) := by decide +kernel
theorem dX3_readConditioned_66 : decode cX3_readConditioned 66 = .ok (.sipush 20000, 3) := by decide +kernel
theorem dX3_readConditioned_69 : decode cX3_readConditioned 69 = .ok (.aload_n 0, 1) := by decide +kernel
theorem dX3_readConditioned_70 : decode cX3_readConditioned 70 = .ok (.getfield 19, 3) := by decide +kernel
theorem dX3_readConditioned_73 : decode cX3_readConditioned 73 = .ok (.iadd, 1) := by decide +kernel
theorem dX3_readConditioned_74 : decode cX3_readConditioned 74 = .ok (.iastore, 1) := by decide +kernel
theorem dX3_readConditioned_75 : decode cX3_readConditioned 75 = .ok (.iconst 1, 1) := by decide +kernel
theorem dX3_readConditioned_76 : decode cX3_readConditioned 76 = .ok (.ireturn, 1) := by decide +kernel
theorem dX3_readCondition_0 : decode cX3_readCondition 0 = .ok (.aload_n 0, 1) := by decide +kernel
theorem dX3_readCondition_1 : decode cX3_readCondition 1 = .ok (.iload_n 1, 1) := by decide +kernel
theorem dX3_readCondition_2 : decode cX3_readCondition 2 = .ok (.iload_n 2, 1) := by decide +kernel
theorem dX3_readCondition_3 : decode cX3_readCondition 3 = .ok (.invokevirtual 60, 3) := by decide +kernel
theorem dX3_readCondition_6 : decode cX3_readCondition 6 = .ok (.ifCond .ne 5, 3) := by decide +kernel
theorem dX3_readCondition_9 : decode cX3_readCondition 9 = .ok (.iconst 0, 1) := by decide +kernel
theorem dX3_readCondition_10 : decode cX3_readCondition 10 = .ok (.ireturn, 1) := by decide +kernel
theorem dX3_readCondition_11 : decode cX3_readCondition 11 = .ok (.iconst 0, 1) := by decide +kernel
theorem dX3_readCondition_12 : decode cX3_readCondition 12 = .ok (.istore_n 3, 1) := by decide +kernel
theorem dX3_readCondition_13 : decode cX3_readCondition 13 = .ok (.iload_n 3, 1) := by decide +kernel
theorem dX3_readCondition_14 : decode cX3_readCondition 14 = .ok (.sipush 240, 3) := by decide +kernel
theorem dX3_readCondition_17 : decode cX3_readCondition 17 = .ok (.if_icmp .ge 39, 3) := by decide +kernel
theorem dX3_readCondition_20 : decode cX3_readCondition 20 = .ok (.aload_n 0, 1) := by decide +kernel
theorem dX3_readCondition_21 : decode cX3_readCondition 21 = .ok (.getfield 15, 3) := by decide +kernel
theorem dX3_readCondition_24 : decode cX3_readCondition 24 = .ok (.bipush 124, 2) := by decide +kernel
theorem dX3_readCondition_26 : decode cX3_readCondition 26 = .ok (.invokevirtual 36, 3) := by decide +kernel
theorem dX3_readCondition_29 : decode cX3_readCondition 29 = .ok (.ifCond .eq 27, 3) := by decide +kernel
theorem dX3_readCondition_32 : decode cX3_readCondition 32 = .ok (.aload_n 0, 1) := by decide +kernel
theorem dX3_readCondition_33 : decode cX3_readCondition 33 = .ok (.iload_n 1, 1) := by decide +kernel
theorem dX3_readCondition_34 : decode cX3_readCondition 34 = .ok (.iconst 0, 1) := by decide +kernel
theorem dX3_readCondition_35 : decode cX3_readCondition 35 = .ok (.invokevirtual 60, 3) := by decide +kernel
theorem dX3_readCondition_38 : decode cX3_readCondition 38 = .ok (.ifCond .ne 5, 3) := by decide +kernel
theorem dX3_readCondition_41 : decode cX3_readCondition 41 = .ok (.iconst 0, 1) := by decide +kernel
theorem dX3_readCondition_42 : decode cX3_readCondition 42 = .ok (.ireturn, 1) := by decide +kernel
theorem dX3_readCondition_43 : decode cX3_readCondition 43 = .ok (.aload_n 0, 1) := by decide +kernel
theorem dX3_readCondition_44 : decode cX3_readCondition 44 = .ok (.sipush 10018, 3) := by decide +kernel
theorem dX3_readCondition_47 : decode cX3_readCondition 47 = .ok (.invokevirtual 52, 3) := by decide +kernel
theorem dX3_readCondition_50 : decode cX3_readCondition 50 = .ok (.iinc 3 1, 3) := by decide +kernel
theorem dX3_readCondition_53 : decode cX3_readCondition 53 = .ok (.goto (-40), 3) := by decide +kernel
theorem dX3_readCondition_56 : decode cX3_readCondition 56 = .ok (.iconst 1, 1) := by decide +kernel
theorem dX3_readCondition_57 : decode cX3_readCondition 57 = .ok (.ireturn, 1) := by decide +kernel
theorem dX3_readTruth_0 : decode cX3_readTruth 0 = .ok (.iload_n 2, 1) := by decide +kernel
theorem dX3_readTruth_1 : decode cX3_readTruth 1 = .ok (.ifCond .eq 14, 3) := by decide +kernel
theorem dX3_readTruth_4 : decode cX3_readTruth 4 = .ok (.aload_n 0, 1) := by decide +kernel
theorem dX3_readTruth_5 : decode cX3_readTruth 5 = .ok (.iload_n 1, 1) := by decide +kernel
theorem dX3_readTruth_6 : decode cX3_readTruth 6 = .ok (.invokevirtual 63, 3) := by decide +kernel
theorem dX3_readTruth_9 : decode cX3_readTruth 9 = .ok (.ifCond .ne 16, 3) := by decide +kernel
theorem dX3_readTruth_12 : decode cX3_readTruth 12 = .ok (.goto 11, 3) := by decide +kernel
theorem dX3_readTruth_15 : decode cX3_readTruth 15 = .ok (.aload_n 0, 1) := by decide +kernel
theorem dX3_readTruth_16 : decode cX3_readTruth 16 = .ok (.iload_n 1, 1) := by decide +kernel
theorem dX3_readTruth_17 : decode cX3_readTruth 17 = .ok (.invokevirtual 66, 3) := by decide +kernel
theorem dX3_readTruth_20 : decode cX3_readTruth 20 = .ok (.ifCond .ne 5, 3) := by decide +kernel
theorem dX3_readTruth_23 : decode cX3_readTruth 23 = .ok (.iconst 0, 1) := by decide +kernel
theorem dX3_readTruth_24 : decode cX3_readTruth 24 = .ok (.ireturn, 1) := by decide +kernel
theorem dX3_readTruth_25 : decode cX3_readTruth 25 = .ok (.iconst 0, 1) := by decide +kernel
theorem dX3_readTruth_26 : decode cX3_readTruth 26 = .ok (.istore_n 3, 1) := by decide +kernel
theorem dX3_readTruth_27 : decode cX3_readTruth 27 = .ok (.iload_n 3, 1) := by decide +kernel
theorem dX3_readTruth_28 : decode cX3_readTruth 28 = .ok (.sipush 240, 3) := by decide +kernel
theorem dX3_readTruth_31 : decode cX3_readTruth 31 = .ok (.if_icmp .ge 38, 3) := by decide +kernel
theorem dX3_readTruth_34 : decode cX3_readTruth 34 = .ok (.aload_n 0, 1) := by decide +kernel
theorem dX3_readTruth_35 : decode cX3_readTruth 35 = .ok (.getfield 15, 3) := by decide +kernel
theorem dX3_readTruth_38 : decode cX3_readTruth 38 = .ok (.bipush 38, 2) := by decide +kernel
theorem dX3_readTruth_40 : decode cX3_readTruth 40 = .ok (.invokevirtual 36, 3) := by decide +kernel
theorem dX3_readTruth_43 : decode cX3_readTruth 43 = .ok (.ifCond .eq 26, 3) := by decide +kernel
theorem dX3_readTruth_46 : decode cX3_readTruth 46 = .ok (.aload_n 0, 1) := by decide +kernel
theorem dX3_readTruth_47 : decode cX3_readTruth 47 = .ok (.iload_n 1, 1) := by decide +kernel
theorem dX3_readTruth_48 : decode cX3_readTruth 48 = .ok (.invokevirtual 66, 3) := by decide +kernel
theorem dX3_readTruth_51 : decode cX3_readTruth 51 = .ok (.ifCond .ne 5, 3) := by decide +kernel
theorem dX3_readTruth_54 : decode cX3_readTruth 54 = .ok (.iconst 0, 1) := by decide +kernel
theorem dX3_readTruth_55 : decode cX3_readTruth 55 = .ok (.ireturn, 1) := by decide +kernel
theorem dX3_readTruth_56 : decode cX3_readTruth 56 = .ok (.aload_n 0, 1) := by decide +kernel
theorem dX3_readTruth_57 : decode cX3_readTruth 57 = .ok (.sipush 10017, 3) := by decide +kernel
theorem dX3_readTruth_60 : decode cX3_readTruth 60 = .ok (.invokevirtual 52, 3) := by decide +kernel
theorem dX3_readTruth_63 : decode cX3_readTruth 63 = .ok (.iinc 3 1, 3) := by decide +kernel
theorem dX3_readTruth_66 : decode cX3_readTruth 66 = .ok (.goto (-39), 3) := by decide +kernel
theorem dX3_readTruth_69 : decode cX3_readTruth 69 = .ok (.iconst 1, 1) := by decide +kernel
theorem dX3_readTruth_70 : decode cX3_readTruth 70 = .ok (.ireturn, 1) := by decide +kernel
theorem dX3_readUnit_0 : decode cX3_readUnit 0 = .ok (.aload_n 0, 1) := by decide +kernel
theorem dX3_readUnit_1 : decode cX3_readUnit 1 = .ok (.getfield 15, 3) := by decide +kernel
theorem dX3_readUnit_4 : decode cX3_readUnit 4 = .ok (.invokevirtual 32, 3) := by decide +kernel
theorem dX3_readUnit_7 : decode cX3_readUnit 7 = .ok (.istore_n 2, 1) := by decide +kernel
theorem dX3_readUnit_8 : decode cX3_readUnit 8 = .ok (.iload_n 2, 1) := by decide +kernel
theorem dX3_readUnit_9 : decode cX3_readUnit 9 = .ok (.bipush 33, 2) := by decide +kernel
theorem dX3_readUnit_11 : decode cX3_readUnit 11 = .ok (.if_icmp .eq 31, 3) := by decide +kernel
theorem dX3_readUnit_14 : decode cX3_readUnit 14 = .ok (.iload_n 2, 1) := by decide +kernel
theorem dX3_readUnit_15 : decode cX3_readUnit 15 = .ok (.bipush 40, 2) := by decide +kernel
theorem dX3_readUnit_17 : decode cX3_readUnit 17 = .ok (.if_icmp .eq 25, 3) := by decide +kernel
theorem dX3_readUnit_20 : decode cX3_readUnit 20 = .ok (.aload_n 0, 1) := by decide +kernel
theorem dX3_readUnit_21 : decode cX3_readUnit 21 = .ok (.iload_n 1, 1) := by decide +kernel
theorem dX3_readUnit_22 : decode cX3_readUnit 22 = .ok (.invokevirtual 40, 3) := by decide +kernel
theorem dX3_readUnit_25 : decode cX3_readUnit 25 = .ok (.ifCond .eq 15, 3) := by decide +kernel
theorem dX3_readUnit_28 : decode cX3_readUnit 28 = .ok (.aload_n 0, 1) := by decide +kernel
theorem dX3_readUnit_29 : decode cX3_readUnit 29 = .ok (.iload_n 1, 1) := by decide +kernel
theorem dX3_readUnit_30 : decode cX3_readUnit 30 = .ok (.invokevirtual 63, 3) := by decide +kernel
theorem dX3_readUnit_33 : decode cX3_readUnit 33 = .ok (.ifCond .eq 7, 3) := by decide +kernel
theorem dX3_readUnit_36 : decode cX3_readUnit 36 = .ok (.iconst 1, 1) := by decide +kernel
theorem dX3_readUnit_37 : decode cX3_readUnit 37 = .ok (.goto 4, 3) := by decide +kernel
theorem dX3_readUnit_40 : decode cX3_readUnit 40 = .ok (.iconst 0, 1) := by decide +kernel
theorem dX3_readUnit_41 : decode cX3_readUnit 41 = .ok (.ireturn, 1) := by decide +kernel
theorem dX3_readUnit_42 : decode cX3_readUnit 42 = .ok (.iload_n 1, 1) := by decide +kernel
theorem dX3_readUnit_43 : decode cX3_readUnit 43 = .ok (.bipush 6, 2) := by decide +kernel
theorem dX3_readUnit_45 : decode cX3_readUnit 45 = .ok (.if_icmp .lt 5, 3) := by decide +kernel
theorem dX3_readUnit_48 : decode cX3_readUnit 48 = .ok (.iconst 0, 1) := by decide +kernel
theorem dX3_readUnit_49 : decode cX3_readUnit 49 = .ok (.ireturn, 1) := by decide +kernel
theorem dX3_readUnit_50 : decode cX3_readUnit 50 = .ok (.aload_n 0, 1) := by decide +kernel
theorem dX3_readUnit_51 : decode cX3_readUnit 51 = .ok (.getfield 15, 3) := by decide +kernel
theorem dX3_readUnit_54 : decode cX3_readUnit 54 = .ok (.dup, 1) := by decide +kernel
theorem dX3_readUnit_55 : decode cX3_readUnit 55 = .ok (.getfield 23, 3) := by decide +kernel
theorem dX3_readUnit_58 : decode cX3_readUnit 58 = .ok (.iconst 1, 1) := by decide +kernel
theorem dX3_readUnit_59 : decode cX3_readUnit 59 = .ok (.iadd, 1) := by decide +kernel
theorem dX3_readUnit_60 : decode cX3_readUnit 60 = .ok (.putfield 23, 3) := by decide +kernel
theorem dX3_readUnit_63 : decode cX3_readUnit 63 = .ok (.iload_n 2, 1) := by decide +kernel
theorem dX3_readUnit_64 : decode cX3_readUnit 64 = .ok (.bipush 40, 2) := by decide +kernel
theorem dX3_readUnit_66 : decode cX3_readUnit 66 = .ok (.if_icmp .ne 32, 3) := by decide +kernel
theorem dX3_readUnit_69 : decode cX3_readUnit 69 = .ok (.aload_n 0, 1) := by decide +kernel
theorem dX3_readUnit_70 : decode cX3_readUnit 70 = .ok (.iload_n 1, 1) := by decide +kernel
theorem dX3_readUnit_71 : decode cX3_readUnit 71 = .ok (.iconst 1, 1) := by decide +kernel
theorem dX3_readUnit_72 : decode cX3_readUnit 72 = .ok (.iadd, 1) := by decide +kernel
theorem dX3_readUnit_73 : decode cX3_readUnit 73 = .ok (.iconst 0, 1) := by decide +kernel
theorem dX3_readUnit_74 : decode cX3_readUnit 74 = .ok (.invokevirtual 56, 3) := by decide +kernel
theorem dX3_readUnit_77 : decode cX3_readUnit 77 = .ok (.ifCond .eq 19, 3) := by decide +kernel
theorem dX3_readUnit_80 : decode cX3_readUnit 80 = .ok (.aload_n 0, 1) := by decide +kernel
theorem dX3_readUnit_81 : decode cX3_readUnit 81 = .ok (.getfield 15, 3) := by decide +kernel
theorem dX3_readUnit_84 : decode cX3_readUnit 84 = .ok (.bipush 41, 2) := by decide +kernel
theorem dX3_readUnit_86 : decode cX3_readUnit 86 = .ok (.invokevirtual 36, 3) := by decide +kernel
theorem dX3_readUnit_89 : decode cX3_readUnit 89 = .ok (.ifCond .eq 7, 3) := by decide +kernel
theorem dX3_readUnit_92 : decode cX3_readUnit 92 = .ok (.iconst 1, 1) := by decide +kernel
theorem dX3_readUnit_93 : decode cX3_readUnit 93 = .ok (.goto 4, 3) := by decide +kernel
theorem dX3_readUnit_96 : decode cX3_readUnit 96 = .ok (.iconst 0, 1) := by decide +kernel
theorem dX3_readUnit_97 : decode cX3_readUnit 97 = .ok (.ireturn, 1) := by decide +kernel
theorem dX3_readUnit_98 : decode cX3_readUnit 98 = .ok (.aload_n 0, 1) := by decide +kernel
theorem dX3_readUnit_99 : decode cX3_readUnit 99 = .ok (.iload_n 1, 1) := by decide +kernel
theorem dX3_readUnit_100 : decode cX3_readUnit 100 = .ok (.iconst 1, 1) := by decide +kernel
theorem dX3_readUnit_101 : decode cX3_readUnit 101 = .ok (.iadd, 1) := by decide +kernel
theorem dX3_readUnit_102 : decode cX3_readUnit 102 = .ok (.invokevirtual 66, 3) := by decide +kernel
theorem dX3_readUnit_105 : decode cX3_readUnit 105 = .ok (.ifCond .ne 5, 3) := by decide +kernel
theorem dX3_readUnit_108 : decode cX3_readUnit 108 = .ok (.iconst 0, 1) := by decide +kernel
theorem dX3_readUnit_109 : decode cX3_readUnit 109 = .ok (.ireturn, 1) := by decide +kernel
theorem dX3_readUnit_110 : decode cX3_readUnit 110 = .ok (.aload_n 0, 1) := by decide +kernel
theorem dX3_readUnit_111 : decode cX3_readUnit 111 = .ok (.sipush 10019, 3) := by decide +kernel
theorem dX3_readUnit_114 : decode cX3_readUnit 114 = .ok (.invokevirtual 52, 3) := by decide +kernel
theorem dX3_readUnit_117 : decode cX3_readUnit 117 = .ok (.iconst 1, 1) := by decide +kernel
theorem dX3_readUnit_118 : decode cX3_readUnit 118 = .ok (.ireturn, 1) := by decide +kernel
theorem dX3_isComparison_0 : decode cX3_isComparison 0 = .ok (.iload_n 0, 1) := by decide +kernel
theorem dX3_isComparison_1 : decode cX3_isComparison 1 = .ok (.bipush 61, 2) := by decide +kernel
theorem dX3_isComparison_3 : decode cX3_isComparison 3 = .ok (.if_icmp .eq 15, 3) := by decide +kernel
theorem dX3_isComparison_6 : decode cX3_isComparison 6 = .ok (.iload_n 0, 1) := by decide +kernel
theorem dX3_isComparison_7 : decode cX3_isComparison 7 = .ok (.bipush 60, 2) := by decide +kernel
theorem dX3_isComparison_9 : decode cX3_isComparison 9 = .ok (.if_icmp .eq 9, 3) := by decide +kernel
theorem dX3_isComparison_12 : decode cX3_isComparison 12 = .ok (.iload_n 0, 1) := by decide +kernel
theorem dX3_isComparison_13 : decode cX3_isComparison 13 = .ok (.bipush 62, 2) := by decide +kernel
theorem dX3_isComparison_15 : decode cX3_isComparison 15 = .ok (.if_icmp .ne 7, 3) := by decide +kernel
theorem dX3_isComparison_18 : decode cX3_isComparison 18 = .ok (.iconst 1, 1) := by decide +kernel
theorem dX3_isComparison_19 : decode cX3_isComparison 19 = .ok (.goto 4, 3) := by decide +kernel
theorem dX3_isComparison_22 : decode cX3_isComparison 22 = .ok (.iconst 0, 1) := by decide +kernel
theorem dX3_isComparison_23 : decode cX3_isComparison 23 = .ok (.ireturn, 1) := by decide +kernel
theorem dX3_readComparison_0 : decode cX3_readComparison 0 = .ok (.aload_n 0, 1) := by decide +kernel
theorem dX3_readComparison_1 : decode cX3_readComparison 1 = .ok (.getfield 15, 3) := by decide +kernel
theorem dX3_readComparison_4 : decode cX3_readComparison 4 = .ok (.invokevirtual 32, 3) := by decide +kernel
theorem dX3_readComparison_7 : decode cX3_readComparison 7 = .ok (.istore_n 2, 1) := by decide +kernel
theorem dX3_readComparison_8 : decode cX3_readComparison 8 = .ok (.iload_n 2, 1) := by decide +kernel
theorem dX3_readComparison_9 : decode cX3_readComparison 9 = .ok (.invokestatic 43, 3) := by decide +kernel
theorem dX3_readComparison_12 : decode cX3_readComparison 12 = .ok (.ifCond .ne 5, 3) := by decide +kernel
theorem dX3_readComparison_15 : decode cX3_readComparison 15 = .ok (.iconst 0, 1) := by decide +kernel
theorem dX3_readComparison_16 : decode cX3_readComparison 16 = .ok (.ireturn, 1) := by decide +kernel
theorem dX3_readComparison_17 : decode cX3_readComparison 17 = .ok (.aload_n 0, 1) := by decide +kernel
theorem dX3_readComparison_18 : decode cX3_readComparison 18 = .ok (.getfield 15, 3) := by decide +kernel
theorem dX3_readComparison_21 : decode cX3_readComparison 21 = .ok (.dup, 1) := by decide +kernel
theorem dX3_readComparison_22 : decode cX3_readComparison 22 = .ok (.getfield 23, 3) := by decide +kernel
theorem dX3_readComparison_25 : decode cX3_readComparison 25 = .ok (.iconst 1, 1) := by decide +kernel
theorem dX3_readComparison_26 : decode cX3_readComparison 26 = .ok (.iadd, 1) := by decide +kernel
theorem dX3_readComparison_27 : decode cX3_readComparison 27 = .ok (.putfield 23, 3) := by decide +kernel
theorem dX3_readComparison_30 : decode cX3_readComparison 30 = .ok (.aload_n 0, 1) := by decide +kernel
theorem dX3_readComparison_31 : decode cX3_readComparison 31 = .ok (.iload_n 1, 1) := by decide +kernel
theorem dX3_readComparison_32 : decode cX3_readComparison 32 = .ok (.invokevirtual 40, 3) := by decide +kernel
theorem dX3_readComparison_35 : decode cX3_readComparison 35 = .ok (.ifCond .ne 5, 3) := by decide +kernel
theorem dX3_readComparison_38 : decode cX3_readComparison 38 = .ok (.iconst 0, 1) := by decide +kernel
theorem dX3_readComparison_39 : decode cX3_readComparison 39 = .ok (.ireturn, 1) := by decide +kernel
theorem dX3_readComparison_40 : decode cX3_readComparison 40 = .ok (.aload_n 0, 1) := by decide +kernel
theorem dX3_readComparison_41 : decode cX3_readComparison 41 = .ok (.iload_n 2, 1) := by decide +kernel
theorem dX3_readComparison_42 : decode cX3_readComparison 42 = .ok (.bipush 61, 2) := by decide +kernel
theorem dX3_readComparison_44 : decode cX3_readComparison 44 = .ok (.if_icmp .ne 9, 3) := by decide +kernel
theorem dX3_readComparison_47 : decode cX3_readComparison 47 = .ok (.sipush 10014, 3) := by decide +kernel
theorem dX3_readComparison_50 : decode cX3_readComparison 50 = .ok (.goto 18, 3) := by decide +kernel
theorem dX3_readComparison_53 : decode cX3_readComparison 53 = .ok (.iload_n 2, 1) := by decide +kernel
theorem dX3_readComparison_54 : decode cX3_readComparison 54 = .ok (.bipush 60, 2) := by decide +kernel
theorem dX3_readComparison_56 : decode cX3_readComparison 56 = .ok (.if_icmp .ne 9, 3) := by decide +kernel
theorem dX3_readComparison_59 : decode cX3_readComparison 59 = .ok (.sipush 10015, 3) := by decide +kernel
theorem dX3_readComparison_62 : decode cX3_readComparison 62 = .ok (.goto 6, 3) := by decide +kernel
theorem dX3_readComparison_65 : decode cX3_readComparison 65 = .ok (.sipush 10016, 3) := by decide +kernel
theorem dX3_readComparison_68 : decode cX3_readComparison 68 = .ok (.invokevirtual 52, 3) := by decide +kernel
theorem dX3_readComparison_71 : decode cX3_readComparison 71 = .ok (.iconst 1, 1) := by decide +kernel
theorem dX3_readComparison_72 : decode cX3_readComparison 72 = .ok (.ireturn, 1) := by decide +kernel
theorem dX3_readSum_0 : decode cX3_readSum 0 = .ok (.aload_n 0, 1) := by decide +kernel
theorem dX3_readSum_1 : decode cX3_readSum 1 = .ok (.iload_n 1, 1) := by decide +kernel
theorem dX3_readSum_2 : decode cX3_readSum 2 = .ok (.invokevirtual 69, 3) := by decide +kernel
theorem dX3_readSum_5 : decode cX3_readSum 5 = .ok (.ifCond .ne 5, 3) := by decide +kernel
theorem dX3_readSum_8 : decode cX3_readSum 8 = .ok (.iconst 0, 1) := by decide +kernel
theorem dX3_readSum_9 : decode cX3_readSum 9 = .ok (.ireturn, 1) := by decide +kernel
theorem dX3_readSum_10 : decode cX3_readSum 10 = .ok (.iconst 0, 1) := by decide +kernel
theorem dX3_readSum_11 : decode cX3_readSum 11 = .ok (.istore_n 2, 1) := by decide +kernel
theorem dX3_readSum_12 : decode cX3_readSum 12 = .ok (.iload_n 2, 1) := by decide +kernel
theorem dX3_readSum_13 : decode cX3_readSum 13 = .ok (.sipush 240, 3) := by decide +kernel
theorem dX3_readSum_16 : decode cX3_readSum 16 = .ok (.if_icmp .ge 73, 3) := by decide +kernel
theorem dX3_readSum_19 : decode cX3_readSum 19 = .ok (.aload_n 0, 1) := by decide +kernel
theorem dX3_readSum_20 : decode cX3_readSum 20 = .ok (.getfield 15, 3) := by decide +kernel
theorem dX3_readSum_23 : decode cX3_readSum 23 = .ok (.invokevirtual 32, 3) := by decide +kernel
theorem dX3_readSum_26 : decode cX3_readSum 26 = .ok (.istore_n 3, 1) := by decide +kernel
theorem dX3_readSum_27 : decode cX3_readSum 27 = .ok (.iload_n 3, 1) := by decide +kernel
theorem dX3_readSum_28 : decode cX3_readSum 28 = .ok (.bipush 43, 2) := by decide +kernel
theorem dX3_readSum_30 : decode cX3_readSum 30 = .ok (.if_icmp .eq 11, 3) := by decide +kernel
theorem dX3_readSum_33 : decode cX3_readSum 33 = .ok (.iload_n 3, 1) := by decide +kernel
theorem dX3_readSum_34 : decode cX3_readSum 34 = .ok (.bipush 45, 2) := by decide +kernel
theorem dX3_readSum_36 : decode cX3_readSum 36 = .ok (.if_icmp .eq 5, 3) := by decide +kernel
theorem dX3_readSum_39 : decode cX3_readSum 39 = .ok (.iconst 1, 1) := by decide +kernel
theorem dX3_readSum_40 : decode cX3_readSum 40 = .ok (.ireturn, 1) := by decide +kernel
theorem dX3_readSum_41 : decode cX3_readSum 41 = .ok (.aload_n 0, 1) := by decide +kernel
theorem dX3_readSum_42 : decode cX3_readSum 42 = .ok (.getfield 15, 3) := by decide +kernel
theorem dX3_readSum_45 : decode cX3_readSum 45 = .ok (.dup, 1) := by decide +kernel
theorem dX3_readSum_46 : decode cX3_readSum 46 = .ok (.getfield 23, 3) := by decide +kernel
theorem dX3_readSum_49 : decode cX3_readSum 49 = .ok (.iconst 1, 1) := by decide +kernel
theorem dX3_readSum_50 : decode cX3_readSum 50 = .ok (.iadd, 1) := by decide +kernel
theorem dX3_readSum_51 : decode cX3_readSum 51 = .ok (.putfield 23, 3) := by decide +kernel
theorem dX3_readSum_54 : decode cX3_readSum 54 = .ok (.aload_n 0, 1) := by decide +kernel
theorem dX3_readSum_55 : decode cX3_readSum 55 = .ok (.iload_n 1, 1) := by decide +kernel
theorem dX3_readSum_56 : decode cX3_readSum 56 = .ok (.invokevirtual 69, 3) := by decide +kernel
theorem dX3_readSum_59 : decode cX3_readSum 59 = .ok (.ifCond .ne 5, 3) := by decide +kernel
theorem dX3_readSum_62 : decode cX3_readSum 62 = .ok (.iconst 0, 1) := by decide +kernel
theorem dX3_readSum_63 : decode cX3_readSum 63 = .ok (.ireturn, 1) := by decide +kernel
theorem dX3_readSum_64 : decode cX3_readSum 64 = .ok (.aload_n 0, 1) := by decide +kernel
theorem dX3_readSum_65 : decode cX3_readSum 65 = .ok (.iload_n 3, 1) := by decide +kernel
theorem dX3_readSum_66 : decode cX3_readSum 66 = .ok (.bipush 43, 2) := by decide +kernel
theorem dX3_readSum_68 : decode cX3_readSum 68 = .ok (.if_icmp .ne 9, 3) := by decide +kernel
theorem dX3_readSum_71 : decode cX3_readSum 71 = .ok (.sipush 10010, 3) := by decide +kernel
theorem dX3_readSum_74 : decode cX3_readSum 74 = .ok (.goto 6, 3) := by decide +kernel
theorem dX3_readSum_77 : decode cX3_readSum 77 = .ok (.sipush 10011, 3) := by decide +kernel
theorem dX3_readSum_80 : decode cX3_readSum 80 = .ok (.invokevirtual 52, 3) := by decide +kernel
theorem dX3_readSum_83 : decode cX3_readSum 83 = .ok (.iinc 2 1, 3) := by decide +kernel
theorem dX3_readSum_86 : decode cX3_readSum 86 = .ok (.goto (-74), 3) := by decide +kernel
theorem dX3_readSum_89 : decode cX3_readSum 89 = .ok (.iconst 1, 1) := by decide +kernel
theorem dX3_readSum_90 : decode cX3_readSum 90 = .ok (.ireturn, 1) := by decide +kernel
theorem dX3_readTerm_0 : decode cX3_readTerm 0 = .ok (.aload_n 0, 1) := by decide +kernel
theorem dX3_readTerm_1 : decode cX3_readTerm 1 = .ok (.iload_n 1, 1) := by decide +kernel
theorem dX3_readTerm_2 : decode cX3_readTerm 2 = .ok (.invokevirtual 72, 3) := by decide +kernel
theorem dX3_readTerm_5 : decode cX3_readTerm 5 = .ok (.ifCond .ne 5, 3) := by decide +kernel
theorem dX3_readTerm_8 : decode cX3_readTerm 8 = .ok (.iconst 0, 1) := by decide +kernel
theorem dX3_readTerm_9 : decode cX3_readTerm 9 = .ok (.ireturn, 1) := by decide +kernel
theorem dX3_readTerm_10 : decode cX3_readTerm 10 = .ok (.iconst 0, 1) := by decide +kernel
theorem dX3_readTerm_11 : decode cX3_readTerm 11 = .ok (.istore_n 2, 1) := by decide +kernel
theorem dX3_readTerm_12 : decode cX3_readTerm 12 = .ok (.iload_n 2, 1) := by decide +kernel
theorem dX3_readTerm_13 : decode cX3_readTerm 13 = .ok (.sipush 240, 3) := by decide +kernel
theorem dX3_readTerm_16 : decode cX3_readTerm 16 = .ok (.if_icmp .ge 73, 3) := by decide +kernel
theorem dX3_readTerm_19 : decode cX3_readTerm 19 = .ok (.aload_n 0, 1) := by decide +kernel
theorem dX3_readTerm_20 : decode cX3_readTerm 20 = .ok (.getfield 15, 3) := by decide +kernel
theorem dX3_readTerm_23 : decode cX3_readTerm 23 = .ok (.invokevirtual 32, 3) := by decide +kernel
theorem dX3_readTerm_26 : decode cX3_readTerm 26 = .ok (.istore_n 3, 1) := by decide +kernel
theorem dX3_readTerm_27 : decode cX3_readTerm 27 = .ok (.iload_n 3, 1) := by decide +kernel
theorem dX3_readTerm_28 : decode cX3_readTerm 28 = .ok (.bipush 42, 2) := by decide +kernel
theorem dX3_readTerm_30 : decode cX3_readTerm 30 = .ok (.if_icmp .eq 11, 3) := by decide +kernel
theorem dX3_readTerm_33 : decode cX3_readTerm 33 = .ok (.iload_n 3, 1) := by decide +kernel
theorem dX3_readTerm_34 : decode cX3_readTerm 34 = .ok (.bipush 47, 2) := by decide +kernel
theorem dX3_readTerm_36 : decode cX3_readTerm 36 = .ok (.if_icmp .eq 5, 3) := by decide +kernel
theorem dX3_readTerm_39 : decode cX3_readTerm 39 = .ok (.iconst 1, 1) := by decide +kernel
theorem dX3_readTerm_40 : decode cX3_readTerm 40 = .ok (.ireturn, 1) := by decide +kernel
theorem dX3_readTerm_41 : decode cX3_readTerm 41 = .ok (.aload_n 0, 1) := by decide +kernel
theorem dX3_readTerm_42 : decode cX3_readTerm 42 = .ok (.getfield 15, 3) := by decide +kernel
theorem dX3_readTerm_45 : decode cX3_readTerm 45 = .ok (.dup, 1) := by decide +kernel
theorem dX3_readTerm_46 : decode cX3_readTerm 46 = .ok (.getfield 23, 3) := by decide +kernel
theorem dX3_readTerm_49 : decode cX3_readTerm 49 = .ok (.iconst 1, 1) := by decide +kernel
theorem dX3_readTerm_50 : decode cX3_readTerm 50 = .ok (.iadd, 1) := by decide +kernel
theorem dX3_readTerm_51 : decode cX3_readTerm 51 = .ok (.putfield 23, 3) := by decide +kernel
theorem dX3_readTerm_54 : decode cX3_readTerm 54 = .ok (.aload_n 0, 1) := by decide +kernel
theorem dX3_readTerm_55 : decode cX3_readTerm 55 = .ok (.iload_n 1, 1) := by decide +kernel
theorem dX3_readTerm_56 : decode cX3_readTerm 56 = .ok (.invokevirtual 72, 3) := by decide +kernel
theorem dX3_readTerm_59 : decode cX3_readTerm 59 = .ok (.ifCond .ne 5, 3) := by decide +kernel
theorem dX3_readTerm_62 : decode cX3_readTerm 62 = .ok (.iconst 0, 1) := by decide +kernel
theorem dX3_readTerm_63 : decode cX3_readTerm 63 = .ok (.ireturn, 1) := by decide +kernel
theorem dX3_readTerm_64 : decode cX3_readTerm 64 = .ok (.aload_n 0, 1) := by decide +kernel
theorem dX3_readTerm_65 : decode cX3_readTerm 65 = .ok (.iload_n 3, 1) := by decide +kernel
theorem dX3_readTerm_66 : decode cX3_readTerm 66 = .ok (.bipush 42, 2) := by decide +kernel
theorem dX3_readTerm_68 : decode cX3_readTerm 68 = .ok (.if_icmp .ne 9, 3) := by decide +kernel
theorem dX3_readTerm_71 : decode cX3_readTerm 71 = .ok (.sipush 10012, 3) := by decide +kernel
theorem dX3_readTerm_74 : decode cX3_readTerm 74 = .ok (.goto 6, 3) := by decide +kernel
theorem dX3_readTerm_77 : decode cX3_readTerm 77 = .ok (.sipush 10013, 3) := by decide +kernel
theorem dX3_readTerm_80 : decode cX3_readTerm 80 = .ok (.invokevirtual 52, 3) := by decide +kernel
theorem dX3_readTerm_83 : decode cX3_readTerm 83 = .ok (.iinc 2 1, 3) := by decide +kernel
theorem dX3_readTerm_86 : decode cX3_readTerm 86 = .ok (.goto (-74), 3) := by decide +kernel
theorem dX3_readTerm_89 : decode cX3_readTerm 89 = .ok (.iconst 1, 1) := by decide +kernel
theorem dX3_readTerm_90 : decode cX3_readTerm 90 = .ok (.ireturn, 1) := by decide +kernel
theorem dX3_readAtom_0 : decode cX3_readAtom 0 = .ok (.aload_n 0, 1) := by decide +kernel
theorem dX3_readAtom_1 : decode cX3_readAtom 1 = .ok (.getfield 15, 3) := by decide +kernel
theorem dX3_readAtom_4 : decode cX3_readAtom 4 = .ok (.invokevirtual 32, 3) := by decide +kernel
theorem dX3_readAtom_7 : decode cX3_readAtom 7 = .ok (.istore_n 2, 1) := by decide +kernel
theorem dX3_readAtom_8 : decode cX3_readAtom 8 = .ok (.iload_n 2, 1) := by decide +kernel
theorem dX3_readAtom_9 : decode cX3_readAtom 9 = .ok (.invokestatic 75, 3) := by decide +kernel
theorem dX3_readAtom_12 : decode cX3_readAtom 12 = .ok (.ifCond .eq 8, 3) := by decide +kernel
theorem dX3_readAtom_15 : decode cX3_readAtom 15 = .ok (.aload_n 0, 1) := by decide +kernel
theorem dX3_readAtom_16 : decode cX3_readAtom 16 = .ok (.invokevirtual 78, 3) := by decide +kernel
theorem dX3_readAtom_19 : decode cX3_readAtom 19 = .ok (.ireturn, 1) := by decide +kernel
theorem dX3_readAtom_20 : decode cX3_readAtom 20 = .ok (.iload_n 2, 1) := by decide +kernel
theorem dX3_readAtom_21 : decode cX3_readAtom 21 = .ok (.bipush 91, 2) := by decide +kernel
theorem dX3_readAtom_23 : decode cX3_readAtom 23 = .ok (.if_icmp .ne 52, 3) := by decide +kernel
theorem dX3_readAtom_26 : decode cX3_readAtom 26 = .ok (.iload_n 1, 1) := by decide +kernel
theorem dX3_readAtom_27 : decode cX3_readAtom 27 = .ok (.bipush 6, 2) := by decide +kernel
theorem dX3_readAtom_29 : decode cX3_readAtom 29 = .ok (.if_icmp .lt 5, 3) := by decide +kernel
theorem dX3_readAtom_32 : decode cX3_readAtom 32 = .ok (.iconst 0, 1) := by decide +kernel
theorem dX3_readAtom_33 : decode cX3_readAtom 33 = .ok (.ireturn, 1) := by decide +kernel
theorem dX3_readAtom_34 : decode cX3_readAtom 34 = .ok (.aload_n 0, 1) := by decide +kernel
theorem dX3_readAtom_35 : decode cX3_readAtom 35 = .ok (.getfield 15, 3) := by decide +kernel
theorem dX3_readAtom_38 : decode cX3_readAtom 38 = .ok (.dup, 1) := by decide +kernel
theorem dX3_readAtom_39 : decode cX3_readAtom 39 = .ok (.getfield 23, 3) := by decide +kernel
theorem dX3_readAtom_42 : decode cX3_readAtom 42 = .ok (.iconst 1, 1) := by decide +kernel
theorem dX3_readAtom_43 : decode cX3_readAtom 43 = .ok (.iadd, 1) := by decide +kernel
theorem dX3_readAtom_44 : decode cX3_readAtom 44 = .ok (.putfield 23, 3) := by decide +kernel
theorem dX3_readAtom_47 : decode cX3_readAtom 47 = .ok (.aload_n 0, 1) := by decide +kernel
theorem dX3_readAtom_48 : decode cX3_readAtom 48 = .ok (.iload_n 1, 1) := by decide +kernel
theorem dX3_readAtom_49 : decode cX3_readAtom 49 = .ok (.iconst 1, 1) := by decide +kernel
theorem dX3_readAtom_50 : decode cX3_readAtom 50 = .ok (.iadd, 1) := by decide +kernel
theorem dX3_readAtom_51 : decode cX3_readAtom 51 = .ok (.invokevirtual 40, 3) := by decide +kernel
theorem dX3_readAtom_54 : decode cX3_readAtom 54 = .ok (.ifCond .eq 19, 3) := by decide +kernel
theorem dX3_readAtom_57 : decode cX3_readAtom 57 = .ok (.aload_n 0, 1) := by decide +kernel
theorem dX3_readAtom_58 : decode cX3_readAtom 58 = .ok (.getfield 15, 3) := by decide +kernel
theorem dX3_readAtom_61 : decode cX3_readAtom 61 = .ok (.bipush 93, 2) := by decide +kernel
theorem dX3_readAtom_63 : decode cX3_readAtom 63 = .ok (.invokevirtual 36, 3) := by decide +kernel
theorem dX3_readAtom_66 : decode cX3_readAtom 66 = .ok (.ifCond .eq 7, 3) := by decide +kernel
theorem dX3_readAtom_69 : decode cX3_readAtom 69 = .ok (.iconst 1, 1) := by decide +kernel
theorem dX3_readAtom_70 : decode cX3_readAtom 70 = .ok (.goto 4, 3) := by decide +kernel
theorem dX3_readAtom_73 : decode cX3_readAtom 73 = .ok (.iconst 0, 1) := by decide +kernel
theorem dX3_readAtom_74 : decode cX3_readAtom 74 = .ok (.ireturn, 1) := by decide +kernel
theorem dX3_readAtom_75 : decode cX3_readAtom 75 = .ok (.iload_n 2, 1) := by decide +kernel
theorem dX3_readAtom_76 : decode cX3_readAtom 76 = .ok (.invokestatic 81, 3) := by decide +kernel
theorem dX3_readAtom_79 : decode cX3_readAtom 79 = .ok (.istore_n 3, 1) := by decide +kernel
theorem dX3_readAtom_80 : decode cX3_readAtom 80 = .ok (.iload_n 3, 1) := by decide +kernel
theorem dX3_readAtom_81 : decode cX3_readAtom 81 = .ok (.iconst (-1), 1) := by decide +kernel
theorem dX3_readAtom_82 : decode cX3_readAtom 82 = .ok (.if_icmp .ne 5, 3) := by decide +kernel
theorem dX3_readAtom_85 : decode cX3_readAtom 85 = .ok (.iconst 0, 1) := by decide +kernel
theorem dX3_readAtom_86 : decode cX3_readAtom 86 = .ok (.ireturn, 1) := by decide +kernel
theorem dX3_readAtom_87 : decode cX3_readAtom 87 = .ok (.aload_n 0, 1) := by decide +kernel
theorem dX3_readAtom_88 : decode cX3_readAtom 88 = .ok (.getfield 15, 3) := by decide +kernel
theorem dX3_readAtom_91 : decode cX3_readAtom 91 = .ok (.dup, 1) := by decide +kernel
theorem dX3_readAtom_92 : decode cX3_readAtom 92 = .ok (.getfield 23, 3) := by decide +kernel
theorem dX3_readAtom_95 : decode cX3_readAtom 95 = .ok (.iconst 1, 1) := by decide +kernel
theorem dX3_readAtom_96 : decode cX3_readAtom 96 = .ok (.iadd, 1) := by decide +kernel
theorem dX3_readAtom_97 : decode cX3_readAtom 97 = .ok (.putfield 23, 3) := by decide +kernel
theorem dX3_readAtom_100 : decode cX3_readAtom 100 = .ok (.aload_n 0, 1) := by decide +kernel
theorem dX3_readAtom_101 : decode cX3_readAtom 101 = .ok (.sipush 10000, 3) := by decide +kernel
theorem dX3_readAtom_104 : decode cX3_readAtom 104 = .ok (.iload_n 3, 1) := by decide +kernel
theorem dX3_readAtom_105 : decode cX3_readAtom 105 = .ok (.iadd, 1) := by decide +kernel
theorem dX3_readAtom_106 : decode cX3_readAtom 106 = .ok (.invokevirtual 52, 3) := by decide +kernel
theorem dX3_readAtom_109 : decode cX3_readAtom 109 = .ok (.iconst 1, 1) := by decide +kernel
theorem dX3_readAtom_110 : decode cX3_readAtom 110 = .ok (.ireturn, 1) := by decide +kernel
theorem dX3_readNumber_0 : decode cX3_readNumber 0 = .ok (.aload_n 0, 1) := by decide +kernel
theorem dX3_readNumber_1 : decode cX3_readNumber 1 = .ok (.getfield 15, 3) := by decide +kernel
theorem dX3_readNumber_4 : decode cX3_readNumber 4 = .ok (.iconst 4, 1) := by decide +kernel
theorem dX3_readNumber_5 : decode cX3_readNumber 5 = .ok (.invokevirtual 85, 3) := by decide +kernel
theorem dX3_readNumber_8 : decode cX3_readNumber 8 = .ok (.istore_n 1, 1) := by decide +kernel
theorem dX3_readNumber_9 : decode cX3_readNumber 9 = .ok (.iload_n 1, 1) := by decide +kernel
theorem dX3_readNumber_10 : decode cX3_readNumber 10 = .ok (.iconst (-1), 1) := by decide +kernel
theorem dX3_readNumber_11 : decode cX3_readNumber 11 = .ok (.if_icmp .ne 5, 3) := by decide +kernel
theorem dX3_readNumber_14 : decode cX3_readNumber 14 = .ok (.iconst 0, 1) := by decide +kernel
theorem dX3_readNumber_15 : decode cX3_readNumber 15 = .ok (.ireturn, 1) := by decide +kernel
theorem dX3_readNumber_16 : decode cX3_readNumber 16 = .ok (.aload_n 0, 1) := by decide +kernel
theorem dX3_readNumber_17 : decode cX3_readNumber 17 = .ok (.iload_n 1, 1) := by decide +kernel
theorem dX3_readNumber_18 : decode cX3_readNumber 18 = .ok (.invokevirtual 52, 3) := by decide +kernel
theorem dX3_readNumber_21 : decode cX3_readNumber 21 = .ok (.iconst 1, 1) := by decide +kernel
theorem dX3_readNumber_22 : decode cX3_readNumber 22 = .ok (.ireturn, 1) := by decide +kernel
theorem dX3_letterOf_0 : decode cX3_letterOf 0 = .ok (.iload_n 0, 1) := by decide +kernel
theorem dX3_letterOf_1 : decode cX3_letterOf 1 = .ok (.tableswitch 99 99 116 #[87, 99, 93, 99, 99, 99, 99, 99, 99, 91, 99, 95, 99, 89, 99, 99, 99, 97], 87) := by decide +kernel
theorem dX3_letterOf_88 : decode cX3_letterOf 88 = .ok (.iconst 0, 1) := by decide +kernel
theorem dX3_letterOf_89 : decode cX3_letterOf 89 = .ok (.ireturn, 1) := by decide +kernel
theorem dX3_letterOf_90 : decode cX3_letterOf 90 = .ok (.iconst 1, 1) := by decide +kernel
theorem dX3_letterOf_91 : decode cX3_letterOf 91 = .ok (.ireturn, 1) := by decide +kernel
theorem dX3_letterOf_92 : decode cX3_letterOf 92 = .ok (.iconst 2, 1) := by decide +kernel
theorem dX3_letterOf_93 : decode cX3_letterOf 93 = .ok (.ireturn, 1) := by decide +kernel
theorem dX3_letterOf_94 : decode cX3_letterOf 94 = .ok (.iconst 3, 1) := by decide +kernel
theorem dX3_letterOf_95 : decode cX3_letterOf 95 = .ok (.ireturn, 1) := by decide +kernel
theorem dX3_letterOf_96 : decode cX3_letterOf 96 = .ok (.iconst 4, 1) := by decide +kernel
theorem dX3_letterOf_97 : decode cX3_letterOf 97 = .ok (.ireturn, 1) := by decide +kernel
theorem dX3_letterOf_98 : decode cX3_letterOf 98 = .ok (.iconst 5, 1) := by decide +kernel
theorem dX3_letterOf_99 : decode cX3_letterOf 99 = .ok (.ireturn, 1) := by decide +kernel
theorem dX3_letterOf_100 : decode cX3_letterOf 100 = .ok (.iconst (-1), 1) := by decide +kernel
theorem dX3_letterOf_101 : decode cX3_letterOf 101 = .ok (.ireturn, 1) := by decide +kernel
theorem dX4_init_0 : decode cX4_init 0 = .ok (.aload_n 0, 1) := by decide +kernel
theorem dX4_init_1 : decode cX4_init 1 = .ok (.invokespecial 5, 3) := by decide +kernel
theorem dX4_init_4 : decode cX4_init 4 = .ok (.aload_n 0, 1) := by decide +kernel
theorem dX4_init_5 : decode cX4_init 5 = .ok (.sipush 1320, 3) := by decide +kernel
theorem dX4_init_8 : decode cX4_init 8 = .ok (.newarray .int, 2) := by decide +kernel
theorem dX4_init_10 : decode cX4_init 10 = .ok (.putfield 13, 3) := by decide +kernel
theorem dX4_init_13 : decode cX4_init 13 = .ok (.aload_n 0, 1) := by decide +kernel
theorem dX4_init_14 : decode cX4_init 14 = .ok (.sipush 300, 3) := by decide +kernel
theorem dX4_init_17 : decode cX4_init 17 = .ok (.newarray .int, 2) := by decide +kernel
theorem dX4_init_19 : decode cX4_init 19 = .ok (.putfield 17, 3) := by decide +kernel
theorem dX4_init_22 : decode cX4_init 22 = .ok (.aload_n 0, 1) := by decide +kernel
theorem dX4_init_23 : decode cX4_init 23 = .ok (.bipush 33, 2) := by decide +kernel
theorem dX4_init_25 : decode cX4_init 25 = .ok (.newarray .int, 2) := by decide +kernel
theorem dX4_init_27 : decode cX4_init 27 = .ok (.putfield 20, 3) := by decide +kernel
theorem dX4_init_30 : decode cX4_init 30 = .ok (.aload_n 0, 1) := by decide +kernel
theorem dX4_init_31 : decode cX4_init 31 = .ok (.sipush 300, 3) := by decide +kernel
theorem dX4_init_34 : decode cX4_init 34 = .ok (.newarray .int, 2) := by decide +kernel
theorem dX4_init_36 : decode cX4_init 36 = .ok (.putfield 23, 3) := by decide +kernel
theorem dX4_init_39 : decode cX4_init 39 = .ok (.return_, 1) := by decide +kernel
theorem dX4_forget_0 : decode cX4_forget 0 = .ok (.aload_n 0, 1) := by decide +kernel
theorem dX4_forget_1 : decode cX4_forget 1 = .ok (.iconst 0, 1) := by decide +kernel
theorem dX4_forget_2 : decode cX4_forget 2 = .ok (.putfield 26, 3) := by decide +kernel
theorem dX4_forget_5 : decode cX4_forget 5 = .ok (.aload_n 0, 1) := by decide +kernel
theorem dX4_forget_6 : decode cX4_forget 6 = .ok (.iconst 0, 1) := by decide +kernel
theorem dX4_forget_7 : decode cX4_forget 7 = .ok (.putfield 30, 3) := by decide +kernel
theorem dX4_forget_10 : decode cX4_forget 10 = .ok (.aload_n 0, 1) := by decide +kernel
theorem dX4_forget_11 : decode cX4_forget 11 = .ok (.iconst 0, 1) := by decide +kernel
theorem dX4_forget_12 : decode cX4_forget 12 = .ok (.putfield 33, 3) := by decide +kernel
theorem dX4_forget_15 : decode cX4_forget 15 = .ok (.return_, 1) := by decide +kernel
theorem dX4_keep_0 : decode cX4_keep 0 = .ok (.aload_n 1, 1) := by decide +kernel
theorem dX4_keep_1 : decode cX4_keep 1 = .ok (.aload_n 0, 1) := by decide +kernel
theorem dX4_keep_2 : decode cX4_keep 2 = .ok (.getfield 13, 3) := by decide +kernel
theorem dX4_keep_5 : decode cX4_keep 5 = .ok (.aload_n 0, 1) := by decide +kernel
theorem dX4_keep_6 : decode cX4_keep 6 = .ok (.getfield 30, 3) := by decide +kernel
theorem dX4_keep_9 : decode cX4_keep 9 = .ok (.bipush 33, 2) := by decide +kernel
theorem dX4_keep_11 : decode cX4_keep 11 = .ok (.imul, 1) := by decide +kernel
theorem dX4_keep_12 : decode cX4_keep 12 = .ok (.invokevirtual 37, 3) := by decide +kernel
theorem dX4_keep_15 : decode cX4_keep 15 = .ok (.aload_n 0, 1) := by decide +kernel
theorem dX4_keep_16 : decode cX4_keep 16 = .ok (.aload_n 0, 1) := by decide +kernel
theorem dX4_keep_17 : decode cX4_keep 17 = .ok (.getfield 30, 3) := by decide +kernel
theorem dX4_keep_20 : decode cX4_keep 20 = .ok (.iconst 1, 1) := by decide +kernel
theorem dX4_keep_21 : decode cX4_keep 21 = .ok (.iadd, 1) := by decide +kernel
theorem dX4_keep_22 : decode cX4_keep 22 = .ok (.bipush 40, 2) := by decide +kernel
theorem dX4_keep_24 : decode cX4_keep 24 = .ok (.irem, 1) := by decide +kernel
theorem dX4_keep_25 : decode cX4_keep 25 = .ok (.putfield 30, 3) := by decide +kernel
theorem dX4_keep_28 : decode cX4_keep 28 = .ok (.aload_n 0, 1) := by decide +kernel
theorem dX4_keep_29 : decode cX4_keep 29 = .ok (.bipush 40, 2) := by decide +kernel
theorem dX4_keep_31 : decode cX4_keep 31 = .ok (.aload_n 0, 1) := by decide +kernel
theorem dX4_keep_32 : decode cX4_keep 32 = .ok (.getfield 26, 3) := by decide +kernel
theorem dX4_keep_35 : decode cX4_keep 35 = .ok (.iconst 1, 1) := by decide +kernel
theorem dX4_keep_36 : decode cX4_keep 36 = .ok (.iadd, 1) := by decide +kernel
theorem dX4_keep_37 : decode cX4_keep 37 = .ok (.invokestatic 41, 3) := by decide +kernel
theorem dX4_keep_40 : decode cX4_keep 40 = .ok (.putfield 26, 3) := by decide +kernel
theorem dX4_keep_43 : decode cX4_keep 43 = .ok (.return_, 1) := by decide +kernel
theorem dX4_bringBackLatest_0 : decode cX4_bringBackLatest 0 = .ok (.aload_n 0, 1) := by decide +kernel
theorem dX4_bringBackLatest_1 : decode cX4_bringBackLatest 1 = .ok (.getfield 26, 3) := by decide +kernel
theorem dX4_bringBackLatest_4 : decode cX4_bringBackLatest 4 = .ok (.ifCond .ne 5, 3) := by decide +kernel
theorem dX4_bringBackLatest_7 : decode cX4_bringBackLatest 7 = .ok (.iconst 0, 1) := by decide +kernel
theorem dX4_bringBackLatest_8 : decode cX4_bringBackLatest 8 = .ok (.ireturn, 1) := by decide +kernel
theorem dX4_bringBackLatest_9 : decode cX4_bringBackLatest 9 = .ok (.aload_n 0, 1) := by decide +kernel
theorem dX4_bringBackLatest_10 : decode cX4_bringBackLatest 10 = .ok (.aload_n 0, 1) := by decide +kernel
theorem dX4_bringBackLatest_11 : decode cX4_bringBackLatest 11 = .ok (.getfield 30, 3) := by decide +kernel
theorem dX4_bringBackLatest_14 : decode cX4_bringBackLatest 14 = .ok (.bipush 40, 2) := by decide +kernel
theorem dX4_bringBackLatest_16 : decode cX4_bringBackLatest 16 = .ok (.iadd, 1) := by decide +kernel
theorem dX4_bringBackLatest_17 : decode cX4_bringBackLatest 17 = .ok (.iconst 1, 1) := by decide +kernel
theorem dX4_bringBackLatest_18 : decode cX4_bringBackLatest 18 = .ok (.isub, 1) := by decide +kernel
theorem dX4_bringBackLatest_19 : decode cX4_bringBackLatest 19 = .ok (.bipush 40, 2) := by decide +kernel
theorem dX4_bringBackLatest_21 : decode cX4_bringBackLatest 21 = .ok (.irem, 1) := by decide +kernel
theorem dX4_bringBackLatest_22 : decode cX4_bringBackLatest 22 = .ok (.putfield 30, 3) := by decide +kernel
theorem dX4_bringBackLatest_25 : decode cX4_bringBackLatest 25 = .ok (.aload_n 0, 1) := by decide +kernel
theorem dX4_bringBackLatest_26 : decode cX4_bringBackLatest 26 = .ok (.dup, 1) := by decide +kernel
theorem dX4_bringBackLatest_27 : decode cX4_bringBackLatest 27 = .ok (.getfield 26, 3) := by decide +kernel
theorem dX4_bringBackLatest_30 : decode cX4_bringBackLatest 30 = .ok (.iconst 1, 1) := by decide +kernel
theorem dX4_bringBackLatest_31 : decode cX4_bringBackLatest 31 = .ok (.isub, 1) := by decide +kernel
theorem dX4_bringBackLatest_32 : decode cX4_bringBackLatest 32 = .ok (.putfield 26, 3) := by decide +kernel
theorem dX4_bringBackLatest_35 : decode cX4_bringBackLatest 35 = .ok (.aload_n 1, 1) := by decide +kernel
theorem dX4_bringBackLatest_36 : decode cX4_bringBackLatest 36 = .ok (.aload_n 0, 1) := by decide +kernel
theorem dX4_bringBackLatest_37 : decode cX4_bringBackLatest 37 = .ok (.getfield 13, 3) := by decide +kernel
theorem dX4_bringBackLatest_40 : decode cX4_bringBackLatest 40 = .ok (.aload_n 0, 1) := by decide +kernel
theorem dX4_bringBackLatest_41 : decode cX4_bringBackLatest 41 = .ok (.getfield 30, 3) := by decide +kernel
theorem dX4_bringBackLatest_44 : decode cX4_bringBackLatest 44 = .ok (.bipush 33, 2) := by decide +kernel
theorem dX4_bringBackLatest_46 : decode cX4_bringBackLatest 46 = .ok (.imul, 1) := by decide +kernel
theorem dX4_bringBackLatest_47 : decode cX4_bringBackLatest 47 = .ok (.invokevirtual 47, 3) := by decide +kernel
theorem dX4_bringBackLatest_50 : decode cX4_bringBackLatest 50 = .ok (.iconst 1, 1) := by decide +kernel
theorem dX4_bringBackLatest_51 : decode cX4_bringBackLatest 51 = .ok (.ireturn, 1) := by decide +kernel
theorem dX4_loggedBy_0 : decode cX4_loggedBy 0 = .ok (.bipush 60, 2) := by decide +kernel
theorem dX4_loggedBy_2 : decode cX4_loggedBy 2 = .ok (.iload_n 0, 1) := by decide +kernel
theorem dX4_loggedBy_3 : decode cX4_loggedBy 3 = .ok (.invokestatic 41, 3) := by decide +kernel
theorem dX4_loggedBy_6 : decode cX4_loggedBy 6 = .ok (.ireturn, 1) := by decide +kernel
theorem dX4_placeOf_0 : decode cX4_placeOf 0 = .ok (.iload_n 0, 1) := by decide +kernel
theorem dX4_placeOf_1 : decode cX4_placeOf 1 = .ok (.bipush 100, 2) := by decide +kernel
theorem dX4_placeOf_3 : decode cX4_placeOf 3 = .ok (.invokestatic 50, 3) := by decide +kernel
theorem dX4_placeOf_6 : decode cX4_placeOf 6 = .ok (.iconst 3, 1) := by decide +kernel
theorem dX4_placeOf_7 : decode cX4_placeOf 7 = .ok (.imul, 1) := by decide +kernel
theorem dX4_placeOf_8 : decode cX4_placeOf 8 = .ok (.ireturn, 1) := by decide +kernel
theorem dX4_writeDay_0 : decode cX4_writeDay 0 = .ok (.aload_n 1, 1) := by decide +kernel
theorem dX4_writeDay_1 : decode cX4_writeDay 1 = .ok (.getfield 53, 3) := by decide +kernel
theorem dX4_writeDay_4 : decode cX4_writeDay 4 = .ok (.invokestatic 56, 3) := by decide +kernel
theorem dX4_writeDay_7 : decode cX4_writeDay 7 = .ok (.istore_n 2, 1) := by decide +kernel
theorem dX4_writeDay_8 : decode cX4_writeDay 8 = .ok (.aload_n 0, 1) := by decide +kernel
theorem dX4_writeDay_9 : decode cX4_writeDay 9 = .ok (.getfield 17, 3) := by decide +kernel
theorem dX4_writeDay_12 : decode cX4_writeDay 12 = .ok (.iload_n 2, 1) := by decide +kernel
theorem dX4_writeDay_13 : decode cX4_writeDay 13 = .ok (.aload_n 1, 1) := by decide +kernel
theorem dX4_writeDay_14 : decode cX4_writeDay 14 = .ok (.getfield 60, 3) := by decide +kernel
theorem dX4_writeDay_17 : decode cX4_writeDay 17 = .ok (.iastore, 1) := by decide +kernel
theorem dX4_writeDay_18 : decode cX4_writeDay 18 = .ok (.aload_n 0, 1) := by decide +kernel
theorem dX4_writeDay_19 : decode cX4_writeDay 19 = .ok (.getfield 17, 3) := by decide +kernel
theorem dX4_writeDay_22 : decode cX4_writeDay 22 = .ok (.iload_n 2, 1) := by decide +kernel
theorem dX4_writeDay_23 : decode cX4_writeDay 23 = .ok (.iconst 1, 1) := by decide +kernel
theorem dX4_writeDay_24 : decode cX4_writeDay 24 = .ok (.iadd, 1) := by decide +kernel
theorem dX4_writeDay_25 : decode cX4_writeDay 25 = .ok (.aload_n 1, 1) := by decide +kernel
theorem dX4_writeDay_26 : decode cX4_writeDay 26 = .ok (.getfield 63, 3) := by decide +kernel
theorem dX4_writeDay_29 : decode cX4_writeDay 29 = .ok (.iastore, 1) := by decide +kernel
theorem dX4_writeDay_30 : decode cX4_writeDay 30 = .ok (.aload_n 0, 1) := by decide +kernel
theorem dX4_writeDay_31 : decode cX4_writeDay 31 = .ok (.getfield 17, 3) := by decide +kernel
theorem dX4_writeDay_34 : decode cX4_writeDay 34 = .ok (.iload_n 2, 1) := by decide +kernel
theorem dX4_writeDay_35 : decode cX4_writeDay 35 = .ok (.iconst 2, 1) := by decide +kernel
theorem dX4_writeDay_36 : decode cX4_writeDay 36 = .ok (.iadd, 1) := by decide +kernel
theorem dX4_writeDay_37 : decode cX4_writeDay 37 = .ok (.aload_n 1, 1) := by decide +kernel
theorem dX4_writeDay_38 : decode cX4_writeDay 38 = .ok (.getfield 66, 3) := by decide +kernel
theorem dX4_writeDay_41 : decode cX4_writeDay 41 = .ok (.iastore, 1) := by decide +kernel
theorem dX4_writeDay_42 : decode cX4_writeDay 42 = .ok (.return_, 1) := by decide +kernel
theorem dX4_readDay_0 : decode cX4_readDay 0 = .ok (.iload_n 2, 1) := by decide +kernel
theorem dX4_readDay_1 : decode cX4_readDay 1 = .ok (.ifCond .lt 20, 3) := by decide +kernel
theorem dX4_readDay_4 : decode cX4_readDay 4 = .ok (.iload_n 2, 1) := by decide +kernel
theorem dX4_readDay_5 : decode cX4_readDay 5 = .ok (.iload_n 1, 1) := by decide +kernel
theorem dX4_readDay_6 : decode cX4_readDay 6 = .ok (.invokestatic 69, 3) := by decide +kernel
theorem dX4_readDay_9 : decode cX4_readDay 9 = .ok (.if_icmp .ge 12, 3) := by decide +kernel
theorem dX4_readDay_12 : decode cX4_readDay 12 = .ok (.iload_n 3, 1) := by decide +kernel
theorem dX4_readDay_13 : decode cX4_readDay 13 = .ok (.ifCond .lt 8, 3) := by decide +kernel
theorem dX4_readDay_16 : decode cX4_readDay 16 = .ok (.iload_n 3, 1) := by decide +kernel
theorem dX4_readDay_17 : decode cX4_readDay 17 = .ok (.iconst 3, 1) := by decide +kernel
theorem dX4_readDay_18 : decode cX4_readDay 18 = .ok (.if_icmp .lt 5, 3) := by decide +kernel
theorem dX4_readDay_21 : decode cX4_readDay 21 = .ok (.iconst (-1), 1) := by decide +kernel
theorem dX4_readDay_22 : decode cX4_readDay 22 = .ok (.ireturn, 1) := by decide +kernel
theorem dX4_readDay_23 : decode cX4_readDay 23 = .ok (.aload_n 0, 1) := by decide +kernel
theorem dX4_readDay_24 : decode cX4_readDay 24 = .ok (.getfield 17, 3) := by decide +kernel
theorem dX4_readDay_27 : decode cX4_readDay 27 = .ok (.iload_n 1, 1) := by decide +kernel
theorem dX4_readDay_28 : decode cX4_readDay 28 = .ok (.iconst 1, 1) := by decide +kernel
theorem dX4_readDay_29 : decode cX4_readDay 29 = .ok (.isub, 1) := by decide +kernel
theorem dX4_readDay_30 : decode cX4_readDay 30 = .ok (.iload_n 2, 1) := by decide +kernel
theorem dX4_readDay_31 : decode cX4_readDay 31 = .ok (.isub, 1) := by decide +kernel
theorem dX4_readDay_32 : decode cX4_readDay 32 = .ok (.invokestatic 56, 3) := by decide +kernel
theorem dX4_readDay_35 : decode cX4_readDay 35 = .ok (.iload_n 3, 1) := by decide +kernel
theorem dX4_readDay_36 : decode cX4_readDay 36 = .ok (.iadd, 1) := by decide +kernel
theorem dX4_readDay_37 : decode cX4_readDay 37 = .ok (.iaload, 1) := by decide +kernel
theorem dX4_readDay_38 : decode cX4_readDay 38 = .ok (.ireturn, 1) := by decide +kernel
theorem dX4_keepImage_0 : decode cX4_keepImage 0 = .ok (.aload_n 1, 1) := by decide +kernel
theorem dX4_keepImage_1 : decode cX4_keepImage 1 = .ok (.aload_n 0, 1) := by decide +kernel
theorem dX4_keepImage_2 : decode cX4_keepImage 2 = .ok (.getfield 20, 3) := by decide +kernel
theorem dX4_keepImage_5 : decode cX4_keepImage 5 = .ok (.iconst 0, 1) := by decide +kernel
theorem dX4_keepImage_6 : decode cX4_keepImage 6 = .ok (.invokevirtual 37, 3) := by decide +kernel
theorem dX4_keepImage_9 : decode cX4_keepImage 9 = .ok (.aload_n 0, 1) := by decide +kernel
theorem dX4_keepImage_10 : decode cX4_keepImage 10 = .ok (.getfield 17, 3) := by decide +kernel
theorem dX4_keepImage_13 : decode cX4_keepImage 13 = .ok (.iconst 0, 1) := by decide +kernel
theorem dX4_keepImage_14 : decode cX4_keepImage 14 = .ok (.aload_n 0, 1) := by decide +kernel
theorem dX4_keepImage_15 : decode cX4_keepImage 15 = .ok (.getfield 23, 3) := by decide +kernel
theorem dX4_keepImage_18 : decode cX4_keepImage 18 = .ok (.iconst 0, 1) := by decide +kernel
theorem dX4_keepImage_19 : decode cX4_keepImage 19 = .ok (.aload_n 0, 1) := by decide +kernel
theorem dX4_keepImage_20 : decode cX4_keepImage 20 = .ok (.getfield 17, 3) := by decide +kernel
theorem dX4_keepImage_23 : decode cX4_keepImage 23 = .ok (.arraylength, 1) := by decide +kernel
theorem dX4_keepImage_24 : decode cX4_keepImage 24 = .ok (.invokestatic 72, 3) := by decide +kernel
theorem dX4_keepImage_27 : decode cX4_keepImage 27 = .ok (.aload_n 0, 1) := by decide +kernel
theorem dX4_keepImage_28 : decode cX4_keepImage 28 = .ok (.iconst 1, 1) := by decide +kernel
theorem dX4_keepImage_29 : decode cX4_keepImage 29 = .ok (.putfield 33, 3) := by decide +kernel
theorem dX4_keepImage_32 : decode cX4_keepImage 32 = .ok (.return_, 1) := by decide +kernel
theorem dX4_bringBackImage_0 : decode cX4_bringBackImage 0 = .ok (.aload_n 0, 1) := by decide +kernel
theorem dX4_bringBackImage_1 : decode cX4_bringBackImage 1 = .ok (.getfield 33, 3) := by decide +kernel
theorem dX4_bringBackImage_4 : decode cX4_bringBackImage 4 = .ok (.ifCond .ne 5, 3) := by decide +kernel
theorem dX4_bringBackImage_7 : decode cX4_bringBackImage 7 = .ok (.iconst 0, 1) := by decide +kernel
theorem dX4_bringBackImage_8 : decode cX4_bringBackImage 8 = .ok (.ireturn, 1) := by decide +kernel
theorem dX4_bringBackImage_9 : decode cX4_bringBackImage 9 = .ok (.aload_n 1, 1) := by decide +kernel
theorem dX4_bringBackImage_10 : decode cX4_bringBackImage 10 = .ok (.aload_n 0, 1) := by decide +kernel
theorem dX4_bringBackImage_11 : decode cX4_bringBackImage 11 = .ok (.getfield 20, 3) := by decide +kernel
theorem dX4_bringBackImage_14 : decode cX4_bringBackImage 14 = .ok (.iconst 0, 1) := by decide +kernel
theorem dX4_bringBackImage_15 : decode cX4_bringBackImage 15 = .ok (.invokevirtual 47, 3) := by decide +kernel
theorem dX4_bringBackImage_18 : decode cX4_bringBackImage 18 = .ok (.aload_n 0, 1) := by decide +kernel
theorem dX4_bringBackImage_19 : decode cX4_bringBackImage 19 = .ok (.getfield 23, 3) := by decide +kernel
theorem dX4_bringBackImage_22 : decode cX4_bringBackImage 22 = .ok (.iconst 0, 1) := by decide +kernel
theorem dX4_bringBackImage_23 : decode cX4_bringBackImage 23 = .ok (.aload_n 0, 1) := by decide +kernel
theorem dX4_bringBackImage_24 : decode cX4_bringBackImage 24 = .ok (.getfield 17, 3) := by decide +kernel
theorem dX4_bringBackImage_27 : decode cX4_bringBackImage 27 = .ok (.iconst 0, 1) := by decide +kernel
theorem dX4_bringBackImage_28 : decode cX4_bringBackImage 28 = .ok (.aload_n 0, 1) := by decide +kernel
theorem dX4_bringBackImage_29 : decode cX4_bringBackImage 29 = .ok (.getfield 17, 3) := by decide +kernel
theorem dX4_bringBackImage_32 : decode cX4_bringBackImage 32 = .ok (.arraylength, 1) := by decide +kernel
theorem dX4_bringBackImage_33 : decode cX4_bringBackImage 33 = .ok (.invokestatic 72, 3) := by decide +kernel
theorem dX4_bringBackImage_36 : decode cX4_bringBackImage 36 = .ok (.aload_n 0, 1) := by decide +kernel
theorem dX4_bringBackImage_37 : decode cX4_bringBackImage 37 = .ok (.iconst 0, 1) := by decide +kernel
theorem dX4_bringBackImage_38 : decode cX4_bringBackImage 38 = .ok (.putfield 26, 3) := by decide +kernel
theorem dX4_bringBackImage_41 : decode cX4_bringBackImage 41 = .ok (.iconst 1, 1) := by decide +kernel
theorem dX4_bringBackImage_42 : decode cX4_bringBackImage 42 = .ok (.ireturn, 1) := by decide +kernel
