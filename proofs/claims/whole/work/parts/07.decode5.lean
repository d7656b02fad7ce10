theorem dX5_fold_272 : decode cX5_fold 272 = .ok (.goto (-170), 3) := by decide +kernel
theorem dX5_fold_275 : decode cX5_fold 275 = .ok (.iinc 2 1, 3) := by decide +kernel
theorem dX5_fold_278 : decode cX5_fold 278 = .ok (.goto (-209), 3) := by decide +kernel
theorem dX5_fold_281 : decode cX5_fold 281 = .ok (.return_, 1) := by decide +kernel
theorem dX5_place_0 : decode cX5_place 0 = .ok (.aload_n 0, 1) := by decide +kernel
theorem dX5_place_1 : decode cX5_place 1 = .ok (.iconst 0, 1) := by decide +kernel
theorem dX5_place_2 : decode cX5_place 2 = .ok (.putfield 64, 3) := by decide +kernel
theorem dX5_place_5 : decode cX5_place 5 = .ok (.aload_n 0, 1) := by decide +kernel
theorem dX5_place_6 : decode cX5_place 6 = .ok (.iload_n 1, 1) := by decide +kernel
theorem dX5_place_7 : decode cX5_place 7 = .ok (.invokevirtual 104, 3) := by decide +kernel
theorem dX5_place_10 : decode cX5_place 10 = .ok (.ifCond .eq 31, 3) := by decide +kernel
theorem dX5_place_13 : decode cX5_place 13 = .ok (.iload_n 2, 1) := by decide +kernel
theorem dX5_place_14 : decode cX5_place 14 = .ok (.i2l, 1) := by decide +kernel
theorem dX5_place_15 : decode cX5_place 15 = .ok (.lconst 0, 1) := by decide +kernel
theorem dX5_place_16 : decode cX5_place 16 = .ok (.aload_n 0, 1) := by decide +kernel
theorem dX5_place_17 : decode cX5_place 17 = .ok (.getfield 73, 3) := by decide +kernel
theorem dX5_place_20 : decode cX5_place 20 = .ok (.i2l, 1) := by decide +kernel
theorem dX5_place_21 : decode cX5_place 21 = .ok (.lconst 1, 1) := by decide +kernel
theorem dX5_place_22 : decode cX5_place 22 = .ok (.lsub, 1) := by decide +kernel
theorem dX5_place_23 : decode cX5_place 23 = .ok (.invokestatic 69, 3) := by decide +kernel
theorem dX5_place_26 : decode cX5_place 26 = .ok (.ifCond .eq 15, 3) := by decide +kernel
theorem dX5_place_29 : decode cX5_place 29 = .ok (.iload_n 3, 1) := by decide +kernel
theorem dX5_place_30 : decode cX5_place 30 = .ok (.i2l, 1) := by decide +kernel
theorem dX5_place_31 : decode cX5_place 31 = .ok (.lconst 0, 1) := by decide +kernel
theorem dX5_place_32 : decode cX5_place 32 = .ok (.ldc2_w 108, 3) := by decide +kernel
theorem dX5_place_35 : decode cX5_place 35 = .ok (.invokestatic 69, 3) := by decide +kernel
theorem dX5_place_38 : decode cX5_place 38 = .ok (.ifCond .ne 6, 3) := by decide +kernel
theorem dX5_place_41 : decode cX5_place 41 = .ok (.ldc 99, 2) := by decide +kernel
theorem dX5_place_43 : decode cX5_place 43 = .ok (.ireturn, 1) := by decide +kernel
theorem dX5_place_44 : decode cX5_place 44 = .ok (.aload_n 0, 1) := by decide +kernel
theorem dX5_place_45 : decode cX5_place 45 = .ok (.iload_n 1, 1) := by decide +kernel
theorem dX5_place_46 : decode cX5_place 46 = .ok (.invokevirtual 110, 3) := by decide +kernel
theorem dX5_place_49 : decode cX5_place 49 = .ok (.aload_n 0, 1) := by decide +kernel
theorem dX5_place_50 : decode cX5_place 50 = .ok (.getfield 48, 3) := by decide +kernel
theorem dX5_place_53 : decode cX5_place 53 = .ok (.bipush 6, 2) := by decide +kernel
theorem dX5_place_55 : decode cX5_place 55 = .ok (.iload_n 2, 1) := by decide +kernel
theorem dX5_place_56 : decode cX5_place 56 = .ok (.imul, 1) := by decide +kernel
theorem dX5_place_57 : decode cX5_place 57 = .ok (.iload_n 3, 1) := by decide +kernel
theorem dX5_place_58 : decode cX5_place 58 = .ok (.iadd, 1) := by decide +kernel
theorem dX5_place_59 : decode cX5_place 59 = .ok (.iaload, 1) := by decide +kernel
theorem dX5_place_60 : decode cX5_place 60 = .ok (.ireturn, 1) := by decide +kernel
theorem dX5_isInner_0 : decode cX5_isInner 0 = .ok (.iconst 1, 1) := by decide +kernel
theorem dX5_isInner_1 : decode cX5_isInner 1 = .ok (.istore_n 3, 1) := by decide +kernel
theorem dX5_isInner_2 : decode cX5_isInner 2 = .ok (.iconst 0, 1) := by decide +kernel
theorem dX5_isInner_3 : decode cX5_isInner 3 = .ok (.istore 4, 2) := by decide +kernel
theorem dX5_isInner_5 : decode cX5_isInner 5 = .ok (.iload 4, 2) := by decide +kernel
theorem dX5_isInner_7 : decode cX5_isInner 7 = .ok (.iconst 3, 1) := by decide +kernel
theorem dX5_isInner_8 : decode cX5_isInner 8 = .ok (.if_icmp .ge 117, 3) := by decide +kernel
theorem dX5_isInner_11 : decode cX5_isInner 11 = .ok (.aload_n 0, 1) := by decide +kernel
theorem dX5_isInner_12 : decode cX5_isInner 12 = .ok (.getfield 48, 3) := by decide +kernel
theorem dX5_isInner_15 : decode cX5_isInner 15 = .ok (.bipush 6, 2) := by decide +kernel
theorem dX5_isInner_17 : decode cX5_isInner 17 = .ok (.iload_n 1, 1) := by decide +kernel
theorem dX5_isInner_18 : decode cX5_isInner 18 = .ok (.imul, 1) := by decide +kernel
theorem dX5_isInner_19 : decode cX5_isInner 19 = .ok (.iload 4, 2) := by decide +kernel
theorem dX5_isInner_21 : decode cX5_isInner 21 = .ok (.iadd, 1) := by decide +kernel
theorem dX5_isInner_22 : decode cX5_isInner 22 = .ok (.iaload, 1) := by decide +kernel
theorem dX5_isInner_23 : decode cX5_isInner 23 = .ok (.istore 5, 2) := by decide +kernel
theorem dX5_isInner_25 : decode cX5_isInner 25 = .ok (.aload_n 0, 1) := by decide +kernel
theorem dX5_isInner_26 : decode cX5_isInner 26 = .ok (.getfield 48, 3) := by decide +kernel
theorem dX5_isInner_29 : decode cX5_isInner 29 = .ok (.bipush 6, 2) := by decide +kernel
theorem dX5_isInner_31 : decode cX5_isInner 31 = .ok (.iload_n 1, 1) := by decide +kernel
theorem dX5_isInner_32 : decode cX5_isInner 32 = .ok (.imul, 1) := by decide +kernel
theorem dX5_isInner_33 : decode cX5_isInner 33 = .ok (.iconst 3, 1) := by decide +kernel
theorem dX5_isInner_34 : decode cX5_isInner 34 = .ok (.iadd, 1) := by decide +kernel
theorem dX5_isInner_35 : decode cX5_isInner 35 = .ok (.iload 4, 2) := by decide +kernel
theorem dX5_isInner_37 : decode cX5_isInner 37 = .ok (.iadd, 1) := by decide +kernel
theorem dX5_isInner_38 : decode cX5_isInner 38 = .ok (.iaload, 1) := by decide +kernel
theorem dX5_isInner_39 : decode cX5_isInner 39 = .ok (.istore 6, 2) := by decide +kernel
theorem dX5_isInner_41 : decode cX5_isInner 41 = .ok (.aload_n 0, 1) := by decide +kernel
theorem dX5_isInner_42 : decode cX5_isInner 42 = .ok (.getfield 48, 3) := by decide +kernel
theorem dX5_isInner_45 : decode cX5_isInner 45 = .ok (.bipush 6, 2) := by decide +kernel
theorem dX5_isInner_47 : decode cX5_isInner 47 = .ok (.iload_n 2, 1) := by decide +kernel
theorem dX5_isInner_48 : decode cX5_isInner 48 = .ok (.imul, 1) := by decide +kernel
theorem dX5_isInner_49 : decode cX5_isInner 49 = .ok (.iload 4, 2) := by decide +kernel
theorem dX5_isInner_51 : decode cX5_isInner 51 = .ok (.iadd, 1) := by decide +kernel
theorem dX5_isInner_52 : decode cX5_isInner 52 = .ok (.iaload, 1) := by decide +kernel
theorem dX5_isInner_53 : decode cX5_isInner 53 = .ok (.istore 7, 2) := by decide +kernel
theorem dX5_isInner_55 : decode cX5_isInner 55 = .ok (.aload_n 0, 1) := by decide +kernel
theorem dX5_isInner_56 : decode cX5_isInner 56 = .ok (.getfield 48, 3) := by decide +kernel
theorem dX5_isInner_59 : decode cX5_isInner 59 = .ok (.bipush 6, 2) := by decide +kernel
theorem dX5_isInner_61 : decode cX5_isInner 61 = .ok (.iload_n 2, 1) := by decide +kernel
theorem dX5_isInner_62 : decode cX5_isInner 62 = .ok (.imul, 1) := by decide +kernel
theorem dX5_isInner_63 : decode cX5_isInner 63 = .ok (.iconst 3, 1) := by decide +kernel
theorem dX5_isInner_64 : decode cX5_isInner 64 = .ok (.iadd, 1) := by decide +kernel
theorem dX5_isInner_65 : decode cX5_isInner 65 = .ok (.iload 4, 2) := by decide +kernel
theorem dX5_isInner_67 : decode cX5_isInner 67 = .ok (.iadd, 1) := by decide +kernel
theorem dX5_isInner_68 : decode cX5_isInner 68 = .ok (.iaload, 1) := by decide +kernel
theorem dX5_isInner_69 : decode cX5_isInner 69 = .ok (.istore 8, 2) := by decide +kernel
theorem dX5_isInner_71 : decode cX5_isInner 71 = .ok (.iload_n 3, 1) := by decide +kernel
theorem dX5_isInner_72 : decode cX5_isInner 72 = .ok (.ifCond .eq 45, 3) := by decide +kernel
theorem dX5_isInner_75 : decode cX5_isInner 75 = .ok (.iload 5, 2) := by decide +kernel
theorem dX5_isInner_77 : decode cX5_isInner 77 = .ok (.iload 6, 2) := by decide +kernel
theorem dX5_isInner_79 : decode cX5_isInner 79 = .ok (.if_icmp .ne 20, 3) := by decide +kernel
theorem dX5_isInner_82 : decode cX5_isInner 82 = .ok (.iload 7, 2) := by decide +kernel
theorem dX5_isInner_84 : decode cX5_isInner 84 = .ok (.iload 5, 2) := by decide +kernel
theorem dX5_isInner_86 : decode cX5_isInner 86 = .ok (.if_icmp .gt 31, 3) := by decide +kernel
theorem dX5_isInner_89 : decode cX5_isInner 89 = .ok (.iload 5, 2) := by decide +kernel
theorem dX5_isInner_91 : decode cX5_isInner 91 = .ok (.iload 8, 2) := by decide +kernel
theorem dX5_isInner_93 : decode cX5_isInner 93 = .ok (.if_icmp .gt 24, 3) := by decide +kernel
theorem dX5_isInner_96 : decode cX5_isInner 96 = .ok (.goto 17, 3) := by decide +kernel
theorem dX5_isInner_99 : decode cX5_isInner 99 = .ok (.iload 5, 2) := by decide +kernel
theorem dX5_isInner_101 : decode cX5_isInner 101 = .ok (.iload 8, 2) := by decide +kernel
theorem dX5_isInner_103 : decode cX5_isInner 103 = .ok (.if_icmp .ge 14, 3) := by decide +kernel
theorem dX5_isInner_106 : decode cX5_isInner 106 = .ok (.iload 7, 2) := by decide +kernel
theorem dX5_isInner_108 : decode cX5_isInner 108 = .ok (.iload 6, 2) := by decide +kernel
theorem dX5_isInner_110 : decode cX5_isInner 110 = .ok (.if_icmp .ge 7, 3) := by decide +kernel
theorem dX5_isInner_113 : decode cX5_isInner 113 = .ok (.iconst 1, 1) := by decide +kernel
theorem dX5_isInner_114 : decode cX5_isInner 114 = .ok (.goto 4, 3) := by decide +kernel
theorem dX5_isInner_117 : decode cX5_isInner 117 = .ok (.iconst 0, 1) := by decide +kernel
theorem dX5_isInner_118 : decode cX5_isInner 118 = .ok (.istore_n 3, 1) := by decide +kernel
theorem dX5_isInner_119 : decode cX5_isInner 119 = .ok (.iinc 4 1, 3) := by decide +kernel
theorem dX5_isInner_122 : decode cX5_isInner 122 = .ok (.goto (-117), 3) := by decide +kernel
theorem dX5_isInner_125 : decode cX5_isInner 125 = .ok (.iload_n 3, 1) := by decide +kernel
theorem dX5_isInner_126 : decode cX5_isInner 126 = .ok (.ireturn, 1) := by decide +kernel
theorem dX5_meets_0 : decode cX5_meets 0 = .ok (.aload_n 0, 1) := by decide +kernel
theorem dX5_meets_1 : decode cX5_meets 1 = .ok (.iconst 0, 1) := by decide +kernel
theorem dX5_meets_2 : decode cX5_meets 2 = .ok (.putfield 64, 3) := by decide +kernel
theorem dX5_meets_5 : decode cX5_meets 5 = .ok (.aload_n 0, 1) := by decide +kernel
theorem dX5_meets_6 : decode cX5_meets 6 = .ok (.iload_n 1, 1) := by decide +kernel
theorem dX5_meets_7 : decode cX5_meets 7 = .ok (.invokevirtual 104, 3) := by decide +kernel
theorem dX5_meets_10 : decode cX5_meets 10 = .ok (.ifCond .ne 5, 3) := by decide +kernel
theorem dX5_meets_13 : decode cX5_meets 13 = .ok (.iconst (-1), 1) := by decide +kernel
theorem dX5_meets_14 : decode cX5_meets 14 = .ok (.ireturn, 1) := by decide +kernel
theorem dX5_meets_15 : decode cX5_meets 15 = .ok (.aload_n 0, 1) := by decide +kernel
theorem dX5_meets_16 : decode cX5_meets 16 = .ok (.iload_n 1, 1) := by decide +kernel
theorem dX5_meets_17 : decode cX5_meets 17 = .ok (.invokevirtual 110, 3) := by decide +kernel
theorem dX5_meets_20 : decode cX5_meets 20 = .ok (.iconst 0, 1) := by decide +kernel
theorem dX5_meets_21 : decode cX5_meets 21 = .ok (.istore_n 2, 1) := by decide +kernel
theorem dX5_meets_22 : decode cX5_meets 22 = .ok (.iconst 0, 1) := by decide +kernel
theorem dX5_meets_23 : decode cX5_meets 23 = .ok (.istore_n 3, 1) := by decide +kernel
theorem dX5_meets_24 : decode cX5_meets 24 = .ok (.iload_n 3, 1) := by decide +kernel
theorem dX5_meets_25 : decode cX5_meets 25 = .ok (.aload_n 0, 1) := by decide +kernel
theorem dX5_meets_26 : decode cX5_meets 26 = .ok (.getfield 73, 3) := by decide +kernel
theorem dX5_meets_29 : decode cX5_meets 29 = .ok (.if_icmp .ge 68, 3) := by decide +kernel
theorem dX5_meets_32 : decode cX5_meets 32 = .ok (.iload_n 3, 1) := by decide +kernel
theorem dX5_meets_33 : decode cX5_meets 33 = .ok (.iconst 1, 1) := by decide +kernel
theorem dX5_meets_34 : decode cX5_meets 34 = .ok (.iadd, 1) := by decide +kernel
theorem dX5_meets_35 : decode cX5_meets 35 = .ok (.istore 4, 2) := by decide +kernel
theorem dX5_meets_37 : decode cX5_meets 37 = .ok (.iload 4, 2) := by decide +kernel
theorem dX5_meets_39 : decode cX5_meets 39 = .ok (.aload_n 0, 1) := by decide +kernel
theorem dX5_meets_40 : decode cX5_meets 40 = .ok (.getfield 73, 3) := by decide +kernel
theorem dX5_meets_43 : decode cX5_meets 43 = .ok (.if_icmp .ge 48, 3) := by decide +kernel
theorem dX5_meets_46 : decode cX5_meets 46 = .ok (.iload_n 2, 1) := by decide +kernel
theorem dX5_meets_47 : decode cX5_meets 47 = .ok (.aload_n 0, 1) := by decide +kernel
theorem dX5_meets_48 : decode cX5_meets 48 = .ok (.getfield 13, 3) := by decide +kernel
theorem dX5_meets_51 : decode cX5_meets 51 = .ok (.iload 4, 2) := by decide +kernel
theorem dX5_meets_53 : decode cX5_meets 53 = .ok (.iaload, 1) := by decide +kernel
theorem dX5_meets_54 : decode cX5_meets 54 = .ok (.iload_n 3, 1) := by decide +kernel
theorem dX5_meets_55 : decode cX5_meets 55 = .ok (.if_icmp .eq 27, 3) := by decide +kernel
theorem dX5_meets_58 : decode cX5_meets 58 = .ok (.aload_n 0, 1) := by decide +kernel
theorem dX5_meets_59 : decode cX5_meets 59 = .ok (.iload_n 3, 1) := by decide +kernel
theorem dX5_meets_60 : decode cX5_meets 60 = .ok (.iload 4, 2) := by decide +kernel
theorem dX5_meets_62 : decode cX5_meets 62 = .ok (.invokevirtual 114, 3) := by decide +kernel
theorem dX5_meets_65 : decode cX5_meets 65 = .ok (.ifCond .ne 13, 3) := by decide +kernel
theorem dX5_meets_68 : decode cX5_meets 68 = .ok (.aload_n 0, 1) := by decide +kernel
theorem dX5_meets_69 : decode cX5_meets 69 = .ok (.iload 4, 2) := by decide +kernel
theorem dX5_meets_71 : decode cX5_meets 71 = .ok (.iload_n 3, 1) := by decide +kernel
theorem dX5_meets_72 : decode cX5_meets 72 = .ok (.invokevirtual 114, 3) := by decide +kernel
theorem dX5_meets_75 : decode cX5_meets 75 = .ok (.ifCond .eq 7, 3) := by decide +kernel
theorem dX5_meets_78 : decode cX5_meets 78 = .ok (.iconst 1, 1) := by decide +kernel
theorem dX5_meets_79 : decode cX5_meets 79 = .ok (.goto 4, 3) := by decide +kernel
theorem dX5_meets_82 : decode cX5_meets 82 = .ok (.iconst 0, 1) := by decide +kernel
theorem dX5_meets_83 : decode cX5_meets 83 = .ok (.iadd, 1) := by decide +kernel
theorem dX5_meets_84 : decode cX5_meets 84 = .ok (.istore_n 2, 1) := by decide +kernel
theorem dX5_meets_85 : decode cX5_meets 85 = .ok (.iinc 4 1, 3) := by decide +kernel
theorem dX5_meets_88 : decode cX5_meets 88 = .ok (.goto (-51), 3) := by decide +kernel
theorem dX5_meets_91 : decode cX5_meets 91 = .ok (.iinc 3 1, 3) := by decide +kernel
theorem dX5_meets_94 : decode cX5_meets 94 = .ok (.goto (-70), 3) := by decide +kernel
theorem dX5_meets_97 : decode cX5_meets 97 = .ok (.iload_n 2, 1) := by decide +kernel
theorem dX5_meets_98 : decode cX5_meets 98 = .ok (.ireturn, 1) := by decide +kernel
theorem dX5_isBend_0 : decode cX5_isBend 0 = .ok (.iload_n 1, 1) := by decide +kernel
theorem dX5_isBend_1 : decode cX5_isBend 1 = .ok (.i2l, 1) := by decide +kernel
theorem dX5_isBend_2 : decode cX5_isBend 2 = .ok (.lconst 1, 1) := by decide +kernel
theorem dX5_isBend_3 : decode cX5_isBend 3 = .ok (.aload_n 0, 1) := by decide +kernel
theorem dX5_isBend_4 : decode cX5_isBend 4 = .ok (.getfield 73, 3) := by decide +kernel
theorem dX5_isBend_7 : decode cX5_isBend 7 = .ok (.i2l, 1) := by decide +kernel
theorem dX5_isBend_8 : decode cX5_isBend 8 = .ok (.lconst 1, 1) := by decide +kernel
theorem dX5_isBend_9 : decode cX5_isBend 9 = .ok (.lsub, 1) := by decide +kernel
theorem dX5_isBend_10 : decode cX5_isBend 10 = .ok (.invokestatic 69, 3) := by decide +kernel
theorem dX5_isBend_13 : decode cX5_isBend 13 = .ok (.ireturn, 1) := by decide +kernel
theorem dX5_behind_0 : decode cX5_behind 0 = .ok (.iconst 1, 1) := by decide +kernel
theorem dX5_behind_1 : decode cX5_behind 1 = .ok (.iload_n 1, 1) := by decide +kernel
theorem dX5_behind_2 : decode cX5_behind 2 = .ok (.ishl, 1) := by decide +kernel
theorem dX5_behind_3 : decode cX5_behind 3 = .ok (.istore_n 2, 1) := by decide +kernel
theorem dX5_behind_4 : decode cX5_behind 4 = .ok (.iload_n 1, 1) := by decide +kernel
theorem dX5_behind_5 : decode cX5_behind 5 = .ok (.iconst 1, 1) := by decide +kernel
theorem dX5_behind_6 : decode cX5_behind 6 = .ok (.iadd, 1) := by decide +kernel
theorem dX5_behind_7 : decode cX5_behind 7 = .ok (.istore_n 3, 1) := by decide +kernel
theorem dX5_behind_8 : decode cX5_behind 8 = .ok (.iload_n 3, 1) := by decide +kernel
theorem dX5_behind_9 : decode cX5_behind 9 = .ok (.aload_n 0, 1) := by decide +kernel
theorem dX5_behind_10 : decode cX5_behind 10 = .ok (.getfield 73, 3) := by decide +kernel
theorem dX5_behind_13 : decode cX5_behind 13 = .ok (.if_icmp .ge 24, 3) := by decide +kernel
theorem dX5_behind_16 : decode cX5_behind 16 = .ok (.iload_n 2, 1) := by decide +kernel
theorem dX5_behind_17 : decode cX5_behind 17 = .ok (.iload_n 2, 1) := by decide +kernel
theorem dX5_behind_18 : decode cX5_behind 18 = .ok (.aload_n 0, 1) := by decide +kernel
theorem dX5_behind_19 : decode cX5_behind 19 = .ok (.getfield 13, 3) := by decide +kernel
theorem dX5_behind_22 : decode cX5_behind 22 = .ok (.iload_n 3, 1) := by decide +kernel
theorem dX5_behind_23 : decode cX5_behind 23 = .ok (.iaload, 1) := by decide +kernel
theorem dX5_behind_24 : decode cX5_behind 24 = .ok (.ishr, 1) := by decide +kernel
theorem dX5_behind_25 : decode cX5_behind 25 = .ok (.iconst 1, 1) := by decide +kernel
theorem dX5_behind_26 : decode cX5_behind 26 = .ok (.iand, 1) := by decide +kernel
theorem dX5_behind_27 : decode cX5_behind 27 = .ok (.iload_n 3, 1) := by decide +kernel
theorem dX5_behind_28 : decode cX5_behind 28 = .ok (.ishl, 1) := by decide +kernel
theorem dX5_behind_29 : decode cX5_behind 29 = .ok (.ior, 1) := by decide +kernel
theorem dX5_behind_30 : decode cX5_behind 30 = .ok (.istore_n 2, 1) := by decide +kernel
theorem dX5_behind_31 : decode cX5_behind 31 = .ok (.iinc 3 1, 3) := by decide +kernel
theorem dX5_behind_34 : decode cX5_behind 34 = .ok (.goto (-26), 3) := by decide +kernel
theorem dX5_behind_37 : decode cX5_behind 37 = .ok (.iload_n 2, 1) := by decide +kernel
theorem dX5_behind_38 : decode cX5_behind 38 = .ok (.ireturn, 1) := by decide +kernel
theorem dX5_many_0 : decode cX5_many 0 = .ok (.iconst 0, 1) := by decide +kernel
theorem dX5_many_1 : decode cX5_many 1 = .ok (.istore_n 1, 1) := by decide +kernel
theorem dX5_many_2 : decode cX5_many 2 = .ok (.iconst 0, 1) := by decide +kernel
theorem dX5_many_3 : decode cX5_many 3 = .ok (.istore_n 2, 1) := by decide +kernel
theorem dX5_many_4 : decode cX5_many 4 = .ok (.iload_n 2, 1) := by decide +kernel
theorem dX5_many_5 : decode cX5_many 5 = .ok (.bipush 13, 2) := by decide +kernel
theorem dX5_many_7 : decode cX5_many 7 = .ok (.if_icmp .ge 17, 3) := by decide +kernel
theorem dX5_many_10 : decode cX5_many 10 = .ok (.iload_n 1, 1) := by decide +kernel
theorem dX5_many_11 : decode cX5_many 11 = .ok (.iload_n 0, 1) := by decide +kernel
theorem dX5_many_12 : decode cX5_many 12 = .ok (.iload_n 2, 1) := by decide +kernel
theorem dX5_many_13 : decode cX5_many 13 = .ok (.ishr, 1) := by decide +kernel
theorem dX5_many_14 : decode cX5_many 14 = .ok (.iconst 1, 1) := by decide +kernel
theorem dX5_many_15 : decode cX5_many 15 = .ok (.iand, 1) := by decide +kernel
theorem dX5_many_16 : decode cX5_many 16 = .ok (.iadd, 1) := by decide +kernel
theorem dX5_many_17 : decode cX5_many 17 = .ok (.istore_n 1, 1) := by decide +kernel
theorem dX5_many_18 : decode cX5_many 18 = .ok (.iinc 2 1, 3) := by decide +kernel
theorem dX5_many_21 : decode cX5_many 21 = .ok (.goto (-17), 3) := by decide +kernel
theorem dX5_many_24 : decode cX5_many 24 = .ok (.iload_n 1, 1) := by decide +kernel
theorem dX5_many_25 : decode cX5_many 25 = .ok (.ireturn, 1) := by decide +kernel
theorem dX5_moving_0 : decode cX5_moving 0 = .ok (.aload_n 0, 1) := by decide +kernel
theorem dX5_moving_1 : decode cX5_moving 1 = .ok (.iload_n 1, 1) := by decide +kernel
theorem dX5_moving_2 : decode cX5_moving 2 = .ok (.invokevirtual 117, 3) := by decide +kernel
theorem dX5_moving_5 : decode cX5_moving 5 = .ok (.istore_n 2, 1) := by decide +kernel
theorem dX5_moving_6 : decode cX5_moving 6 = .ok (.iconst 1, 1) := by decide +kernel
theorem dX5_moving_7 : decode cX5_moving 7 = .ok (.aload_n 0, 1) := by decide +kernel
theorem dX5_moving_8 : decode cX5_moving 8 = .ok (.getfield 73, 3) := by decide +kernel
theorem dX5_moving_11 : decode cX5_moving 11 = .ok (.ishl, 1) := by decide +kernel
theorem dX5_moving_12 : decode cX5_moving 12 = .ok (.iconst 1, 1) := by decide +kernel
theorem dX5_moving_13 : decode cX5_moving 13 = .ok (.isub, 1) := by decide +kernel
theorem dX5_moving_14 : decode cX5_moving 14 = .ok (.istore_n 3, 1) := by decide +kernel
theorem dX5_moving_15 : decode cX5_moving 15 = .ok (.iload_n 2, 1) := by decide +kernel
theorem dX5_moving_16 : decode cX5_moving 16 = .ok (.invokestatic 121, 3) := by decide +kernel
theorem dX5_moving_19 : decode cX5_moving 19 = .ok (.aload_n 0, 1) := by decide +kernel
theorem dX5_moving_20 : decode cX5_moving 20 = .ok (.getfield 73, 3) := by decide +kernel
theorem dX5_moving_23 : decode cX5_moving 23 = .ok (.iload_n 2, 1) := by decide +kernel
theorem dX5_moving_24 : decode cX5_moving 24 = .ok (.invokestatic 121, 3) := by decide +kernel
theorem dX5_moving_27 : decode cX5_moving 27 = .ok (.isub, 1) := by decide +kernel
theorem dX5_moving_28 : decode cX5_moving 28 = .ok (.if_icmp .gt 7, 3) := by decide +kernel
theorem dX5_moving_31 : decode cX5_moving 31 = .ok (.iload_n 2, 1) := by decide +kernel
theorem dX5_moving_32 : decode cX5_moving 32 = .ok (.goto 8, 3) := by decide +kernel
theorem dX5_moving_35 : decode cX5_moving 35 = .ok (.iload_n 3, 1) := by decide +kernel
theorem dX5_moving_36 : decode cX5_moving 36 = .ok (.iload_n 2, 1) := by decide +kernel
theorem dX5_moving_37 : decode cX5_moving 37 = .ok (.iconst (-1), 1) := by decide +kernel
theorem dX5_moving_38 : decode cX5_moving 38 = .ok (.ixor, 1) := by decide +kernel
theorem dX5_moving_39 : decode cX5_moving 39 = .ok (.iand, 1) := by decide +kernel
theorem dX5_moving_40 : decode cX5_moving 40 = .ok (.ireturn, 1) := by decide +kernel
theorem dX5_moves_0 : decode cX5_moves 0 = .ok (.aload_n 0, 1) := by decide +kernel
theorem dX5_moves_1 : decode cX5_moves 1 = .ok (.iconst 0, 1) := by decide +kernel
theorem dX5_moves_2 : decode cX5_moves 2 = .ok (.putfield 64, 3) := by decide +kernel
theorem dX5_moves_5 : decode cX5_moves 5 = .ok (.aload_n 0, 1) := by decide +kernel
theorem dX5_moves_6 : decode cX5_moves 6 = .ok (.iload_n 1, 1) := by decide +kernel
theorem dX5_moves_7 : decode cX5_moves 7 = .ok (.invokevirtual 124, 3) := by decide +kernel
theorem dX5_moves_10 : decode cX5_moves 10 = .ok (.ifCond .eq 11, 3) := by decide +kernel
theorem dX5_moves_13 : decode cX5_moves 13 = .ok (.aload_n 0, 1) := by decide +kernel
theorem dX5_moves_14 : decode cX5_moves 14 = .ok (.iload_n 1, 1) := by decide +kernel
theorem dX5_moves_15 : decode cX5_moves 15 = .ok (.invokevirtual 127, 3) := by decide +kernel
theorem dX5_moves_18 : decode cX5_moves 18 = .ok (.goto 4, 3) := by decide +kernel
theorem dX5_moves_21 : decode cX5_moves 21 = .ok (.iconst (-1), 1) := by decide +kernel
theorem dX5_moves_22 : decode cX5_moves 22 = .ok (.ireturn, 1) := by decide +kernel
theorem dX5_square_0 : decode cX5_square 0 = .ok (.lload_n 0, 1) := by decide +kernel
theorem dX5_square_1 : decode cX5_square 1 = .ok (.lload_n 0, 1) := by decide +kernel
theorem dX5_square_2 : decode cX5_square 2 = .ok (.lmul, 1) := by decide +kernel
theorem dX5_square_3 : decode cX5_square 3 = .ok (.lreturn, 1) := by decide +kernel
theorem dX5_along_0 : decode cX5_along 0 = .ok (.iconst 0, 1) := by decide +kernel
theorem dX5_along_1 : decode cX5_along 1 = .ok (.istore 7, 2) := by decide +kernel
theorem dX5_along_3 : decode cX5_along 3 = .ok (.iconst 0, 1) := by decide +kernel
theorem dX5_along_4 : decode cX5_along 4 = .ok (.istore 8, 2) := by decide +kernel
theorem dX5_along_6 : decode cX5_along 6 = .ok (.iconst 0, 1) := by decide +kernel
theorem dX5_along_7 : decode cX5_along 7 = .ok (.istore 9, 2) := by decide +kernel
theorem dX5_along_9 : decode cX5_along 9 = .ok (.iload 9, 2) := by decide +kernel
theorem dX5_along_11 : decode cX5_along 11 = .ok (.iconst 3, 1) := by decide +kernel
theorem dX5_along_12 : decode cX5_along 12 = .ok (.if_icmp .ge 93, 3) := by decide +kernel
theorem dX5_along_15 : decode cX5_along 15 = .ok (.iload 4, 2) := by decide +kernel
theorem dX5_along_17 : decode cX5_along 17 = .ok (.aload_n 2, 1) := by decide +kernel
theorem dX5_along_18 : decode cX5_along 18 = .ok (.iload_n 3, 1) := by decide +kernel
theorem dX5_along_19 : decode cX5_along 19 = .ok (.iload 9, 2) := by decide +kernel
theorem dX5_along_21 : decode cX5_along 21 = .ok (.iadd, 1) := by decide +kernel
theorem dX5_along_22 : decode cX5_along 22 = .ok (.iaload, 1) := by decide +kernel
theorem dX5_along_23 : decode cX5_along 23 = .ok (.imul, 1) := by decide +kernel
theorem dX5_along_24 : decode cX5_along 24 = .ok (.istore 10, 2) := by decide +kernel
theorem dX5_along_26 : decode cX5_along 26 = .ok (.iload 10, 2) := by decide +kernel
theorem dX5_along_28 : decode cX5_along 28 = .ok (.ifCond .eq 71, 3) := by decide +kernel
theorem dX5_along_31 : decode cX5_along 31 = .ok (.iload 10, 2) := by decide +kernel
theorem dX5_along_33 : decode cX5_along 33 = .ok (.aload_n 0, 1) := by decide +kernel
theorem dX5_along_34 : decode cX5_along 34 = .ok (.getfield 48, 3) := by decide +kernel
theorem dX5_along_37 : decode cX5_along 37 = .ok (.bipush 6, 2) := by decide +kernel
theorem dX5_along_39 : decode cX5_along 39 = .ok (.iload_n 1, 1) := by decide +kernel
theorem dX5_along_40 : decode cX5_along 40 = .ok (.imul, 1) := by decide +kernel
theorem dX5_along_41 : decode cX5_along 41 = .ok (.iload 9, 2) := by decide +kernel
theorem dX5_along_43 : decode cX5_along 43 = .ok (.iadd, 1) := by decide +kernel
theorem dX5_along_44 : decode cX5_along 44 = .ok (.iaload, 1) := by decide +kernel
theorem dX5_along_45 : decode cX5_along 45 = .ok (.imul, 1) := by decide +kernel
theorem dX5_along_46 : decode cX5_along 46 = .ok (.istore 11, 2) := by decide +kernel
theorem dX5_along_48 : decode cX5_along 48 = .ok (.iload 10, 2) := by decide +kernel
theorem dX5_along_50 : decode cX5_along 50 = .ok (.aload_n 0, 1) := by decide +kernel
theorem dX5_along_51 : decode cX5_along 51 = .ok (.getfield 48, 3) := by decide +kernel
theorem dX5_along_54 : decode cX5_along 54 = .ok (.bipush 6, 2) := by decide +kernel
theorem dX5_along_56 : decode cX5_along 56 = .ok (.iload_n 1, 1) := by decide +kernel
theorem dX5_along_57 : decode cX5_along 57 = .ok (.imul, 1) := by decide +kernel
theorem dX5_along_58 : decode cX5_along 58 = .ok (.iconst 3, 1) := by decide +kernel
theorem dX5_along_59 : decode cX5_along 59 = .ok (.iadd, 1) := by decide +kernel
theorem dX5_along_60 : decode cX5_along 60 = .ok (.iload 9, 2) := by decide +kernel
theorem dX5_along_62 : decode cX5_along 62 = .ok (.iadd, 1) := by decide +kernel
theorem dX5_along_63 : decode cX5_along 63 = .ok (.iaload, 1) := by decide +kernel
theorem dX5_along_64 : decode cX5_along 64 = .ok (.imul, 1) := by decide +kernel
theorem dX5_along_65 : decode cX5_along 65 = .ok (.istore 12, 2) := by decide +kernel
theorem dX5_along_67 : decode cX5_along 67 = .ok (.iload 11, 2) := by decide +kernel
theorem dX5_along_69 : decode cX5_along 69 = .ok (.iload 12, 2) := by decide +kernel
theorem dX5_along_71 : decode cX5_along 71 = .ok (.if_icmp .ge 8, 3) := by decide +kernel
theorem dX5_along_74 : decode cX5_along 74 = .ok (.iload 11, 2) := by decide +kernel
theorem dX5_along_76 : decode cX5_along 76 = .ok (.goto 5, 3) := by decide +kernel
theorem dX5_along_79 : decode cX5_along 79 = .ok (.iload 12, 2) := by decide +kernel
theorem dX5_along_81 : decode cX5_along 81 = .ok (.istore 7, 2) := by decide +kernel
theorem dX5_along_83 : decode cX5_along 83 = .ok (.iload 11, 2) := by decide +kernel
theorem dX5_along_85 : decode cX5_along 85 = .ok (.iload 12, 2) := by decide +kernel
theorem dX5_along_87 : decode cX5_along 87 = .ok (.if_icmp .ge 8, 3) := by decide +kernel
theorem dX5_along_90 : decode cX5_along 90 = .ok (.iload 12, 2) := by decide +kernel
theorem dX5_along_92 : decode cX5_along 92 = .ok (.goto 5, 3) := by decide +kernel
theorem dX5_along_95 : decode cX5_along 95 = .ok (.iload 11, 2) := by decide +kernel
theorem dX5_along_97 : decode cX5_along 97 = .ok (.istore 8, 2) := by decide +kernel
theorem dX5_along_99 : decode cX5_along 99 = .ok (.iinc 9 1, 3) := by decide +kernel
theorem dX5_along_102 : decode cX5_along 102 = .ok (.goto (-93), 3) := by decide +kernel
theorem dX5_along_105 : decode cX5_along 105 = .ok (.iload 5, 2) := by decide +kernel
theorem dX5_along_107 : decode cX5_along 107 = .ok (.ifCond .eq 8, 3) := by decide +kernel
theorem dX5_along_110 : decode cX5_along 110 = .ok (.iload 8, 2) := by decide +kernel
theorem dX5_along_112 : decode cX5_along 112 = .ok (.goto 5, 3) := by decide +kernel
theorem dX5_along_115 : decode cX5_along 115 = .ok (.iload 7, 2) := by decide +kernel
theorem dX5_along_117 : decode cX5_along 117 = .ok (.iload 6, 2) := by decide +kernel
theorem dX5_along_119 : decode cX5_along 119 = .ok (.isub, 1) := by decide +kernel
theorem dX5_along_120 : decode cX5_along 120 = .ok (.ireturn, 1) := by decide +kernel
theorem dX5_lineAt_0 : decode cX5_lineAt 0 = .ok (.aload_n 0, 1) := by decide +kernel
theorem dX5_lineAt_1 : decode cX5_lineAt 1 = .ok (.getfield 13, 3) := by decide +kernel
theorem dX5_lineAt_4 : decode cX5_lineAt 4 = .ok (.iload_n 1, 1) := by decide +kernel
theorem dX5_lineAt_5 : decode cX5_lineAt 5 = .ok (.iaload, 1) := by decide +kernel
theorem dX5_lineAt_6 : decode cX5_lineAt 6 = .ok (.istore 5, 2) := by decide +kernel
theorem dX5_lineAt_8 : decode cX5_lineAt 8 = .ok (.aload_n 0, 1) := by decide +kernel
theorem dX5_lineAt_9 : decode cX5_lineAt 9 = .ok (.getfield 17, 3) := by decide +kernel
theorem dX5_lineAt_12 : decode cX5_lineAt 12 = .ok (.iload_n 1, 1) := by decide +kernel
theorem dX5_lineAt_13 : decode cX5_lineAt 13 = .ok (.iaload, 1) := by decide +kernel
theorem dX5_lineAt_14 : decode cX5_lineAt 14 = .ok (.iconst 2, 1) := by decide +kernel
theorem dX5_lineAt_15 : decode cX5_lineAt 15 = .ok (.irem, 1) := by decide +kernel
theorem dX5_lineAt_16 : decode cX5_lineAt 16 = .ok (.ifCond .ne 7, 3) := by decide +kernel
theorem dX5_lineAt_19 : decode cX5_lineAt 19 = .ok (.iconst 1, 1) := by decide +kernel
theorem dX5_lineAt_20 : decode cX5_lineAt 20 = .ok (.goto 4, 3) := by decide +kernel
theorem dX5_lineAt_23 : decode cX5_lineAt 23 = .ok (.iconst 0, 1) := by decide +kernel
theorem dX5_lineAt_24 : decode cX5_lineAt 24 = .ok (.istore 6, 2) := by decide +kernel
theorem dX5_lineAt_26 : decode cX5_lineAt 26 = .ok (.iload 6, 2) := by decide +kernel
theorem dX5_lineAt_28 : decode cX5_lineAt 28 = .ok (.ifCond .eq 30, 3) := by decide +kernel
theorem dX5_lineAt_31 : decode cX5_lineAt 31 = .ok (.aload_n 0, 1) := by decide +kernel
theorem dX5_lineAt_32 : decode cX5_lineAt 32 = .ok (.getfield 24, 3) := by decide +kernel
theorem dX5_lineAt_35 : decode cX5_lineAt 35 = .ok (.iconst 4, 1) := by decide +kernel
theorem dX5_lineAt_36 : decode cX5_lineAt 36 = .ok (.iload 5, 2) := by decide +kernel
theorem dX5_lineAt_38 : decode cX5_lineAt 38 = .ok (.imul, 1) := by decide +kernel
theorem dX5_lineAt_39 : decode cX5_lineAt 39 = .ok (.aload_n 0, 1) := by decide +kernel
theorem dX5_lineAt_40 : decode cX5_lineAt 40 = .ok (.getfield 17, 3) := by decide +kernel
theorem dX5_lineAt_43 : decode cX5_lineAt 43 = .ok (.iload_n 1, 1) := by decide +kernel
theorem dX5_lineAt_44 : decode cX5_lineAt 44 = .ok (.iaload, 1) := by decide +kernel
theorem dX5_lineAt_45 : decode cX5_lineAt 45 = .ok (.ifCond .ne 7, 3) := by decide +kernel
theorem dX5_lineAt_48 : decode cX5_lineAt 48 = .ok (.iconst 2, 1) := by decide +kernel
theorem dX5_lineAt_49 : decode cX5_lineAt 49 = .ok (.goto 4, 3) := by decide +kernel
theorem dX5_lineAt_52 : decode cX5_lineAt 52 = .ok (.iconst 0, 1) := by decide +kernel
theorem dX5_lineAt_53 : decode cX5_lineAt 53 = .ok (.iadd, 1) := by decide +kernel
theorem dX5_lineAt_54 : decode cX5_lineAt 54 = .ok (.iaload, 1) := by decide +kernel
theorem dX5_lineAt_55 : decode cX5_lineAt 55 = .ok (.goto 4, 3) := by decide +kernel
theorem dX5_lineAt_58 : decode cX5_lineAt 58 = .ok (.iconst 0, 1) := by decide +kernel
theorem dX5_lineAt_59 : decode cX5_lineAt 59 = .ok (.istore 7, 2) := by decide +kernel
theorem dX5_lineAt_61 : decode cX5_lineAt 61 = .ok (.iload 6, 2) := by decide +kernel
theorem dX5_lineAt_63 : decode cX5_lineAt 63 = .ok (.ifCond .eq 7, 3) := by decide +kernel
theorem dX5_lineAt_66 : decode cX5_lineAt 66 = .ok (.iconst 0, 1) := by decide +kernel
theorem dX5_lineAt_67 : decode cX5_lineAt 67 = .ok (.goto 28, 3) := by decide +kernel
theorem dX5_lineAt_70 : decode cX5_lineAt 70 = .ok (.aload_n 0, 1) := by decide +kernel
theorem dX5_lineAt_71 : decode cX5_lineAt 71 = .ok (.getfield 24, 3) := by decide +kernel
theorem dX5_lineAt_74 : decode cX5_lineAt 74 = .ok (.iconst 4, 1) := by decide +kernel
theorem dX5_lineAt_75 : decode cX5_lineAt 75 = .ok (.iload 5, 2) := by decide +kernel
theorem dX5_lineAt_77 : decode cX5_lineAt 77 = .ok (.imul, 1) := by decide +kernel
theorem dX5_lineAt_78 : decode cX5_lineAt 78 = .ok (.aload_n 0, 1) := by decide +kernel
theorem dX5_lineAt_79 : decode cX5_lineAt 79 = .ok (.getfield 17, 3) := by decide +kernel
theorem dX5_lineAt_82 : decode cX5_lineAt 82 = .ok (.iload_n 1, 1) := by decide +kernel
theorem dX5_lineAt_83 : decode cX5_lineAt 83 = .ok (.iaload, 1) := by decide +kernel
theorem dX5_lineAt_84 : decode cX5_lineAt 84 = .ok (.iconst 1, 1) := by decide +kernel
theorem dX5_lineAt_85 : decode cX5_lineAt 85 = .ok (.if_icmp .ne 7, 3) := by decide +kernel
theorem dX5_lineAt_88 : decode cX5_lineAt 88 = .ok (.iconst 3, 1) := by decide +kernel
theorem dX5_lineAt_89 : decode cX5_lineAt 89 = .ok (.goto 4, 3) := by decide +kernel
theorem dX5_lineAt_92 : decode cX5_lineAt 92 = .ok (.iconst 1, 1) := by decide +kernel
theorem dX5_lineAt_93 : decode cX5_lineAt 93 = .ok (.iadd, 1) := by decide +kernel
theorem dX5_lineAt_94 : decode cX5_lineAt 94 = .ok (.iaload, 1) := by decide +kernel
theorem dX5_lineAt_95 : decode cX5_lineAt 95 = .ok (.istore 8, 2) := by decide +kernel
theorem dX5_lineAt_97 : decode cX5_lineAt 97 = .ok (.iconst 0, 1) := by decide +kernel
theorem dX5_lineAt_98 : decode cX5_lineAt 98 = .ok (.istore 9, 2) := by decide +kernel
theorem dX5_lineAt_100 : decode cX5_lineAt 100 = .ok (.iconst 0, 1) := by decide +kernel
theorem dX5_lineAt_101 : decode cX5_lineAt 101 = .ok (.istore 10, 2) := by decide +kernel
theorem dX5_lineAt_103 : decode cX5_lineAt 103 = .ok (.iload 10, 2) := by decide +kernel
theorem dX5_lineAt_105 : decode cX5_lineAt 105 = .ok (.iconst 3, 1) := by decide +kernel
theorem dX5_lineAt_106 : decode cX5_lineAt 106 = .ok (.if_icmp .ge 68, 3) := by decide +kernel
theorem dX5_lineAt_109 : decode cX5_lineAt 109 = .ok (.iload 9, 2) := by decide +kernel
theorem dX5_lineAt_111 : decode cX5_lineAt 111 = .ok (.iload 4, 2) := by decide +kernel
theorem dX5_lineAt_113 : decode cX5_lineAt 113 = .ok (.aload_n 2, 1) := by decide +kernel
theorem dX5_lineAt_114 : decode cX5_lineAt 114 = .ok (.iload_n 3, 1) := by decide +kernel
theorem dX5_lineAt_115 : decode cX5_lineAt 115 = .ok (.iload 10, 2) := by decide +kernel
theorem dX5_lineAt_117 : decode cX5_lineAt 117 = .ok (.iadd, 1) := by decide +kernel
theorem dX5_lineAt_118 : decode cX5_lineAt 118 = .ok (.iaload, 1) := by decide +kernel
theorem dX5_lineAt_119 : decode cX5_lineAt 119 = .ok (.imul, 1) := by decide +kernel
theorem dX5_lineAt_120 : decode cX5_lineAt 120 = .ok (.aload_n 0, 1) := by decide +kernel
theorem dX5_lineAt_121 : decode cX5_lineAt 121 = .ok (.getfield 36, 3) := by decide +kernel
theorem dX5_lineAt_124 : decode cX5_lineAt 124 = .ok (.iconst 3, 1) := by decide +kernel
theorem dX5_lineAt_125 : decode cX5_lineAt 125 = .ok (.iload 5, 2) := by decide +kernel
theorem dX5_lineAt_127 : decode cX5_lineAt 127 = .ok (.imul, 1) := by decide +kernel
theorem dX5_lineAt_128 : decode cX5_lineAt 128 = .ok (.iload 10, 2) := by decide +kernel
theorem dX5_lineAt_130 : decode cX5_lineAt 130 = .ok (.iadd, 1) := by decide +kernel
theorem dX5_lineAt_131 : decode cX5_lineAt 131 = .ok (.iaload, 1) := by decide +kernel
theorem dX5_lineAt_132 : decode cX5_lineAt 132 = .ok (.iload 7, 2) := by decide +kernel
theorem dX5_lineAt_134 : decode cX5_lineAt 134 = .ok (.aload_n 0, 1) := by decide +kernel
theorem dX5_lineAt_135 : decode cX5_lineAt 135 = .ok (.getfield 39, 3) := by decide +kernel
theorem dX5_lineAt_138 : decode cX5_lineAt 138 = .ok (.iconst 3, 1) := by decide +kernel
theorem dX5_lineAt_139 : decode cX5_lineAt 139 = .ok (.iload 5, 2) := by decide +kernel
theorem dX5_lineAt_141 : decode cX5_lineAt 141 = .ok (.imul, 1) := by decide +kernel
theorem dX5_lineAt_142 : decode cX5_lineAt 142 = .ok (.iload 10, 2) := by decide +kernel
theorem dX5_lineAt_144 : decode cX5_lineAt 144 = .ok (.iadd, 1) := by decide +kernel
theorem dX5_lineAt_145 : decode cX5_lineAt 145 = .ok (.iaload, 1) := by decide +kernel
theorem dX5_lineAt_146 : decode cX5_lineAt 146 = .ok (.imul, 1) := by decide +kernel
theorem dX5_lineAt_147 : decode cX5_lineAt 147 = .ok (.iadd, 1) := by decide +kernel
theorem dX5_lineAt_148 : decode cX5_lineAt 148 = .ok (.iload 8, 2) := by decide +kernel
theorem dX5_lineAt_150 : decode cX5_lineAt 150 = .ok (.aload_n 0, 1) := by decide +kernel
theorem dX5_lineAt_151 : decode cX5_lineAt 151 = .ok (.getfield 42, 3) := by decide +kernel
theorem dX5_lineAt_154 : decode cX5_lineAt 154 = .ok (.iconst 3, 1) := by decide +kernel
theorem dX5_lineAt_155 : decode cX5_lineAt 155 = .ok (.iload 5, 2) := by decide +kernel
theorem dX5_lineAt_157 : decode cX5_lineAt 157 = .ok (.imul, 1) := by decide +kernel
theorem dX5_lineAt_158 : decode cX5_lineAt 158 = .ok (.iload 10, 2) := by decide +kernel
theorem dX5_lineAt_160 : decode cX5_lineAt 160 = .ok (.iadd, 1) := by decide +kernel
theorem dX5_lineAt_161 : decode cX5_lineAt 161 = .ok (.iaload, 1) := by decide +kernel
theorem dX5_lineAt_162 : decode cX5_lineAt 162 = .ok (.imul, 1) := by decide +kernel
theorem dX5_lineAt_163 : decode cX5_lineAt 163 = .ok (.iadd, 1) := by decide +kernel
theorem dX5_lineAt_164 : decode cX5_lineAt 164 = .ok (.imul, 1) := by decide +kernel
theorem dX5_lineAt_165 : decode cX5_lineAt 165 = .ok (.iadd, 1) := by decide +kernel
theorem dX5_lineAt_166 : decode cX5_lineAt 166 = .ok (.istore 9, 2) := by decide +kernel
theorem dX5_lineAt_168 : decode cX5_lineAt 168 = .ok (.iinc 10 1, 3) := by decide +kernel
theorem dX5_lineAt_171 : decode cX5_lineAt 171 = .ok (.goto (-68), 3) := by decide +kernel
theorem dX5_lineAt_174 : decode cX5_lineAt 174 = .ok (.iload 9, 2) := by decide +kernel
theorem dX5_lineAt_176 : decode cX5_lineAt 176 = .ok (.ireturn, 1) := by decide +kernel
theorem dX5_findPlace_0 : decode cX5_findPlace 0 = .ok (.iconst 3, 1) := by decide +kernel
theorem dX5_findPlace_1 : decode cX5_findPlace 1 = .ok (.aload_n 0, 1) := by decide +kernel
theorem dX5_findPlace_2 : decode cX5_findPlace 2 = .ok (.getfield 13, 3) := by decide +kernel
theorem dX5_findPlace_5 : decode cX5_findPlace 5 = .ok (.iload_n 1, 1) := by decide +kernel
theorem dX5_findPlace_6 : decode cX5_findPlace 6 = .ok (.iaload, 1) := by decide +kernel
theorem dX5_findPlace_7 : decode cX5_findPlace 7 = .ok (.imul, 1) := by decide +kernel
theorem dX5_findPlace_8 : decode cX5_findPlace 8 = .ok (.istore_n 3, 1) := by decide +kernel
theorem dX5_findPlace_9 : decode cX5_findPlace 9 = .ok (.aload_n 0, 1) := by decide +kernel
theorem dX5_findPlace_10 : decode cX5_findPlace 10 = .ok (.getfield 17, 3) := by decide +kernel
theorem dX5_findPlace_13 : decode cX5_findPlace 13 = .ok (.iload_n 1, 1) := by decide +kernel
theorem dX5_findPlace_14 : decode cX5_findPlace 14 = .ok (.iaload, 1) := by decide +kernel
theorem dX5_findPlace_15 : decode cX5_findPlace 15 = .ok (.iconst 2, 1) := by decide +kernel
theorem dX5_findPlace_16 : decode cX5_findPlace 16 = .ok (.if_icmp .ge 7, 3) := by decide +kernel
theorem dX5_findPlace_19 : decode cX5_findPlace 19 = .ok (.iconst 1, 1) := by decide +kernel
theorem dX5_findPlace_20 : decode cX5_findPlace 20 = .ok (.goto 4, 3) := by decide +kernel
theorem dX5_findPlace_23 : decode cX5_findPlace 23 = .ok (.iconst (-1), 1) := by decide +kernel
theorem dX5_findPlace_24 : decode cX5_findPlace 24 = .ok (.istore 4, 2) := by decide +kernel
theorem dX5_findPlace_26 : decode cX5_findPlace 26 = .ok (.aload_n 0, 1) := by decide +kernel
theorem dX5_findPlace_27 : decode cX5_findPlace 27 = .ok (.getfield 20, 3) := by decide +kernel
theorem dX5_findPlace_30 : decode cX5_findPlace 30 = .ok (.iload_n 1, 1) := by decide +kernel
theorem dX5_findPlace_31 : decode cX5_findPlace 31 = .ok (.baload, 1) := by decide +kernel
theorem dX5_findPlace_32 : decode cX5_findPlace 32 = .ok (.ifCond .eq 7, 3) := by decide +kernel
theorem dX5_findPlace_35 : decode cX5_findPlace 35 = .ok (.iconst 1, 1) := by decide +kernel
theorem dX5_findPlace_36 : decode cX5_findPlace 36 = .ok (.goto 4, 3) := by decide +kernel
theorem dX5_findPlace_39 : decode cX5_findPlace 39 = .ok (.iconst (-1), 1) := by decide +kernel
theorem dX5_findPlace_40 : decode cX5_findPlace 40 = .ok (.istore 5, 2) := by decide +kernel
theorem dX5_findPlace_42 : decode cX5_findPlace 42 = .ok (.aload_n 0, 1) := by decide +kernel
theorem dX5_findPlace_43 : decode cX5_findPlace 43 = .ok (.getfield 17, 3) := by decide +kernel
theorem dX5_findPlace_46 : decode cX5_findPlace 46 = .ok (.iload_n 1, 1) := by decide +kernel
theorem dX5_findPlace_47 : decode cX5_findPlace 47 = .ok (.iaload, 1) := by decide +kernel
theorem dX5_findPlace_48 : decode cX5_findPlace 48 = .ok (.iconst 2, 1) := by decide +kernel
theorem dX5_findPlace_49 : decode cX5_findPlace 49 = .ok (.irem, 1) := by decide +kernel
theorem dX5_findPlace_50 : decode cX5_findPlace 50 = .ok (.ifCond .ne 58, 3) := by decide +kernel
theorem dX5_findPlace_53 : decode cX5_findPlace 53 = .ok (.aload_n 0, 1) := by decide +kernel
theorem dX5_findPlace_54 : decode cX5_findPlace 54 = .ok (.iload_n 1, 1) := by decide +kernel
theorem dX5_findPlace_55 : decode cX5_findPlace 55 = .ok (.aload_n 0, 1) := by decide +kernel
theorem dX5_findPlace_56 : decode cX5_findPlace 56 = .ok (.getfield 39, 3) := by decide +kernel
theorem dX5_findPlace_59 : decode cX5_findPlace 59 = .ok (.iload_n 3, 1) := by decide +kernel
theorem dX5_findPlace_60 : decode cX5_findPlace 60 = .ok (.iload 4, 2) := by decide +kernel
theorem dX5_findPlace_62 : decode cX5_findPlace 62 = .ok (.invokevirtual 130, 3) := by decide +kernel
theorem dX5_findPlace_65 : decode cX5_findPlace 65 = .ok (.istore 6, 2) := by decide +kernel
theorem dX5_findPlace_67 : decode cX5_findPlace 67 = .ok (.aload_n 0, 1) := by decide +kernel
theorem dX5_findPlace_68 : decode cX5_findPlace 68 = .ok (.aload_n 0, 1) := by decide +kernel
theorem dX5_findPlace_69 : decode cX5_findPlace 69 = .ok (.iload_n 2, 1) := by decide +kernel
theorem dX5_findPlace_70 : decode cX5_findPlace 70 = .ok (.aload_n 0, 1) := by decide +kernel
theorem dX5_findPlace_71 : decode cX5_findPlace 71 = .ok (.getfield 39, 3) := by decide +kernel
theorem dX5_findPlace_74 : decode cX5_findPlace 74 = .ok (.iload_n 3, 1) := by decide +kernel
theorem dX5_findPlace_75 : decode cX5_findPlace 75 = .ok (.iload 4, 2) := by decide +kernel
theorem dX5_findPlace_77 : decode cX5_findPlace 77 = .ok (.iconst 0, 1) := by decide +kernel
theorem dX5_findPlace_78 : decode cX5_findPlace 78 = .ok (.iload 6, 2) := by decide +kernel
theorem dX5_findPlace_80 : decode cX5_findPlace 80 = .ok (.invokevirtual 134, 3) := by decide +kernel
theorem dX5_findPlace_83 : decode cX5_findPlace 83 = .ok (.putfield 138, 3) := by decide +kernel
theorem dX5_findPlace_86 : decode cX5_findPlace 86 = .ok (.aload_n 0, 1) := by decide +kernel
theorem dX5_findPlace_87 : decode cX5_findPlace 87 = .ok (.aload_n 0, 1) := by decide +kernel
theorem dX5_findPlace_88 : decode cX5_findPlace 88 = .ok (.iload_n 2, 1) := by decide +kernel
theorem dX5_findPlace_89 : decode cX5_findPlace 89 = .ok (.aload_n 0, 1) := by decide +kernel
theorem dX5_findPlace_90 : decode cX5_findPlace 90 = .ok (.getfield 39, 3) := by decide +kernel
theorem dX5_findPlace_93 : decode cX5_findPlace 93 = .ok (.iload_n 3, 1) := by decide +kernel
theorem dX5_findPlace_94 : decode cX5_findPlace 94 = .ok (.iload 4, 2) := by decide +kernel
theorem dX5_findPlace_96 : decode cX5_findPlace 96 = .ok (.iconst 1, 1) := by decide +kernel
theorem dX5_findPlace_97 : decode cX5_findPlace 97 = .ok (.iload 6, 2) := by decide +kernel
theorem dX5_findPlace_99 : decode cX5_findPlace 99 = .ok (.invokevirtual 134, 3) := by decide +kernel
theorem dX5_findPlace_102 : decode cX5_findPlace 102 = .ok (.putfield 141, 3) := by decide +kernel
theorem dX5_findPlace_105 : decode cX5_findPlace 105 = .ok (.goto 55, 3) := by decide +kernel
theorem dX5_findPlace_108 : decode cX5_findPlace 108 = .ok (.aload_n 0, 1) := by decide +kernel
theorem dX5_findPlace_109 : decode cX5_findPlace 109 = .ok (.iload_n 1, 1) := by decide +kernel
theorem dX5_findPlace_110 : decode cX5_findPlace 110 = .ok (.aload_n 0, 1) := by decide +kernel
theorem dX5_findPlace_111 : decode cX5_findPlace 111 = .ok (.getfield 42, 3) := by decide +kernel
theorem dX5_findPlace_114 : decode cX5_findPlace 114 = .ok (.iload_n 3, 1) := by decide +kernel
theorem dX5_findPlace_115 : decode cX5_findPlace 115 = .ok (.iload 4, 2) := by decide +kernel
theorem dX5_findPlace_117 : decode cX5_findPlace 117 = .ok (.invokevirtual 130, 3) := by decide +kernel
theorem dX5_findPlace_120 : decode cX5_findPlace 120 = .ok (.istore 6, 2) := by decide +kernel
theorem dX5_findPlace_122 : decode cX5_findPlace 122 = .ok (.aload_n 0, 1) := by decide +kernel
theorem dX5_findPlace_123 : decode cX5_findPlace 123 = .ok (.aload_n 0, 1) := by decide +kernel
theorem dX5_findPlace_124 : decode cX5_findPlace 124 = .ok (.iload_n 2, 1) := by decide +kernel
theorem dX5_findPlace_125 : decode cX5_findPlace 125 = .ok (.aload_n 0, 1) := by decide +kernel
theorem dX5_findPlace_126 : decode cX5_findPlace 126 = .ok (.getfield 42, 3) := by decide +kernel
theorem dX5_findPlace_129 : decode cX5_findPlace 129 = .ok (.iload_n 3, 1) := by decide +kernel
theorem dX5_findPlace_130 : decode cX5_findPlace 130 = .ok (.iload 4, 2) := by decide +kernel
theorem dX5_findPlace_132 : decode cX5_findPlace 132 = .ok (.iconst 0, 1) := by decide +kernel
theorem dX5_findPlace_133 : decode cX5_findPlace 133 = .ok (.iload 6, 2) := by decide +kernel
theorem dX5_findPlace_135 : decode cX5_findPlace 135 = .ok (.invokevirtual 134, 3) := by decide +kernel
theorem dX5_findPlace_138 : decode cX5_findPlace 138 = .ok (.putfield 138, 3) := by decide +kernel
theorem dX5_findPlace_141 : decode cX5_findPlace 141 = .ok (.aload_n 0, 1) := by decide +kernel
theorem dX5_findPlace_142 : decode cX5_findPlace 142 = .ok (.aload_n 0, 1) := by decide +kernel
theorem dX5_findPlace_143 : decode cX5_findPlace 143 = .ok (.iload_n 2, 1) := by decide +kernel
theorem dX5_findPlace_144 : decode cX5_findPlace 144 = .ok (.aload_n 0, 1) := by decide +kernel
theorem dX5_findPlace_145 : decode cX5_findPlace 145 = .ok (.getfield 42, 3) := by decide +kernel
theorem dX5_findPlace_148 : decode cX5_findPlace 148 = .ok (.iload_n 3, 1) := by decide +kernel
theorem dX5_findPlace_149 : decode cX5_findPlace 149 = .ok (.iload 4, 2) := by decide +kernel
theorem dX5_findPlace_151 : decode cX5_findPlace 151 = .ok (.iconst 1, 1) := by decide +kernel
theorem dX5_findPlace_152 : decode cX5_findPlace 152 = .ok (.iload 6, 2) := by decide +kernel
theorem dX5_findPlace_154 : decode cX5_findPlace 154 = .ok (.invokevirtual 134, 3) := by decide +kernel
theorem dX5_findPlace_157 : decode cX5_findPlace 157 = .ok (.putfield 141, 3) := by decide +kernel
theorem dX5_findPlace_160 : decode cX5_findPlace 160 = .ok (.aload_n 0, 1) := by decide +kernel
theorem dX5_findPlace_161 : decode cX5_findPlace 161 = .ok (.iload_n 1, 1) := by decide +kernel
theorem dX5_findPlace_162 : decode cX5_findPlace 162 = .ok (.aload_n 0, 1) := by decide +kernel
theorem dX5_findPlace_163 : decode cX5_findPlace 163 = .ok (.getfield 45, 3) := by decide +kernel
theorem dX5_findPlace_166 : decode cX5_findPlace 166 = .ok (.iload_n 3, 1) := by decide +kernel
theorem dX5_findPlace_167 : decode cX5_findPlace 167 = .ok (.iload 5, 2) := by decide +kernel
theorem dX5_findPlace_169 : decode cX5_findPlace 169 = .ok (.invokevirtual 130, 3) := by decide +kernel
theorem dX5_findPlace_172 : decode cX5_findPlace 172 = .ok (.istore 6, 2) := by decide +kernel
theorem dX5_findPlace_174 : decode cX5_findPlace 174 = .ok (.aload_n 0, 1) := by decide +kernel
theorem dX5_findPlace_175 : decode cX5_findPlace 175 = .ok (.aload_n 0, 1) := by decide +kernel
theorem dX5_findPlace_176 : decode cX5_findPlace 176 = .ok (.iload_n 2, 1) := by decide +kernel
theorem dX5_findPlace_177 : decode cX5_findPlace 177 = .ok (.aload_n 0, 1) := by decide +kernel
theorem dX5_findPlace_178 : decode cX5_findPlace 178 = .ok (.getfield 45, 3) := by decide +kernel
theorem dX5_findPlace_181 : decode cX5_findPlace 181 = .ok (.iload_n 3, 1) := by decide +kernel
theorem dX5_findPlace_182 : decode cX5_findPlace 182 = .ok (.iload 5, 2) := by decide +kernel
theorem dX5_findPlace_184 : decode cX5_findPlace 184 = .ok (.iconst 0, 1) := by decide +kernel
theorem dX5_findPlace_185 : decode cX5_findPlace 185 = .ok (.iload 6, 2) := by decide +kernel
theorem dX5_findPlace_187 : decode cX5_findPlace 187 = .ok (.invokevirtual 134, 3) := by decide +kernel
theorem dX5_findPlace_190 : decode cX5_findPlace 190 = .ok (.putfield 144, 3) := by decide +kernel
theorem dX5_findPlace_193 : decode cX5_findPlace 193 = .ok (.aload_n 0, 1) := by decide +kernel
theorem dX5_findPlace_194 : decode cX5_findPlace 194 = .ok (.aload_n 0, 1) := by decide +kernel
theorem dX5_findPlace_195 : decode cX5_findPlace 195 = .ok (.iload_n 2, 1) := by decide +kernel
theorem dX5_findPlace_196 : decode cX5_findPlace 196 = .ok (.aload_n 0, 1) := by decide +kernel
theorem dX5_findPlace_197 : decode cX5_findPlace 197 = .ok (.getfield 45, 3) := by decide +kernel
theorem dX5_findPlace_200 : decode cX5_findPlace 200 = .ok (.iload_n 3, 1) := by decide +kernel
theorem dX5_findPlace_201 : decode cX5_findPlace 201 = .ok (.iload 5, 2) := by decide +kernel
theorem dX5_findPlace_203 : decode cX5_findPlace 203 = .ok (.iconst 1, 1) := by decide +kernel
theorem dX5_findPlace_204 : decode cX5_findPlace 204 = .ok (.iload 6, 2) := by decide +kernel
theorem dX5_findPlace_206 : decode cX5_findPlace 206 = .ok (.invokevirtual 134, 3) := by decide +kernel
theorem dX5_findPlace_209 : decode cX5_findPlace 209 = .ok (.putfield 147, 3) := by decide +kernel
theorem dX5_findPlace_212 : decode cX5_findPlace 212 = .ok (.return_, 1) := by decide +kernel
theorem dX5_findBands_0 : decode cX5_findBands 0 = .ok (.aload_n 0, 1) := by decide +kernel
theorem dX5_findBands_1 : decode cX5_findBands 1 = .ok (.iload_n 1, 1) := by decide +kernel
theorem dX5_findBands_2 : decode cX5_findBands 2 = .ok (.iload_n 2, 1) := by decide +kernel
theorem dX5_findBands_3 : decode cX5_findBands 3 = .ok (.invokevirtual 150, 3) := by decide +kernel
theorem dX5_findBands_6 : decode cX5_findBands 6 = .ok (.aload_n 0, 1) := by decide +kernel
theorem dX5_findBands_7 : decode cX5_findBands 7 = .ok (.getfield 61, 3) := by decide +kernel
theorem dX5_findBands_10 : decode cX5_findBands 10 = .ok (.iload_n 3, 1) := by decide +kernel
theorem dX5_findBands_11 : decode cX5_findBands 11 = .ok (.aload_n 0, 1) := by decide +kernel
theorem dX5_findBands_12 : decode cX5_findBands 12 = .ok (.getfield 141, 3) := by decide +kernel
theorem dX5_findBands_15 : decode cX5_findBands 15 = .ok (.ifCond .le 14, 3) := by decide +kernel
theorem dX5_findBands_18 : decode cX5_findBands 18 = .ok (.aload_n 0, 1) := by decide +kernel
theorem dX5_findBands_19 : decode cX5_findBands 19 = .ok (.getfield 147, 3) := by decide +kernel
theorem dX5_findBands_22 : decode cX5_findBands 22 = .ok (.ifCond .lt 7, 3) := by decide +kernel
theorem dX5_findBands_25 : decode cX5_findBands 25 = .ok (.iconst 1, 1) := by decide +kernel
theorem dX5_findBands_26 : decode cX5_findBands 26 = .ok (.goto 4, 3) := by decide +kernel
theorem dX5_findBands_29 : decode cX5_findBands 29 = .ok (.iconst 0, 1) := by decide +kernel
theorem dX5_findBands_30 : decode cX5_findBands 30 = .ok (.bastore, 1) := by decide +kernel
theorem dX5_findBands_31 : decode cX5_findBands 31 = .ok (.aload_n 0, 1) := by decide +kernel
theorem dX5_findBands_32 : decode cX5_findBands 32 = .ok (.getfield 54, 3) := by decide +kernel
theorem dX5_findBands_35 : decode cX5_findBands 35 = .ok (.iload_n 3, 1) := by decide +kernel
theorem dX5_findBands_36 : decode cX5_findBands 36 = .ok (.aload_n 0, 1) := by decide +kernel
theorem dX5_findBands_37 : decode cX5_findBands 37 = .ok (.getfield 138, 3) := by decide +kernel
theorem dX5_findBands_40 : decode cX5_findBands 40 = .ok (.ifCond .le 11, 3) := by decide +kernel
theorem dX5_findBands_43 : decode cX5_findBands 43 = .ok (.aload_n 0, 1) := by decide +kernel
theorem dX5_findBands_44 : decode cX5_findBands 44 = .ok (.getfield 138, 3) := by decide +kernel
theorem dX5_findBands_47 : decode cX5_findBands 47 = .ok (.i2l, 1) := by decide +kernel
theorem dX5_findBands_48 : decode cX5_findBands 48 = .ok (.goto 4, 3) := by decide +kernel
theorem dX5_findBands_51 : decode cX5_findBands 51 = .ok (.lconst 0, 1) := by decide +kernel
theorem dX5_findBands_52 : decode cX5_findBands 52 = .ok (.invokestatic 154, 3) := by decide +kernel
theorem dX5_findBands_55 : decode cX5_findBands 55 = .ok (.aload_n 0, 1) := by decide +kernel
theorem dX5_findBands_56 : decode cX5_findBands 56 = .ok (.getfield 144, 3) := by decide +kernel
theorem dX5_findBands_59 : decode cX5_findBands 59 = .ok (.ifCond .le 11, 3) := by decide +kernel
theorem dX5_findBands_62 : decode cX5_findBands 62 = .ok (.aload_n 0, 1) := by decide +kernel
theorem dX5_findBands_63 : decode cX5_findBands 63 = .ok (.getfield 144, 3) := by decide +kernel
theorem dX5_findBands_66 : decode cX5_findBands 66 = .ok (.i2l, 1) := by decide +kernel
theorem dX5_findBands_67 : decode cX5_findBands 67 = .ok (.goto 4, 3) := by decide +kernel
theorem dX5_findBands_70 : decode cX5_findBands 70 = .ok (.lconst 0, 1) := by decide +kernel
theorem dX5_findBands_71 : decode cX5_findBands 71 = .ok (.invokestatic 154, 3) := by decide +kernel
theorem dX5_findBands_74 : decode cX5_findBands 74 = .ok (.ladd, 1) := by decide +kernel
theorem dX5_findBands_75 : decode cX5_findBands 75 = .ok (.lastore, 1) := by decide +kernel
theorem dX5_findBands_76 : decode cX5_findBands 76 = .ok (.aload_n 0, 1) := by decide +kernel
theorem dX5_findBands_77 : decode cX5_findBands 77 = .ok (.getfield 58, 3) := by decide +kernel
theorem dX5_findBands_80 : decode cX5_findBands 80 = .ok (.iload_n 3, 1) := by decide +kernel
theorem dX5_findBands_81 : decode cX5_findBands 81 = .ok (.aload_n 0, 1) := by decide +kernel
theorem dX5_findBands_82 : decode cX5_findBands 82 = .ok (.getfield 141, 3) := by decide +kernel
theorem dX5_findBands_85 : decode cX5_findBands 85 = .ok (.i2l, 1) := by decide +kernel
theorem dX5_findBands_86 : decode cX5_findBands 86 = .ok (.invokestatic 154, 3) := by decide +kernel
theorem dX5_findBands_89 : decode cX5_findBands 89 = .ok (.aload_n 0, 1) := by decide +kernel
theorem dX5_findBands_90 : decode cX5_findBands 90 = .ok (.getfield 147, 3) := by decide +kernel
theorem dX5_findBands_93 : decode cX5_findBands 93 = .ok (.i2l, 1) := by decide +kernel
theorem dX5_findBands_94 : decode cX5_findBands 94 = .ok (.invokestatic 154, 3) := by decide +kernel
theorem dX5_findBands_97 : decode cX5_findBands 97 = .ok (.ladd, 1) := by decide +kernel
theorem dX5_findBands_98 : decode cX5_findBands 98 = .ok (.lastore, 1) := by decide +kernel
theorem dX5_findBands_99 : decode cX5_findBands 99 = .ok (.aload_n 0, 1) := by decide +kernel
theorem dX5_findBands_100 : decode cX5_findBands 100 = .ok (.getfield 61, 3) := by decide +kernel
theorem dX5_findBands_103 : decode cX5_findBands 103 = .ok (.iload_n 3, 1) := by decide +kernel
theorem dX5_findBands_104 : decode cX5_findBands 104 = .ok (.iconst 1, 1) := by decide +kernel
theorem dX5_findBands_105 : decode cX5_findBands 105 = .ok (.iadd, 1) := by decide +kernel
theorem dX5_findBands_106 : decode cX5_findBands 106 = .ok (.aload_n 0, 1) := by decide +kernel
theorem dX5_findBands_107 : decode cX5_findBands 107 = .ok (.getfield 138, 3) := by decide +kernel
theorem dX5_findBands_110 : decode cX5_findBands 110 = .ok (.ifCond .gt 14, 3) := by decide +kernel
theorem dX5_findBands_113 : decode cX5_findBands 113 = .ok (.aload_n 0, 1) := by decide +kernel
theorem dX5_findBands_114 : decode cX5_findBands 114 = .ok (.getfield 147, 3) := by decide +kernel
theorem dX5_findBands_117 : decode cX5_findBands 117 = .ok (.ifCond .le 7, 3) := by decide +kernel
theorem dX5_findBands_120 : decode cX5_findBands 120 = .ok (.iconst 1, 1) := by decide +kernel
theorem dX5_findBands_121 : decode cX5_findBands 121 = .ok (.goto 4, 3) := by decide +kernel
theorem dX5_findBands_124 : decode cX5_findBands 124 = .ok (.iconst 0, 1) := by decide +kernel
theorem dX5_findBands_125 : decode cX5_findBands 125 = .ok (.bastore, 1) := by decide +kernel
theorem dX5_findBands_126 : decode cX5_findBands 126 = .ok (.aload_n 0, 1) := by decide +kernel
theorem dX5_findBands_127 : decode cX5_findBands 127 = .ok (.getfield 54, 3) := by decide +kernel
theorem dX5_findBands_130 : decode cX5_findBands 130 = .ok (.iload_n 3, 1) := by decide +kernel
theorem dX5_findBands_131 : decode cX5_findBands 131 = .ok (.iconst 1, 1) := by decide +kernel
theorem dX5_findBands_132 : decode cX5_findBands 132 = .ok (.iadd, 1) := by decide +kernel
theorem dX5_findBands_133 : decode cX5_findBands 133 = .ok (.aload_n 0, 1) := by decide +kernel
theorem dX5_findBands_134 : decode cX5_findBands 134 = .ok (.getfield 141, 3) := by decide +kernel
theorem dX5_findBands_137 : decode cX5_findBands 137 = .ok (.ifCond .ge 11, 3) := by decide +kernel
theorem dX5_findBands_140 : decode cX5_findBands 140 = .ok (.aload_n 0, 1) := by decide +kernel
theorem dX5_findBands_141 : decode cX5_findBands 141 = .ok (.getfield 141, 3) := by decide +kernel
theorem dX5_findBands_144 : decode cX5_findBands 144 = .ok (.i2l, 1) := by decide +kernel
theorem dX5_findBands_145 : decode cX5_findBands 145 = .ok (.goto 4, 3) := by decide +kernel
theorem dX5_findBands_148 : decode cX5_findBands 148 = .ok (.lconst 0, 1) := by decide +kernel
theorem dX5_findBands_149 : decode cX5_findBands 149 = .ok (.invokestatic 154, 3) := by decide +kernel
theorem dX5_findBands_152 : decode cX5_findBands 152 = .ok (.aload_n 0, 1) := by decide +kernel
theorem dX5_findBands_153 : decode cX5_findBands 153 = .ok (.getfield 144, 3) := by decide +kernel
theorem dX5_findBands_156 : decode cX5_findBands 156 = .ok (.ifCond .le 11, 3) := by decide +kernel
theorem dX5_findBands_159 : decode cX5_findBands 159 = .ok (.aload_n 0, 1) := by decide +kernel
theorem dX5_findBands_160 : decode cX5_findBands 160 = .ok (.getfield 144, 3) := by decide +kernel
theorem dX5_findBands_163 : decode cX5_findBands 163 = .ok (.i2l, 1) := by decide +kernel
theorem dX5_findBands_164 : decode cX5_findBands 164 = .ok (.goto 4, 3) := by decide +kernel
theorem dX5_findBands_167 : decode cX5_findBands 167 = .ok (.lconst 0, 1) := by decide +kernel
theorem dX5_findBands_168 : decode cX5_findBands 168 = .ok (.invokestatic 154, 3) := by decide +kernel
theorem dX5_findBands_171 : decode cX5_findBands 171 = .ok (.ladd, 1) := by decide +kernel
theorem dX5_findBands_172 : decode cX5_findBands 172 = .ok (.lastore, 1) := by decide +kernel
theorem dX5_findBands_173 : decode cX5_findBands 173 = .ok (.aload_n 0, 1) := by decide +kernel
theorem dX5_findBands_174 : decode cX5_findBands 174 = .ok (.getfield 58, 3) := by decide +kernel
theorem dX5_findBands_177 : decode cX5_findBands 177 = .ok (.iload_n 3, 1) := by decide +kernel
theorem dX5_findBands_178 : decode cX5_findBands 178 = .ok (.iconst 1, 1) := by decide +kernel
theorem dX5_findBands_179 : decode cX5_findBands 179 = .ok (.iadd, 1) := by decide +kernel
theorem dX5_findBands_180 : decode cX5_findBands 180 = .ok (.aload_n 0, 1) := by decide +kernel
theorem dX5_findBands_181 : decode cX5_findBands 181 = .ok (.getfield 138, 3) := by decide +kernel
theorem dX5_findBands_184 : decode cX5_findBands 184 = .ok (.i2l, 1) := by decide +kernel
theorem dX5_findBands_185 : decode cX5_findBands 185 = .ok (.invokestatic 154, 3) := by decide +kernel
theorem dX5_findBands_188 : decode cX5_findBands 188 = .ok (.aload_n 0, 1) := by decide +kernel
theorem dX5_findBands_189 : decode cX5_findBands 189 = .ok (.getfield 147, 3) := by decide +kernel
theorem dX5_findBands_192 : decode cX5_findBands 192 = .ok (.i2l, 1) := by decide +kernel
theorem dX5_findBands_193 : decode cX5_findBands 193 = .ok (.invokestatic 154, 3) := by decide +kernel
theorem dX5_findBands_196 : decode cX5_findBands 196 = .ok (.ladd, 1) := by decide +kernel
theorem dX5_findBands_197 : decode cX5_findBands 197 = .ok (.lastore, 1) := by decide +kernel
theorem dX5_findBands_198 : decode cX5_findBands 198 = .ok (.aload_n 0, 1) := by decide +kernel
theorem dX5_findBands_199 : decode cX5_findBands 199 = .ok (.getfield 61, 3) := by decide +kernel
theorem dX5_findBands_202 : decode cX5_findBands 202 = .ok (.iload_n 3, 1) := by decide +kernel
theorem dX5_findBands_203 : decode cX5_findBands 203 = .ok (.iconst 2, 1) := by decide +kernel
theorem dX5_findBands_204 : decode cX5_findBands 204 = .ok (.iadd, 1) := by decide +kernel
theorem dX5_findBands_205 : decode cX5_findBands 205 = .ok (.aload_n 0, 1) := by decide +kernel
theorem dX5_findBands_206 : decode cX5_findBands 206 = .ok (.getfield 138, 3) := by decide +kernel
theorem dX5_findBands_209 : decode cX5_findBands 209 = .ok (.ifCond .ge 14, 3) := by decide +kernel
theorem dX5_findBands_212 : decode cX5_findBands 212 = .ok (.aload_n 0, 1) := by decide +kernel
theorem dX5_findBands_213 : decode cX5_findBands 213 = .ok (.getfield 144, 3) := by decide +kernel
theorem dX5_findBands_216 : decode cX5_findBands 216 = .ok (.ifCond .gt 7, 3) := by decide +kernel
theorem dX5_findBands_219 : decode cX5_findBands 219 = .ok (.iconst 1, 1) := by decide +kernel
theorem dX5_findBands_220 : decode cX5_findBands 220 = .ok (.goto 4, 3) := by decide +kernel
theorem dX5_findBands_223 : decode cX5_findBands 223 = .ok (.iconst 0, 1) := by decide +kernel
theorem dX5_findBands_224 : decode cX5_findBands 224 = .ok (.bastore, 1) := by decide +kernel
theorem dX5_findBands_225 : decode cX5_findBands 225 = .ok (.aload_n 0, 1) := by decide +kernel
theorem dX5_findBands_226 : decode cX5_findBands 226 = .ok (.getfield 54, 3) := by decide +kernel
theorem dX5_findBands_229 : decode cX5_findBands 229 = .ok (.iload_n 3, 1) := by decide +kernel
theorem dX5_findBands_230 : decode cX5_findBands 230 = .ok (.iconst 2, 1) := by decide +kernel
theorem dX5_findBands_231 : decode cX5_findBands 231 = .ok (.iadd, 1) := by decide +kernel
theorem dX5_findBands_232 : decode cX5_findBands 232 = .ok (.aload_n 0, 1) := by decide +kernel
theorem dX5_findBands_233 : decode cX5_findBands 233 = .ok (.getfield 141, 3) := by decide +kernel
theorem dX5_findBands_236 : decode cX5_findBands 236 = .ok (.ifCond .ge 11, 3) := by decide +kernel
theorem dX5_findBands_239 : decode cX5_findBands 239 = .ok (.aload_n 0, 1) := by decide +kernel
theorem dX5_findBands_240 : decode cX5_findBands 240 = .ok (.getfield 141, 3) := by decide +kernel
theorem dX5_findBands_243 : decode cX5_findBands 243 = .ok (.i2l, 1) := by decide +kernel
theorem dX5_findBands_244 : decode cX5_findBands 244 = .ok (.goto 4, 3) := by decide +kernel
theorem dX5_findBands_247 : decode cX5_findBands 247 = .ok (.lconst 0, 1) := by decide +kernel
theorem dX5_findBands_248 : decode cX5_findBands 248 = .ok (.invokestatic 154, 3) := by decide +kernel
theorem dX5_findBands_251 : decode cX5_findBands 251 = .ok (.aload_n 0, 1) := by decide +kernel
theorem dX5_findBands_252 : decode cX5_findBands 252 = .ok (.getfield 147, 3) := by decide +kernel
theorem dX5_findBands_255 : decode cX5_findBands 255 = .ok (.ifCond .ge 11, 3) := by decide +kernel
theorem dX5_findBands_258 : decode cX5_findBands 258 = .ok (.aload_n 0, 1) := by decide +kernel
theorem dX5_findBands_259 : decode cX5_findBands 259 = .ok (.getfield 147, 3) := by decide +kernel
theorem dX5_findBands_262 : decode cX5_findBands 262 = .ok (.i2l, 1) := by decide +kernel
theorem dX5_findBands_263 : decode cX5_findBands 263 = .ok (.goto 4, 3) := by decide +kernel
theorem dX5_findBands_266 : decode cX5_findBands 266 = .ok (.lconst 0, 1) := by decide +kernel
theorem dX5_findBands_267 : decode cX5_findBands 267 = .ok (.invokestatic 154, 3) := by decide +kernel
theorem dX5_findBands_270 : decode cX5_findBands 270 = .ok (.ladd, 1) := by decide +kernel
theorem dX5_findBands_271 : decode cX5_findBands 271 = .ok (.lastore, 1) := by decide +kernel
theorem dX5_findBands_272 : decode cX5_findBands 272 = .ok (.aload_n 0, 1) := by decide +kernel
theorem dX5_findBands_273 : decode cX5_findBands 273 = .ok (.getfield 58, 3) := by decide +kernel
theorem dX5_findBands_276 : decode cX5_findBands 276 = .ok (.iload_n 3, 1) := by decide +kernel
theorem dX5_findBands_277 : decode cX5_findBands 277 = .ok (.iconst 2, 1) := by decide +kernel
theorem dX5_findBands_278 : decode cX5_findBands 278 = .ok (.iadd, 1) := by decide +kernel
theorem dX5_findBands_279 : decode cX5_findBands 279 = .ok (.aload_n 0, 1) := by decide +kernel
theorem dX5_findBands_280 : decode cX5_findBands 280 = .ok (.getfield 138, 3) := by decide +kernel
theorem dX5_findBands_283 : decode cX5_findBands 283 = .ok (.i2l, 1) := by decide +kernel
theorem dX5_findBands_284 : decode cX5_findBands 284 = .ok (.invokestatic 154, 3) := by decide +kernel
theorem dX5_findBands_287 : decode cX5_findBands 287 = .ok (.aload_n 0, 1) := by decide +kernel
theorem dX5_findBands_288 : decode cX5_findBands 288 = .ok (.getfield 144, 3) := by decide +kernel
theorem dX5_findBands_291 : decode cX5_findBands 291 = .ok (.i2l, 1) := by decide +kernel
theorem dX5_findBands_292 : decode cX5_findBands 292 = .ok (.invokestatic 154, 3) := by decide +kernel
theorem dX5_findBands_295 : decode cX5_findBands 295 = .ok (.ladd, 1) := by decide +kernel
theorem dX5_findBands_296 : decode cX5_findBands 296 = .ok (.lastore, 1) := by decide +kernel
theorem dX5_findBands_297 : decode cX5_findBands 297 = .ok (.aload_n 0, 1) := by decide +kernel
theorem dX5_findBands_298 : decode cX5_findBands 298 = .ok (.getfield 61, 3) := by decide +kernel
theorem dX5_findBands_301 : decode cX5_findBands 301 = .ok (.iload_n 3, 1) := by decide +kernel
theorem dX5_findBands_302 : decode cX5_findBands 302 = .ok (.iconst 3, 1) := by decide +kernel
theorem dX5_findBands_303 : decode cX5_findBands 303 = .ok (.iadd, 1) := by decide +kernel
theorem dX5_findBands_304 : decode cX5_findBands 304 = .ok (.aload_n 0, 1) := by decide +kernel
theorem dX5_findBands_305 : decode cX5_findBands 305 = .ok (.getfield 141, 3) := by decide +kernel
theorem dX5_findBands_308 : decode cX5_findBands 308 = .ok (.ifCond .lt 14, 3) := by decide +kernel
theorem dX5_findBands_311 : decode cX5_findBands 311 = .ok (.aload_n 0, 1) := by decide +kernel
theorem dX5_findBands_312 : decode cX5_findBands 312 = .ok (.getfield 144, 3) := by decide +kernel
theorem dX5_findBands_315 : decode cX5_findBands 315 = .ok (.ifCond .ge 7, 3) := by decide +kernel
theorem dX5_findBands_318 : decode cX5_findBands 318 = .ok (.iconst 1, 1) := by decide +kernel
theorem dX5_findBands_319 : decode cX5_findBands 319 = .ok (.goto 4, 3) := by decide +kernel
theorem dX5_findBands_322 : decode cX5_findBands 322 = .ok (.iconst 0, 1) := by decide +kernel
theorem dX5_findBands_323 : decode cX5_findBands 323 = .ok (.bastore, 1) := by decide +kernel
theorem dX5_findBands_324 : decode cX5_findBands 324 = .ok (.aload_n 0, 1) := by decide +kernel
theorem dX5_findBands_325 : decode cX5_findBands 325 = .ok (.getfield 54, 3) := by decide +kernel
theorem dX5_findBands_328 : decode cX5_findBands 328 = .ok (.iload_n 3, 1) := by decide +kernel
theorem dX5_findBands_329 : decode cX5_findBands 329 = .ok (.iconst 3, 1) := by decide +kernel
theorem dX5_findBands_330 : decode cX5_findBands 330 = .ok (.iadd, 1) := by decide +kernel
theorem dX5_findBands_331 : decode cX5_findBands 331 = .ok (.aload_n 0, 1) := by decide +kernel
theorem dX5_findBands_332 : decode cX5_findBands 332 = .ok (.getfield 138, 3) := by decide +kernel
theorem dX5_findBands_335 : decode cX5_findBands 335 = .ok (.ifCond .le 11, 3) := by decide +kernel
theorem dX5_findBands_338 : decode cX5_findBands 338 = .ok (.aload_n 0, 1) := by decide +kernel
theorem dX5_findBands_339 : decode cX5_findBands 339 = .ok (.getfield 138, 3) := by decide +kernel
theorem dX5_findBands_342 : decode cX5_findBands 342 = .ok (.i2l, 1) := by decide +kernel
theorem dX5_findBands_343 : decode cX5_findBands 343 = .ok (.goto 4, 3) := by decide +kernel
theorem dX5_findBands_346 : decode cX5_findBands 346 = .ok (.lconst 0, 1) := by decide +kernel
theorem dX5_findBands_347 : decode cX5_findBands 347 = .ok (.invokestatic 154, 3) := by decide +kernel
theorem dX5_findBands_350 : decode cX5_findBands 350 = .ok (.aload_n 0, 1) := by decide +kernel
theorem dX5_findBands_351 : decode cX5_findBands 351 = .ok (.getfield 147, 3) := by decide +kernel
theorem dX5_findBands_354 : decode cX5_findBands 354 = .ok (.ifCond .ge 11, 3) := by decide +kernel
theorem dX5_findBands_357 : decode cX5_findBands 357 = .ok (.aload_n 0, 1) := by decide +kernel
theorem dX5_findBands_358 : decode cX5_findBands 358 = .ok (.getfield 147, 3) := by decide +kernel
theorem dX5_findBands_361 : decode cX5_findBands 361 = .ok (.i2l, 1) := by decide +kernel
theorem dX5_findBands_362 : decode cX5_findBands 362 = .ok (.goto 4, 3) := by decide +kernel
theorem dX5_findBands_365 : decode cX5_findBands 365 = .ok (.lconst 0, 1) := by decide +kernel
theorem dX5_findBands_366 : decode cX5_findBands 366 = .ok (.invokestatic 154, 3) := by decide +kernel
theorem dX5_findBands_369 : decode cX5_findBands 369 = .ok (.ladd, 1) := by decide +kernel
theorem dX5_findBands_370 : decode cX5_findBands 370 = .ok (.lastore, 1) := by decide +kernel
theorem dX5_findBands_371 : decode cX5_findBands 371 = .ok (.aload_n 0, 1) := by decide +kernel
theorem dX5_findBands_372 : decode cX5_findBands 372 = .ok (.getfield 58, 3) := by decide +kernel
theorem dX5_findBands_375 : decode cX5_findBands 375 = .ok (.iload_n 3, 1) := by decide +kernel
theorem dX5_findBands_376 : decode cX5_findBands 376 = .ok (.iconst 3, 1) := by decide +kernel
theorem dX5_findBands_377 : decode cX5_findBands 377 = .ok (.iadd, 1) := by decide +kernel
theorem dX5_findBands_378 : decode cX5_findBands 378 = .ok (.aload_n 0, 1) := by decide +kernel
theorem dX5_findBands_379 : decode cX5_findBands 379 = .ok (.getfield 141, 3) := by decide +kernel
theorem dX5_findBands_382 : decode cX5_findBands 382 = .ok (.i2l, 1) := by decide +kernel
theorem dX5_findBands_383 : decode cX5_findBands 383 = .ok (.invokestatic 154, 3) := by decide +kernel
theorem dX5_findBands_386 : decode cX5_findBands 386 = .ok (.aload_n 0, 1) := by decide +kernel
theorem dX5_findBands_387 : decode cX5_findBands 387 = .ok (.getfield 144, 3) := by decide +kernel
theorem dX5_findBands_390 : decode cX5_findBands 390 = .ok (.i2l, 1) := by decide +kernel
theorem dX5_findBands_391 : decode cX5_findBands 391 = .ok (.invokestatic 154, 3) := by decide +kernel
theorem dX5_findBands_394 : decode cX5_findBands 394 = .ok (.ladd, 1) := by decide +kernel
theorem dX5_findBands_395 : decode cX5_findBands 395 = .ok (.lastore, 1) := by decide +kernel
theorem dX5_findBands_396 : decode cX5_findBands 396 = .ok (.return_, 1) := by decide +kernel
theorem dX5_haveStretch_0 : decode cX5_haveStretch 0 = .ok (.aload_n 0, 1) := by decide +kernel
theorem dX5_haveStretch_1 : decode cX5_haveStretch 1 = .ok (.getfield 54, 3) := by decide +kernel
theorem dX5_haveStretch_4 : decode cX5_haveStretch 4 = .ok (.iload_n 1, 1) := by decide +kernel
theorem dX5_haveStretch_5 : decode cX5_haveStretch 5 = .ok (.laload, 1) := by decide +kernel
theorem dX5_haveStretch_6 : decode cX5_haveStretch 6 = .ok (.aload_n 0, 1) := by decide +kernel
theorem dX5_haveStretch_7 : decode cX5_haveStretch 7 = .ok (.getfield 54, 3) := by decide +kernel
theorem dX5_haveStretch_10 : decode cX5_haveStretch 10 = .ok (.iload_n 2, 1) := by decide +kernel
theorem dX5_haveStretch_11 : decode cX5_haveStretch 11 = .ok (.laload, 1) := by decide +kernel
theorem dX5_haveStretch_12 : decode cX5_haveStretch 12 = .ok (.lcmp, 1) := by decide +kernel
theorem dX5_haveStretch_13 : decode cX5_haveStretch 13 = .ok (.ifCond .le 12, 3) := by decide +kernel
theorem dX5_haveStretch_16 : decode cX5_haveStretch 16 = .ok (.aload_n 0, 1) := by decide +kernel
theorem dX5_haveStretch_17 : decode cX5_haveStretch 17 = .ok (.getfield 54, 3) := by decide +kernel
theorem dX5_haveStretch_20 : decode cX5_haveStretch 20 = .ok (.iload_n 1, 1) := by decide +kernel
theorem dX5_haveStretch_21 : decode cX5_haveStretch 21 = .ok (.laload, 1) := by decide +kernel
theorem dX5_haveStretch_22 : decode cX5_haveStretch 22 = .ok (.goto 9, 3) := by decide +kernel
theorem dX5_haveStretch_25 : decode cX5_haveStretch 25 = .ok (.aload_n 0, 1) := by decide +kernel
theorem dX5_haveStretch_26 : decode cX5_haveStretch 26 = .ok (.getfield 54, 3) := by decide +kernel
theorem dX5_haveStretch_29 : decode cX5_haveStretch 29 = .ok (.iload_n 2, 1) := by decide +kernel
theorem dX5_haveStretch_30 : decode cX5_haveStretch 30 = .ok (.laload, 1) := by decide +kernel
theorem dX5_haveStretch_31 : decode cX5_haveStretch 31 = .ok (.lstore_n 3, 1) := by decide +kernel
theorem dX5_haveStretch_32 : decode cX5_haveStretch 32 = .ok (.aload_n 0, 1) := by decide +kernel
theorem dX5_haveStretch_33 : decode cX5_haveStretch 33 = .ok (.getfield 58, 3) := by decide +kernel
theorem dX5_haveStretch_36 : decode cX5_haveStretch 36 = .ok (.iload_n 1, 1) := by decide +kernel
theorem dX5_haveStretch_37 : decode cX5_haveStretch 37 = .ok (.laload, 1) := by decide +kernel
theorem dX5_haveStretch_38 : decode cX5_haveStretch 38 = .ok (.aload_n 0, 1) := by decide +kernel
theorem dX5_haveStretch_39 : decode cX5_haveStretch 39 = .ok (.getfield 58, 3) := by decide +kernel
theorem dX5_haveStretch_42 : decode cX5_haveStretch 42 = .ok (.iload_n 2, 1) := by decide +kernel
theorem dX5_haveStretch_43 : decode cX5_haveStretch 43 = .ok (.laload, 1) := by decide +kernel
theorem dX5_haveStretch_44 : decode cX5_haveStretch 44 = .ok (.lcmp, 1) := by decide +kernel
theorem dX5_haveStretch_45 : decode cX5_haveStretch 45 = .ok (.ifCond .ge 12, 3) := by decide +kernel
theorem dX5_haveStretch_48 : decode cX5_haveStretch 48 = .ok (.aload_n 0, 1) := by decide +kernel
theorem dX5_haveStretch_49 : decode cX5_haveStretch 49 = .ok (.getfield 58, 3) := by decide +kernel
theorem dX5_haveStretch_52 : decode cX5_haveStretch 52 = .ok (.iload_n 1, 1) := by decide +kernel
theorem dX5_haveStretch_53 : decode cX5_haveStretch 53 = .ok (.laload, 1) := by decide +kernel
theorem dX5_haveStretch_54 : decode cX5_haveStretch 54 = .ok (.goto 9, 3) := by decide +kernel
theorem dX5_haveStretch_57 : decode cX5_haveStretch 57 = .ok (.aload_n 0, 1) := by decide +kernel
theorem dX5_haveStretch_58 : decode cX5_haveStretch 58 = .ok (.getfield 58, 3) := by decide +kernel
theorem dX5_haveStretch_61 : decode cX5_haveStretch 61 = .ok (.iload_n 2, 1) := by decide +kernel
theorem dX5_haveStretch_62 : decode cX5_haveStretch 62 = .ok (.laload, 1) := by decide +kernel
theorem dX5_haveStretch_63 : decode cX5_haveStretch 63 = .ok (.lstore 5, 2) := by decide +kernel
theorem dX5_haveStretch_65 : decode cX5_haveStretch 65 = .ok (.aload_n 0, 1) := by decide +kernel
theorem dX5_haveStretch_66 : decode cX5_haveStretch 66 = .ok (.getfield 61, 3) := by decide +kernel
theorem dX5_haveStretch_69 : decode cX5_haveStretch 69 = .ok (.iload_n 1, 1) := by decide +kernel
theorem dX5_haveStretch_70 : decode cX5_haveStretch 70 = .ok (.baload, 1) := by decide +kernel
theorem dX5_haveStretch_71 : decode cX5_haveStretch 71 = .ok (.ifCond .eq 23, 3) := by decide +kernel
theorem dX5_haveStretch_74 : decode cX5_haveStretch 74 = .ok (.aload_n 0, 1) := by decide +kernel
theorem dX5_haveStretch_75 : decode cX5_haveStretch 75 = .ok (.getfield 61, 3) := by decide +kernel
theorem dX5_haveStretch_78 : decode cX5_haveStretch 78 = .ok (.iload_n 2, 1) := by decide +kernel
theorem dX5_haveStretch_79 : decode cX5_haveStretch 79 = .ok (.baload, 1) := by decide +kernel
theorem dX5_haveStretch_80 : decode cX5_haveStretch 80 = .ok (.ifCond .eq 14, 3) := by decide +kernel
theorem dX5_haveStretch_83 : decode cX5_haveStretch 83 = .ok (.lload_n 3, 1) := by decide +kernel
theorem dX5_haveStretch_84 : decode cX5_haveStretch 84 = .ok (.lload 5, 2) := by decide +kernel
theorem dX5_haveStretch_86 : decode cX5_haveStretch 86 = .ok (.lcmp, 1) := by decide +kernel
theorem dX5_haveStretch_87 : decode cX5_haveStretch 87 = .ok (.ifCond .ge 7, 3) := by decide +kernel
theorem dX5_haveStretch_90 : decode cX5_haveStretch 90 = .ok (.iconst 1, 1) := by decide +kernel
theorem dX5_haveStretch_91 : decode cX5_haveStretch 91 = .ok (.goto 4, 3) := by decide +kernel
theorem dX5_haveStretch_94 : decode cX5_haveStretch 94 = .ok (.iconst 0, 1) := by decide +kernel
theorem dX5_haveStretch_95 : decode cX5_haveStretch 95 = .ok (.ireturn, 1) := by decide +kernel
theorem dX5_axis_0 : decode cX5_axis 0 = .ok (.aload_n 0, 1) := by decide +kernel
theorem dX5_axis_1 : decode cX5_axis 1 = .ok (.iload_n 1, 1) := by decide +kernel
theorem dX5_axis_2 : decode cX5_axis 2 = .ok (.iaload, 1) := by decide +kernel
theorem dX5_axis_3 : decode cX5_axis 3 = .ok (.ifCond .eq 7, 3) := by decide +kernel
theorem dX5_axis_6 : decode cX5_axis 6 = .ok (.iconst 0, 1) := by decide +kernel
theorem dX5_axis_7 : decode cX5_axis 7 = .ok (.goto 16, 3) := by decide +kernel
theorem dX5_axis_10 : decode cX5_axis 10 = .ok (.aload_n 0, 1) := by decide +kernel
theorem dX5_axis_11 : decode cX5_axis 11 = .ok (.iload_n 1, 1) := by decide +kernel
theorem dX5_axis_12 : decode cX5_axis 12 = .ok (.iconst 1, 1) := by decide +kernel
theorem dX5_axis_13 : decode cX5_axis 13 = .ok (.iadd, 1) := by decide +kernel
theorem dX5_axis_14 : decode cX5_axis 14 = .ok (.iaload, 1) := by decide +kernel
theorem dX5_axis_15 : decode cX5_axis 15 = .ok (.ifCond .eq 7, 3) := by decide +kernel
theorem dX5_axis_18 : decode cX5_axis 18 = .ok (.iconst 1, 1) := by decide +kernel
theorem dX5_axis_19 : decode cX5_axis 19 = .ok (.goto 4, 3) := by decide +kernel
theorem dX5_axis_22 : decode cX5_axis 22 = .ok (.iconst 2, 1) := by decide +kernel
theorem dX5_axis_23 : decode cX5_axis 23 = .ok (.ireturn, 1) := by decide +kernel
theorem dX5_bendAxis_0 : decode cX5_bendAxis 0 = .ok (.iconst 3, 1) := by decide +kernel
theorem dX5_bendAxis_1 : decode cX5_bendAxis 1 = .ok (.aload_n 0, 1) := by decide +kernel
theorem dX5_bendAxis_2 : decode cX5_bendAxis 2 = .ok (.getfield 13, 3) := by decide +kernel
theorem dX5_bendAxis_5 : decode cX5_bendAxis 5 = .ok (.iload_n 1, 1) := by decide +kernel
theorem dX5_bendAxis_6 : decode cX5_bendAxis 6 = .ok (.iaload, 1) := by decide +kernel
theorem dX5_bendAxis_7 : decode cX5_bendAxis 7 = .ok (.imul, 1) := by decide +kernel
theorem dX5_bendAxis_8 : decode cX5_bendAxis 8 = .ok (.istore_n 2, 1) := by decide +kernel
theorem dX5_bendAxis_9 : decode cX5_bendAxis 9 = .ok (.aload_n 0, 1) := by decide +kernel
theorem dX5_bendAxis_10 : decode cX5_bendAxis 10 = .ok (.getfield 17, 3) := by decide +kernel
theorem dX5_bendAxis_13 : decode cX5_bendAxis 13 = .ok (.iload_n 1, 1) := by decide +kernel
theorem dX5_bendAxis_14 : decode cX5_bendAxis 14 = .ok (.iaload, 1) := by decide +kernel
theorem dX5_bendAxis_15 : decode cX5_bendAxis 15 = .ok (.iconst 2, 1) := by decide +kernel
theorem dX5_bendAxis_16 : decode cX5_bendAxis 16 = .ok (.irem, 1) := by decide +kernel
theorem dX5_bendAxis_17 : decode cX5_bendAxis 17 = .ok (.ifCond .ne 14, 3) := by decide +kernel
theorem dX5_bendAxis_20 : decode cX5_bendAxis 20 = .ok (.aload_n 0, 1) := by decide +kernel
theorem dX5_bendAxis_21 : decode cX5_bendAxis 21 = .ok (.getfield 42, 3) := by decide +kernel
theorem dX5_bendAxis_24 : decode cX5_bendAxis 24 = .ok (.iload_n 2, 1) := by decide +kernel
theorem dX5_bendAxis_25 : decode cX5_bendAxis 25 = .ok (.invokestatic 158, 3) := by decide +kernel
theorem dX5_bendAxis_28 : decode cX5_bendAxis 28 = .ok (.goto 11, 3) := by decide +kernel
theorem dX5_bendAxis_31 : decode cX5_bendAxis 31 = .ok (.aload_n 0, 1) := by decide +kernel
theorem dX5_bendAxis_32 : decode cX5_bendAxis 32 = .ok (.getfield 39, 3) := by decide +kernel
theorem dX5_bendAxis_35 : decode cX5_bendAxis 35 = .ok (.iload_n 2, 1) := by decide +kernel
theorem dX5_bendAxis_36 : decode cX5_bendAxis 36 = .ok (.invokestatic 158, 3) := by decide +kernel
theorem dX5_bendAxis_39 : decode cX5_bendAxis 39 = .ok (.ireturn, 1) := by decide +kernel
theorem dX5_areBeside_0 : decode cX5_areBeside 0 = .ok (.aload_n 0, 1) := by decide +kernel
theorem dX5_areBeside_1 : decode cX5_areBeside 1 = .ok (.getfield 48, 3) := by decide +kernel
theorem dX5_areBeside_4 : decode cX5_areBeside 4 = .ok (.bipush 6, 2) := by decide +kernel
theorem dX5_areBeside_6 : decode cX5_areBeside 6 = .ok (.iload_n 1, 1) := by decide +kernel
theorem dX5_areBeside_7 : decode cX5_areBeside 7 = .ok (.imul, 1) := by decide +kernel
theorem dX5_areBeside_8 : decode cX5_areBeside 8 = .ok (.iload_n 3, 1) := by decide +kernel
theorem dX5_areBeside_9 : decode cX5_areBeside 9 = .ok (.iadd, 1) := by decide +kernel
theorem dX5_areBeside_10 : decode cX5_areBeside 10 = .ok (.iaload, 1) := by decide +kernel
theorem dX5_areBeside_11 : decode cX5_areBeside 11 = .ok (.istore 4, 2) := by decide +kernel
theorem dX5_areBeside_13 : decode cX5_areBeside 13 = .ok (.aload_n 0, 1) := by decide +kernel
theorem dX5_areBeside_14 : decode cX5_areBeside 14 = .ok (.getfield 48, 3) := by decide +kernel
theorem dX5_areBeside_17 : decode cX5_areBeside 17 = .ok (.bipush 6, 2) := by decide +kernel
theorem dX5_areBeside_19 : decode cX5_areBeside 19 = .ok (.iload_n 1, 1) := by decide +kernel
theorem dX5_areBeside_20 : decode cX5_areBeside 20 = .ok (.imul, 1) := by decide +kernel
theorem dX5_areBeside_21 : decode cX5_areBeside 21 = .ok (.iconst 3, 1) := by decide +kernel
theorem dX5_areBeside_22 : decode cX5_areBeside 22 = .ok (.iadd, 1) := by decide +kernel
theorem dX5_areBeside_23 : decode cX5_areBeside 23 = .ok (.iload_n 3, 1) := by decide +kernel
theorem dX5_areBeside_24 : decode cX5_areBeside 24 = .ok (.iadd, 1) := by decide +kernel
theorem dX5_areBeside_25 : decode cX5_areBeside 25 = .ok (.iaload, 1) := by decide +kernel
theorem dX5_areBeside_26 : decode cX5_areBeside 26 = .ok (.istore 5, 2) := by decide +kernel
theorem dX5_areBeside_28 : decode cX5_areBeside 28 = .ok (.aload_n 0, 1) := by decide +kernel
theorem dX5_areBeside_29 : decode cX5_areBeside 29 = .ok (.getfield 48, 3) := by decide +kernel
theorem dX5_areBeside_32 : decode cX5_areBeside 32 = .ok (.bipush 6, 2) := by decide +kernel
theorem dX5_areBeside_34 : decode cX5_areBeside 34 = .ok (.iload_n 2, 1) := by decide +kernel
theorem dX5_areBeside_35 : decode cX5_areBeside 35 = .ok (.imul, 1) := by decide +kernel
theorem dX5_areBeside_36 : decode cX5_areBeside 36 = .ok (.iload_n 3, 1) := by decide +kernel
theorem dX5_areBeside_37 : decode cX5_areBeside 37 = .ok (.iadd, 1) := by decide +kernel
theorem dX5_areBeside_38 : decode cX5_areBeside 38 = .ok (.iaload, 1) := by decide +kernel
theorem dX5_areBeside_39 : decode cX5_areBeside 39 = .ok (.istore 6, 2) := by decide +kernel
theorem dX5_areBeside_41 : decode cX5_areBeside 41 = .ok (.aload_n 0, 1) := by decide +kernel
theorem dX5_areBeside_42 : decode cX5_areBeside 42 = .ok (.getfield 48, 3) := by decide +kernel
theorem dX5_areBeside_45 : decode cX5_areBeside 45 = .ok (.bipush 6, 2) := by decide +kernel
theorem dX5_areBeside_47 : decode cX5_areBeside 47 = .ok (.iload_n 2, 1) := by decide +kernel
theorem dX5_areBeside_48 : decode cX5_areBeside 48 = .ok (.imul, 1) := by decide +kernel
theorem dX5_areBeside_49 : decode cX5_areBeside 49 = .ok (.iconst 3, 1) := by decide +kernel
theorem dX5_areBeside_50 : decode cX5_areBeside 50 = .ok (.iadd, 1) := by decide +kernel
theorem dX5_areBeside_51 : decode cX5_areBeside 51 = .ok (.iload_n 3, 1) := by decide +kernel
theorem dX5_areBeside_52 : decode cX5_areBeside 52 = .ok (.iadd, 1) := by decide +kernel
theorem dX5_areBeside_53 : decode cX5_areBeside 53 = .ok (.iaload, 1) := by decide +kernel
theorem dX5_areBeside_54 : decode cX5_areBeside 54 = .ok (.istore 7, 2) := by decide +kernel
theorem dX5_areBeside_56 : decode cX5_areBeside 56 = .ok (.iload 4, 2) := by decide +kernel
theorem dX5_areBeside_58 : decode cX5_areBeside 58 = .ok (.iload 5, 2) := by decide +kernel
theorem dX5_areBeside_60 : decode cX5_areBeside 60 = .ok (.if_icmp .eq 10, 3) := by decide +kernel
theorem dX5_areBeside_63 : decode cX5_areBeside 63 = .ok (.iload 6, 2) := by decide +kernel
theorem dX5_areBeside_65 : decode cX5_areBeside 65 = .ok (.iload 7, 2) := by decide +kernel
theorem dX5_areBeside_67 : decode cX5_areBeside 67 = .ok (.if_icmp .ne 81, 3) := by decide +kernel
theorem dX5_areBeside_70 : decode cX5_areBeside 70 = .ok (.iload 4, 2) := by decide +kernel
theorem dX5_areBeside_72 : decode cX5_areBeside 72 = .ok (.iload 5, 2) := by decide +kernel
theorem dX5_areBeside_74 : decode cX5_areBeside 74 = .ok (.if_icmp .ne 25, 3) := by decide +kernel
theorem dX5_areBeside_77 : decode cX5_areBeside 77 = .ok (.iload 6, 2) := by decide +kernel
theorem dX5_areBeside_79 : decode cX5_areBeside 79 = .ok (.iload 7, 2) := by decide +kernel
theorem dX5_areBeside_81 : decode cX5_areBeside 81 = .ok (.if_icmp .ne 18, 3) := by decide +kernel
theorem dX5_areBeside_84 : decode cX5_areBeside 84 = .ok (.iload 4, 2) := by decide +kernel
theorem dX5_areBeside_86 : decode cX5_areBeside 86 = .ok (.iload 6, 2) := by decide +kernel
theorem dX5_areBeside_88 : decode cX5_areBeside 88 = .ok (.if_icmp .ne 7, 3) := by decide +kernel
theorem dX5_areBeside_91 : decode cX5_areBeside 91 = .ok (.iconst 1, 1) := by decide +kernel
theorem dX5_areBeside_92 : decode cX5_areBeside 92 = .ok (.goto 55, 3) := by decide +kernel
theorem dX5_areBeside_95 : decode cX5_areBeside 95 = .ok (.iconst 0, 1) := by decide +kernel
theorem dX5_areBeside_96 : decode cX5_areBeside 96 = .ok (.goto 51, 3) := by decide +kernel
theorem dX5_areBeside_99 : decode cX5_areBeside 99 = .ok (.iload 4, 2) := by decide +kernel
theorem dX5_areBeside_101 : decode cX5_areBeside 101 = .ok (.iload 5, 2) := by decide +kernel
theorem dX5_areBeside_103 : decode cX5_areBeside 103 = .ok (.if_icmp .ne 25, 3) := by decide +kernel
theorem dX5_areBeside_106 : decode cX5_areBeside 106 = .ok (.iload 6, 2) := by decide +kernel
theorem dX5_areBeside_108 : decode cX5_areBeside 108 = .ok (.iload 4, 2) := by decide +kernel
theorem dX5_areBeside_110 : decode cX5_areBeside 110 = .ok (.if_icmp .ge 14, 3) := by decide +kernel
theorem dX5_areBeside_113 : decode cX5_areBeside 113 = .ok (.iload 4, 2) := by decide +kernel
theorem dX5_areBeside_115 : decode cX5_areBeside 115 = .ok (.iload 7, 2) := by decide +kernel
theorem dX5_areBeside_117 : decode cX5_areBeside 117 = .ok (.if_icmp .ge 7, 3) := by decide +kernel
theorem dX5_areBeside_120 : decode cX5_areBeside 120 = .ok (.iconst 1, 1) := by decide +kernel
theorem dX5_areBeside_121 : decode cX5_areBeside 121 = .ok (.goto 26, 3) := by decide +kernel
theorem dX5_areBeside_124 : decode cX5_areBeside 124 = .ok (.iconst 0, 1) := by decide +kernel
theorem dX5_areBeside_125 : decode cX5_areBeside 125 = .ok (.goto 22, 3) := by decide +kernel
theorem dX5_areBeside_128 : decode cX5_areBeside 128 = .ok (.iload 4, 2) := by decide +kernel
theorem dX5_areBeside_130 : decode cX5_areBeside 130 = .ok (.iload 6, 2) := by decide +kernel
theorem dX5_areBeside_132 : decode cX5_areBeside 132 = .ok (.if_icmp .ge 14, 3) := by decide +kernel
theorem dX5_areBeside_135 : decode cX5_areBeside 135 = .ok (.iload 6, 2) := by decide +kernel
theorem dX5_areBeside_137 : decode cX5_areBeside 137 = .ok (.iload 5, 2) := by decide +kernel
theorem dX5_areBeside_139 : decode cX5_areBeside 139 = .ok (.if_icmp .ge 7, 3) := by decide +kernel
theorem dX5_areBeside_142 : decode cX5_areBeside 142 = .ok (.iconst 1, 1) := by decide +kernel
theorem dX5_areBeside_143 : decode cX5_areBeside 143 = .ok (.goto 4, 3) := by decide +kernel
theorem dX5_areBeside_146 : decode cX5_areBeside 146 = .ok (.iconst 0, 1) := by decide +kernel
theorem dX5_areBeside_147 : decode cX5_areBeside 147 = .ok (.ireturn, 1) := by decide +kernel
theorem dX5_areBeside_148 : decode cX5_areBeside 148 = .ok (.iload 4, 2) := by decide +kernel
theorem dX5_areBeside_150 : decode cX5_areBeside 150 = .ok (.iload 7, 2) := by decide +kernel
theorem dX5_areBeside_152 : decode cX5_areBeside 152 = .ok (.if_icmp .ge 14, 3) := by decide +kernel
theorem dX5_areBeside_155 : decode cX5_areBeside 155 = .ok (.iload 6, 2) := by decide +kernel
theorem dX5_areBeside_157 : decode cX5_areBeside 157 = .ok (.iload 5, 2) := by decide +kernel
theorem dX5_areBeside_159 : decode cX5_areBeside 159 = .ok (.if_icmp .ge 7, 3) := by decide +kernel
theorem dX5_areBeside_162 : decode cX5_areBeside 162 = .ok (.iconst 1, 1) := by decide +kernel
theorem dX5_areBeside_163 : decode cX5_areBeside 163 = .ok (.goto 4, 3) := by decide +kernel
theorem dX5_areBeside_166 : decode cX5_areBeside 166 = .ok (.iconst 0, 1) := by decide +kernel
theorem dX5_areBeside_167 : decode cX5_areBeside 167 = .ok (.ireturn, 1) := by decide +kernel
theorem dX5_sweeps_0 : decode cX5_sweeps 0 = .ok (.aload_n 0, 1) := by decide +kernel
theorem dX5_sweeps_1 : decode cX5_sweeps 1 = .ok (.iload_n 2, 1) := by decide +kernel
theorem dX5_sweeps_2 : decode cX5_sweeps 2 = .ok (.iload_n 3, 1) := by decide +kernel
theorem dX5_sweeps_3 : decode cX5_sweeps 3 = .ok (.aload_n 0, 1) := by decide +kernel
theorem dX5_sweeps_4 : decode cX5_sweeps 4 = .ok (.iload_n 1, 1) := by decide +kernel
theorem dX5_sweeps_5 : decode cX5_sweeps 5 = .ok (.invokevirtual 162, 3) := by decide +kernel
theorem dX5_sweeps_8 : decode cX5_sweeps 8 = .ok (.invokevirtual 165, 3) := by decide +kernel
theorem dX5_sweeps_11 : decode cX5_sweeps 11 = .ok (.ifCond .ne 5, 3) := by decide +kernel
theorem dX5_sweeps_14 : decode cX5_sweeps 14 = .ok (.iconst 0, 1) := by decide +kernel
theorem dX5_sweeps_15 : decode cX5_sweeps 15 = .ok (.ireturn, 1) := by decide +kernel
theorem dX5_sweeps_16 : decode cX5_sweeps 16 = .ok (.aload_n 0, 1) := by decide +kernel
theorem dX5_sweeps_17 : decode cX5_sweeps 17 = .ok (.iload_n 1, 1) := by decide +kernel
theorem dX5_sweeps_18 : decode cX5_sweeps 18 = .ok (.iload_n 2, 1) := by decide +kernel
theorem dX5_sweeps_19 : decode cX5_sweeps 19 = .ok (.iconst 0, 1) := by decide +kernel
theorem dX5_sweeps_20 : decode cX5_sweeps 20 = .ok (.invokevirtual 169, 3) := by decide +kernel
theorem dX5_sweeps_23 : decode cX5_sweeps 23 = .ok (.aload_n 0, 1) := by decide +kernel
theorem dX5_sweeps_24 : decode cX5_sweeps 24 = .ok (.iload_n 1, 1) := by decide +kernel
theorem dX5_sweeps_25 : decode cX5_sweeps 25 = .ok (.iload_n 3, 1) := by decide +kernel
theorem dX5_sweeps_26 : decode cX5_sweeps 26 = .ok (.iconst 4, 1) := by decide +kernel
theorem dX5_sweeps_27 : decode cX5_sweeps 27 = .ok (.invokevirtual 169, 3) := by decide +kernel
theorem dX5_sweeps_30 : decode cX5_sweeps 30 = .ok (.iconst 0, 1) := by decide +kernel
theorem dX5_sweeps_31 : decode cX5_sweeps 31 = .ok (.istore 5, 2) := by decide +kernel
theorem dX5_sweeps_33 : decode cX5_sweeps 33 = .ok (.iconst 0, 1) := by decide +kernel
theorem dX5_sweeps_34 : decode cX5_sweeps 34 = .ok (.istore 6, 2) := by decide +kernel
theorem dX5_sweeps_36 : decode cX5_sweeps 36 = .ok (.iload 6, 2) := by decide +kernel
theorem dX5_sweeps_38 : decode cX5_sweeps 38 = .ok (.iconst 4, 1) := by decide +kernel
theorem dX5_sweeps_39 : decode cX5_sweeps 39 = .ok (.if_icmp .ge 52, 3) := by decide +kernel
theorem dX5_sweeps_42 : decode cX5_sweeps 42 = .ok (.iload 5, 2) := by decide +kernel
theorem dX5_sweeps_44 : decode cX5_sweeps 44 = .ok (.ifCond .ne 34, 3) := by decide +kernel
theorem dX5_sweeps_47 : decode cX5_sweeps 47 = .ok (.aload_n 0, 1) := by decide +kernel
theorem dX5_sweeps_48 : decode cX5_sweeps 48 = .ok (.iload 6, 2) := by decide +kernel
theorem dX5_sweeps_50 : decode cX5_sweeps 50 = .ok (.iconst 4, 1) := by decide +kernel
theorem dX5_sweeps_51 : decode cX5_sweeps 51 = .ok (.iload 6, 2) := by decide +kernel
theorem dX5_sweeps_53 : decode cX5_sweeps 53 = .ok (.iadd, 1) := by decide +kernel
theorem dX5_sweeps_54 : decode cX5_sweeps 54 = .ok (.invokevirtual 173, 3) := by decide +kernel
theorem dX5_sweeps_57 : decode cX5_sweeps 57 = .ok (.ifCond .ne 21, 3) := by decide +kernel
theorem dX5_sweeps_60 : decode cX5_sweeps 60 = .ok (.aload_n 0, 1) := by decide +kernel
theorem dX5_sweeps_61 : decode cX5_sweeps 61 = .ok (.iload 6, 2) := by decide +kernel
theorem dX5_sweeps_63 : decode cX5_sweeps 63 = .ok (.iconst 4, 1) := by decide +kernel
theorem dX5_sweeps_64 : decode cX5_sweeps 64 = .ok (.iload 6, 2) := by decide +kernel
theorem dX5_sweeps_66 : decode cX5_sweeps 66 = .ok (.iload 4, 2) := by decide +kernel
theorem dX5_sweeps_68 : decode cX5_sweeps 68 = .ok (.iadd, 1) := by decide +kernel
theorem dX5_sweeps_69 : decode cX5_sweeps 69 = .ok (.iconst 4, 1) := by decide +kernel
theorem dX5_sweeps_70 : decode cX5_sweeps 70 = .ok (.irem, 1) := by decide +kernel
theorem dX5_sweeps_71 : decode cX5_sweeps 71 = .ok (.iadd, 1) := by decide +kernel
theorem dX5_sweeps_72 : decode cX5_sweeps 72 = .ok (.invokevirtual 173, 3) := by decide +kernel
theorem dX5_sweeps_75 : decode cX5_sweeps 75 = .ok (.ifCond .eq 7, 3) := by decide +kernel
theorem dX5_sweeps_78 : decode cX5_sweeps 78 = .ok (.iconst 1, 1) := by decide +kernel
theorem dX5_sweeps_79 : decode cX5_sweeps 79 = .ok (.goto 4, 3) := by decide +kernel
theorem dX5_sweeps_82 : decode cX5_sweeps 82 = .ok (.iconst 0, 1) := by decide +kernel
theorem dX5_sweeps_83 : decode cX5_sweeps 83 = .ok (.istore 5, 2) := by decide +kernel
theorem dX5_sweeps_85 : decode cX5_sweeps 85 = .ok (.iinc 6 1, 3) := by decide +kernel
theorem dX5_sweeps_88 : decode cX5_sweeps 88 = .ok (.goto (-52), 3) := by decide +kernel
theorem dX5_sweeps_91 : decode cX5_sweeps 91 = .ok (.iload 5, 2) := by decide +kernel
theorem dX5_sweeps_93 : decode cX5_sweeps 93 = .ok (.ireturn, 1) := by decide +kernel
theorem dX5_isClear_0 : decode cX5_isClear 0 = .ok (.aload_n 0, 1) := by decide +kernel
theorem dX5_isClear_1 : decode cX5_isClear 1 = .ok (.iload_n 1, 1) := by decide +kernel
theorem dX5_isClear_2 : decode cX5_isClear 2 = .ok (.invokevirtual 127, 3) := by decide +kernel
theorem dX5_isClear_5 : decode cX5_isClear 5 = .ok (.istore_n 2, 1) := by decide +kernel
theorem dX5_isClear_6 : decode cX5_isClear 6 = .ok (.iload_n 2, 1) := by decide +kernel
theorem dX5_isClear_7 : decode cX5_isClear 7 = .ok (.iload_n 1, 1) := by decide +kernel
theorem dX5_isClear_8 : decode cX5_isClear 8 = .ok (.ishr, 1) := by decide +kernel
theorem dX5_isClear_9 : decode cX5_isClear 9 = .ok (.iconst 1, 1) := by decide +kernel
theorem dX5_isClear_10 : decode cX5_isClear 10 = .ok (.iand, 1) := by decide +kernel
theorem dX5_isClear_11 : decode cX5_isClear 11 = .ok (.iconst 1, 1) := by decide +kernel
theorem dX5_isClear_12 : decode cX5_isClear 12 = .ok (.if_icmp .ne 7, 3) := by decide +kernel
theorem dX5_isClear_15 : decode cX5_isClear 15 = .ok (.iconst 1, 1) := by decide +kernel
theorem dX5_isClear_16 : decode cX5_isClear 16 = .ok (.goto 4, 3) := by decide +kernel
theorem dX5_isClear_19 : decode cX5_isClear 19 = .ok (.iconst 3, 1) := by decide +kernel
theorem dX5_isClear_20 : decode cX5_isClear 20 = .ok (.istore_n 3, 1) := by decide +kernel
theorem dX5_isClear_21 : decode cX5_isClear 21 = .ok (.iconst 0, 1) := by decide +kernel
theorem dX5_isClear_22 : decode cX5_isClear 22 = .ok (.istore 4, 2) := by decide +kernel
theorem dX5_isClear_24 : decode cX5_isClear 24 = .ok (.iload 4, 2) := by decide +kernel
theorem dX5_isClear_26 : decode cX5_isClear 26 = .ok (.aload_n 0, 1) := by decide +kernel
theorem dX5_isClear_27 : decode cX5_isClear 27 = .ok (.getfield 73, 3) := by decide +kernel
theorem dX5_isClear_30 : decode cX5_isClear 30 = .ok (.if_icmp .ge 119, 3) := by decide +kernel
theorem dX5_isClear_33 : decode cX5_isClear 33 = .ok (.iconst 0, 1) := by decide +kernel
theorem dX5_isClear_34 : decode cX5_isClear 34 = .ok (.istore 5, 2) := by decide +kernel
theorem dX5_isClear_36 : decode cX5_isClear 36 = .ok (.iload 5, 2) := by decide +kernel
theorem dX5_isClear_38 : decode cX5_isClear 38 = .ok (.aload_n 0, 1) := by decide +kernel
theorem dX5_isClear_39 : decode cX5_isClear 39 = .ok (.getfield 73, 3) := by decide +kernel
theorem dX5_isClear_42 : decode cX5_isClear 42 = .ok (.if_icmp .ge 101, 3) := by decide +kernel
theorem dX5_isClear_45 : decode cX5_isClear 45 = .ok (.iload_n 2, 1) := by decide +kernel
theorem dX5_isClear_46 : decode cX5_isClear 46 = .ok (.iload 4, 2) := by decide +kernel
theorem dX5_isClear_48 : decode cX5_isClear 48 = .ok (.ishr, 1) := by decide +kernel
theorem dX5_isClear_49 : decode cX5_isClear 49 = .ok (.iconst 1, 1) := by decide +kernel
theorem dX5_isClear_50 : decode cX5_isClear 50 = .ok (.iand, 1) := by decide +kernel
theorem dX5_isClear_51 : decode cX5_isClear 51 = .ok (.iconst 1, 1) := by decide +kernel
theorem dX5_isClear_52 : decode cX5_isClear 52 = .ok (.if_icmp .ne 16, 3) := by decide +kernel
theorem dX5_isClear_55 : decode cX5_isClear 55 = .ok (.iload_n 2, 1) := by decide +kernel
theorem dX5_isClear_56 : decode cX5_isClear 56 = .ok (.iload 5, 2) := by decide +kernel
theorem dX5_isClear_58 : decode cX5_isClear 58 = .ok (.ishr, 1) := by decide +kernel
theorem dX5_isClear_59 : decode cX5_isClear 59 = .ok (.iconst 1, 1) := by decide +kernel
theorem dX5_isClear_60 : decode cX5_isClear 60 = .ok (.iand, 1) := by decide +kernel
theorem dX5_isClear_61 : decode cX5_isClear 61 = .ok (.ifCond .ne 7, 3) := by decide +kernel
theorem dX5_isClear_64 : decode cX5_isClear 64 = .ok (.iconst 1, 1) := by decide +kernel
theorem dX5_isClear_65 : decode cX5_isClear 65 = .ok (.goto 4, 3) := by decide +kernel
theorem dX5_isClear_68 : decode cX5_isClear 68 = .ok (.iconst 0, 1) := by decide +kernel
theorem dX5_isClear_69 : decode cX5_isClear 69 = .ok (.istore 6, 2) := by decide +kernel
theorem dX5_isClear_71 : decode cX5_isClear 71 = .ok (.iload 4, 2) := by decide +kernel
theorem dX5_isClear_73 : decode cX5_isClear 73 = .ok (.iload_n 1, 1) := by decide +kernel
theorem dX5_isClear_74 : decode cX5_isClear 74 = .ok (.if_icmp .ne 14, 3) := by decide +kernel
theorem dX5_isClear_77 : decode cX5_isClear 77 = .ok (.iload 5, 2) := by decide +kernel
theorem dX5_isClear_79 : decode cX5_isClear 79 = .ok (.aload_n 0, 1) := by decide +kernel
theorem dX5_isClear_80 : decode cX5_isClear 80 = .ok (.getfield 13, 3) := by decide +kernel
theorem dX5_isClear_83 : decode cX5_isClear 83 = .ok (.iload_n 1, 1) := by decide +kernel
theorem dX5_isClear_84 : decode cX5_isClear 84 = .ok (.iaload, 1) := by decide +kernel
theorem dX5_isClear_85 : decode cX5_isClear 85 = .ok (.if_icmp .eq 20, 3) := by decide +kernel
theorem dX5_isClear_88 : decode cX5_isClear 88 = .ok (.iload 5, 2) := by decide +kernel
theorem dX5_isClear_90 : decode cX5_isClear 90 = .ok (.iload_n 1, 1) := by decide +kernel
theorem dX5_isClear_91 : decode cX5_isClear 91 = .ok (.if_icmp .ne 18, 3) := by decide +kernel
theorem dX5_isClear_94 : decode cX5_isClear 94 = .ok (.iload 4, 2) := by decide +kernel
theorem dX5_isClear_96 : decode cX5_isClear 96 = .ok (.aload_n 0, 1) := by decide +kernel
theorem dX5_isClear_97 : decode cX5_isClear 97 = .ok (.getfield 13, 3) := by decide +kernel
theorem dX5_isClear_100 : decode cX5_isClear 100 = .ok (.iload_n 1, 1) := by decide +kernel
theorem dX5_isClear_101 : decode cX5_isClear 101 = .ok (.iaload, 1) := by decide +kernel
theorem dX5_isClear_102 : decode cX5_isClear 102 = .ok (.if_icmp .ne 7, 3) := by decide +kernel
theorem dX5_isClear_105 : decode cX5_isClear 105 = .ok (.iconst 1, 1) := by decide +kernel
