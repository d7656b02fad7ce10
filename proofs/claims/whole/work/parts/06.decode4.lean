theorem dX5_over_39 : decode cX5_over 39 = .ok (.istore_n 3, 1) := by decide +kernel
theorem dX5_over_40 : decode cX5_over 40 = .ok (.aload_n 0, 1) := by decide +kernel
theorem dX5_over_41 : decode cX5_over 41 = .ok (.getfield 24, 3) := by decide +kernel
theorem dX5_over_44 : decode cX5_over 44 = .ok (.iconst 4, 1) := by decide +kernel
theorem dX5_over_45 : decode cX5_over 45 = .ok (.iload_n 2, 1) := by decide +kernel
theorem dX5_over_46 : decode cX5_over 46 = .ok (.imul, 1) := by decide +kernel
theorem dX5_over_47 : decode cX5_over 47 = .ok (.iload_n 1, 1) := by decide +kernel
theorem dX5_over_48 : decode cX5_over 48 = .ok (.aload_n 0, 1) := by decide +kernel
theorem dX5_over_49 : decode cX5_over 49 = .ok (.getfield 24, 3) := by decide +kernel
theorem dX5_over_52 : decode cX5_over 52 = .ok (.iconst 4, 1) := by decide +kernel
theorem dX5_over_53 : decode cX5_over 53 = .ok (.iload_n 2, 1) := by decide +kernel
theorem dX5_over_54 : decode cX5_over 54 = .ok (.imul, 1) := by decide +kernel
theorem dX5_over_55 : decode cX5_over 55 = .ok (.iconst 2, 1) := by decide +kernel
theorem dX5_over_56 : decode cX5_over 56 = .ok (.iadd, 1) := by decide +kernel
theorem dX5_over_57 : decode cX5_over 57 = .ok (.iaload, 1) := by decide +kernel
theorem dX5_over_58 : decode cX5_over 58 = .ok (.isub, 1) := by decide +kernel
theorem dX5_over_59 : decode cX5_over 59 = .ok (.iastore, 1) := by decide +kernel
theorem dX5_over_60 : decode cX5_over 60 = .ok (.aload_n 0, 1) := by decide +kernel
theorem dX5_over_61 : decode cX5_over 61 = .ok (.getfield 24, 3) := by decide +kernel
theorem dX5_over_64 : decode cX5_over 64 = .ok (.iconst 4, 1) := by decide +kernel
theorem dX5_over_65 : decode cX5_over 65 = .ok (.iload_n 2, 1) := by decide +kernel
theorem dX5_over_66 : decode cX5_over 66 = .ok (.imul, 1) := by decide +kernel
theorem dX5_over_67 : decode cX5_over 67 = .ok (.iconst 2, 1) := by decide +kernel
theorem dX5_over_68 : decode cX5_over 68 = .ok (.iadd, 1) := by decide +kernel
theorem dX5_over_69 : decode cX5_over 69 = .ok (.iload_n 1, 1) := by decide +kernel
theorem dX5_over_70 : decode cX5_over 70 = .ok (.iload_n 3, 1) := by decide +kernel
theorem dX5_over_71 : decode cX5_over 71 = .ok (.isub, 1) := by decide +kernel
theorem dX5_over_72 : decode cX5_over 72 = .ok (.iastore, 1) := by decide +kernel
theorem dX5_over_73 : decode cX5_over 73 = .ok (.aload_n 0, 1) := by decide +kernel
theorem dX5_over_74 : decode cX5_over 74 = .ok (.getfield 20, 3) := by decide +kernel
theorem dX5_over_77 : decode cX5_over 77 = .ok (.iload_n 2, 1) := by decide +kernel
theorem dX5_over_78 : decode cX5_over 78 = .ok (.aload_n 0, 1) := by decide +kernel
theorem dX5_over_79 : decode cX5_over 79 = .ok (.getfield 20, 3) := by decide +kernel
theorem dX5_over_82 : decode cX5_over 82 = .ok (.iload_n 2, 1) := by decide +kernel
theorem dX5_over_83 : decode cX5_over 83 = .ok (.baload, 1) := by decide +kernel
theorem dX5_over_84 : decode cX5_over 84 = .ok (.ifCond .ne 7, 3) := by decide +kernel
theorem dX5_over_87 : decode cX5_over 87 = .ok (.iconst 1, 1) := by decide +kernel
theorem dX5_over_88 : decode cX5_over 88 = .ok (.goto 4, 3) := by decide +kernel
theorem dX5_over_91 : decode cX5_over 91 = .ok (.iconst 0, 1) := by decide +kernel
theorem dX5_over_92 : decode cX5_over 92 = .ok (.bastore, 1) := by decide +kernel
theorem dX5_over_93 : decode cX5_over 93 = .ok (.aload_n 0, 1) := by decide +kernel
theorem dX5_over_94 : decode cX5_over 94 = .ok (.getfield 17, 3) := by decide +kernel
theorem dX5_over_97 : decode cX5_over 97 = .ok (.iload_n 2, 1) := by decide +kernel
theorem dX5_over_98 : decode cX5_over 98 = .ok (.iload_n 2, 1) := by decide +kernel
theorem dX5_over_99 : decode cX5_over 99 = .ok (.ifCond .le 25, 3) := by decide +kernel
theorem dX5_over_102 : decode cX5_over 102 = .ok (.aload_n 0, 1) := by decide +kernel
theorem dX5_over_103 : decode cX5_over 103 = .ok (.getfield 17, 3) := by decide +kernel
theorem dX5_over_106 : decode cX5_over 106 = .ok (.iload_n 2, 1) := by decide +kernel
theorem dX5_over_107 : decode cX5_over 107 = .ok (.iaload, 1) := by decide +kernel
theorem dX5_over_108 : decode cX5_over 108 = .ok (.iconst 2, 1) := by decide +kernel
theorem dX5_over_109 : decode cX5_over 109 = .ok (.irem, 1) := by decide +kernel
theorem dX5_over_110 : decode cX5_over 110 = .ok (.ifCond .ne 14, 3) := by decide +kernel
theorem dX5_over_113 : decode cX5_over 113 = .ok (.iconst 2, 1) := by decide +kernel
theorem dX5_over_114 : decode cX5_over 114 = .ok (.aload_n 0, 1) := by decide +kernel
theorem dX5_over_115 : decode cX5_over 115 = .ok (.getfield 17, 3) := by decide +kernel
theorem dX5_over_118 : decode cX5_over 118 = .ok (.iload_n 2, 1) := by decide +kernel
theorem dX5_over_119 : decode cX5_over 119 = .ok (.iaload, 1) := by decide +kernel
theorem dX5_over_120 : decode cX5_over 120 = .ok (.isub, 1) := by decide +kernel
theorem dX5_over_121 : decode cX5_over 121 = .ok (.goto 9, 3) := by decide +kernel
theorem dX5_over_124 : decode cX5_over 124 = .ok (.aload_n 0, 1) := by decide +kernel
theorem dX5_over_125 : decode cX5_over 125 = .ok (.getfield 17, 3) := by decide +kernel
theorem dX5_over_128 : decode cX5_over 128 = .ok (.iload_n 2, 1) := by decide +kernel
theorem dX5_over_129 : decode cX5_over 129 = .ok (.iaload, 1) := by decide +kernel
theorem dX5_over_130 : decode cX5_over 130 = .ok (.iastore, 1) := by decide +kernel
theorem dX5_over_131 : decode cX5_over 131 = .ok (.iinc 2 1, 3) := by decide +kernel
theorem dX5_over_134 : decode cX5_over 134 = .ok (.goto (-111), 3) := by decide +kernel
theorem dX5_over_137 : decode cX5_over 137 = .ok (.aload_n 0, 1) := by decide +kernel
theorem dX5_over_138 : decode cX5_over 138 = .ok (.iconst 0, 1) := by decide +kernel
theorem dX5_over_139 : decode cX5_over 139 = .ok (.putfield 76, 3) := by decide +kernel
theorem dX5_over_142 : decode cX5_over 142 = .ok (.iconst 1, 1) := by decide +kernel
theorem dX5_over_143 : decode cX5_over 143 = .ok (.ireturn, 1) := by decide +kernel
theorem dX5_hasBend_0 : decode cX5_hasBend 0 = .ok (.iload_n 1, 1) := by decide +kernel
theorem dX5_hasBend_1 : decode cX5_hasBend 1 = .ok (.ifCond .le 21, 3) := by decide +kernel
theorem dX5_hasBend_4 : decode cX5_hasBend 4 = .ok (.iload_n 2, 1) := by decide +kernel
theorem dX5_hasBend_5 : decode cX5_hasBend 5 = .ok (.aload_n 0, 1) := by decide +kernel
theorem dX5_hasBend_6 : decode cX5_hasBend 6 = .ok (.getfield 17, 3) := by decide +kernel
theorem dX5_hasBend_9 : decode cX5_hasBend 9 = .ok (.iload_n 1, 1) := by decide +kernel
theorem dX5_hasBend_10 : decode cX5_hasBend 10 = .ok (.iaload, 1) := by decide +kernel
theorem dX5_hasBend_11 : decode cX5_hasBend 11 = .ok (.iconst 2, 1) := by decide +kernel
theorem dX5_hasBend_12 : decode cX5_hasBend 12 = .ok (.iadd, 1) := by decide +kernel
theorem dX5_hasBend_13 : decode cX5_hasBend 13 = .ok (.iconst 4, 1) := by decide +kernel
theorem dX5_hasBend_14 : decode cX5_hasBend 14 = .ok (.irem, 1) := by decide +kernel
theorem dX5_hasBend_15 : decode cX5_hasBend 15 = .ok (.if_icmp .ne 7, 3) := by decide +kernel
theorem dX5_hasBend_18 : decode cX5_hasBend 18 = .ok (.iconst 1, 1) := by decide +kernel
theorem dX5_hasBend_19 : decode cX5_hasBend 19 = .ok (.goto 4, 3) := by decide +kernel
theorem dX5_hasBend_22 : decode cX5_hasBend 22 = .ok (.iconst 0, 1) := by decide +kernel
theorem dX5_hasBend_23 : decode cX5_hasBend 23 = .ok (.istore_n 3, 1) := by decide +kernel
theorem dX5_hasBend_24 : decode cX5_hasBend 24 = .ok (.iconst 1, 1) := by decide +kernel
theorem dX5_hasBend_25 : decode cX5_hasBend 25 = .ok (.istore 4, 2) := by decide +kernel
theorem dX5_hasBend_27 : decode cX5_hasBend 27 = .ok (.iload 4, 2) := by decide +kernel
theorem dX5_hasBend_29 : decode cX5_hasBend 29 = .ok (.aload_n 0, 1) := by decide +kernel
theorem dX5_hasBend_30 : decode cX5_hasBend 30 = .ok (.getfield 73, 3) := by decide +kernel
theorem dX5_hasBend_33 : decode cX5_hasBend 33 = .ok (.if_icmp .ge 41, 3) := by decide +kernel
theorem dX5_hasBend_36 : decode cX5_hasBend 36 = .ok (.iload_n 3, 1) := by decide +kernel
theorem dX5_hasBend_37 : decode cX5_hasBend 37 = .ok (.ifCond .ne 25, 3) := by decide +kernel
theorem dX5_hasBend_40 : decode cX5_hasBend 40 = .ok (.aload_n 0, 1) := by decide +kernel
theorem dX5_hasBend_41 : decode cX5_hasBend 41 = .ok (.getfield 13, 3) := by decide +kernel
theorem dX5_hasBend_44 : decode cX5_hasBend 44 = .ok (.iload 4, 2) := by decide +kernel
theorem dX5_hasBend_46 : decode cX5_hasBend 46 = .ok (.iaload, 1) := by decide +kernel
theorem dX5_hasBend_47 : decode cX5_hasBend 47 = .ok (.iload_n 1, 1) := by decide +kernel
theorem dX5_hasBend_48 : decode cX5_hasBend 48 = .ok (.if_icmp .ne 18, 3) := by decide +kernel
theorem dX5_hasBend_51 : decode cX5_hasBend 51 = .ok (.aload_n 0, 1) := by decide +kernel
theorem dX5_hasBend_52 : decode cX5_hasBend 52 = .ok (.getfield 17, 3) := by decide +kernel
theorem dX5_hasBend_55 : decode cX5_hasBend 55 = .ok (.iload 4, 2) := by decide +kernel
theorem dX5_hasBend_57 : decode cX5_hasBend 57 = .ok (.iaload, 1) := by decide +kernel
theorem dX5_hasBend_58 : decode cX5_hasBend 58 = .ok (.iload_n 2, 1) := by decide +kernel
theorem dX5_hasBend_59 : decode cX5_hasBend 59 = .ok (.if_icmp .ne 7, 3) := by decide +kernel
theorem dX5_hasBend_62 : decode cX5_hasBend 62 = .ok (.iconst 1, 1) := by decide +kernel
theorem dX5_hasBend_63 : decode cX5_hasBend 63 = .ok (.goto 4, 3) := by decide +kernel
theorem dX5_hasBend_66 : decode cX5_hasBend 66 = .ok (.iconst 0, 1) := by decide +kernel
theorem dX5_hasBend_67 : decode cX5_hasBend 67 = .ok (.istore_n 3, 1) := by decide +kernel
theorem dX5_hasBend_68 : decode cX5_hasBend 68 = .ok (.iinc 4 1, 3) := by decide +kernel
theorem dX5_hasBend_71 : decode cX5_hasBend 71 = .ok (.goto (-44), 3) := by decide +kernel
theorem dX5_hasBend_74 : decode cX5_hasBend 74 = .ok (.iload_n 3, 1) := by decide +kernel
theorem dX5_hasBend_75 : decode cX5_hasBend 75 = .ok (.ireturn, 1) := by decide +kernel
theorem dX5_layFlat_0 : decode cX5_layFlat 0 = .ok (.aload_n 0, 1) := by decide +kernel
theorem dX5_layFlat_1 : decode cX5_layFlat 1 = .ok (.getfield 84, 3) := by decide +kernel
theorem dX5_layFlat_4 : decode cX5_layFlat 4 = .ok (.iconst 2, 1) := by decide +kernel
theorem dX5_layFlat_5 : decode cX5_layFlat 5 = .ok (.idiv, 1) := by decide +kernel
theorem dX5_layFlat_6 : decode cX5_layFlat 6 = .ok (.istore_n 1, 1) := by decide +kernel
theorem dX5_layFlat_7 : decode cX5_layFlat 7 = .ok (.iconst 0, 1) := by decide +kernel
theorem dX5_layFlat_8 : decode cX5_layFlat 8 = .ok (.istore_n 2, 1) := by decide +kernel
theorem dX5_layFlat_9 : decode cX5_layFlat 9 = .ok (.iload_n 2, 1) := by decide +kernel
theorem dX5_layFlat_10 : decode cX5_layFlat 10 = .ok (.aload_n 0, 1) := by decide +kernel
theorem dX5_layFlat_11 : decode cX5_layFlat 11 = .ok (.getfield 73, 3) := by decide +kernel
theorem dX5_layFlat_14 : decode cX5_layFlat 14 = .ok (.if_icmp .ge 294, 3) := by decide +kernel
theorem dX5_layFlat_17 : decode cX5_layFlat 17 = .ok (.aload_n 0, 1) := by decide +kernel
theorem dX5_layFlat_18 : decode cX5_layFlat 18 = .ok (.getfield 27, 3) := by decide +kernel
theorem dX5_layFlat_21 : decode cX5_layFlat 21 = .ok (.iconst 4, 1) := by decide +kernel
theorem dX5_layFlat_22 : decode cX5_layFlat 22 = .ok (.iload_n 2, 1) := by decide +kernel
theorem dX5_layFlat_23 : decode cX5_layFlat 23 = .ok (.imul, 1) := by decide +kernel
theorem dX5_layFlat_24 : decode cX5_layFlat 24 = .ok (.aload_n 0, 1) := by decide +kernel
theorem dX5_layFlat_25 : decode cX5_layFlat 25 = .ok (.getfield 24, 3) := by decide +kernel
theorem dX5_layFlat_28 : decode cX5_layFlat 28 = .ok (.iconst 4, 1) := by decide +kernel
theorem dX5_layFlat_29 : decode cX5_layFlat 29 = .ok (.iload_n 2, 1) := by decide +kernel
theorem dX5_layFlat_30 : decode cX5_layFlat 30 = .ok (.imul, 1) := by decide +kernel
theorem dX5_layFlat_31 : decode cX5_layFlat 31 = .ok (.iaload, 1) := by decide +kernel
theorem dX5_layFlat_32 : decode cX5_layFlat 32 = .ok (.aload_n 0, 1) := by decide +kernel
theorem dX5_layFlat_33 : decode cX5_layFlat 33 = .ok (.iload_n 2, 1) := by decide +kernel
theorem dX5_layFlat_34 : decode cX5_layFlat 34 = .ok (.iconst 2, 1) := by decide +kernel
theorem dX5_layFlat_35 : decode cX5_layFlat 35 = .ok (.invokevirtual 89, 3) := by decide +kernel
theorem dX5_layFlat_38 : decode cX5_layFlat 38 = .ok (.ifCond .eq 7, 3) := by decide +kernel
theorem dX5_layFlat_41 : decode cX5_layFlat 41 = .ok (.iload_n 1, 1) := by decide +kernel
theorem dX5_layFlat_42 : decode cX5_layFlat 42 = .ok (.goto 4, 3) := by decide +kernel
theorem dX5_layFlat_45 : decode cX5_layFlat 45 = .ok (.iconst 0, 1) := by decide +kernel
theorem dX5_layFlat_46 : decode cX5_layFlat 46 = .ok (.iadd, 1) := by decide +kernel
theorem dX5_layFlat_47 : decode cX5_layFlat 47 = .ok (.iastore, 1) := by decide +kernel
theorem dX5_layFlat_48 : decode cX5_layFlat 48 = .ok (.aload_n 0, 1) := by decide +kernel
theorem dX5_layFlat_49 : decode cX5_layFlat 49 = .ok (.getfield 27, 3) := by decide +kernel
theorem dX5_layFlat_52 : decode cX5_layFlat 52 = .ok (.iconst 4, 1) := by decide +kernel
theorem dX5_layFlat_53 : decode cX5_layFlat 53 = .ok (.iload_n 2, 1) := by decide +kernel
theorem dX5_layFlat_54 : decode cX5_layFlat 54 = .ok (.imul, 1) := by decide +kernel
theorem dX5_layFlat_55 : decode cX5_layFlat 55 = .ok (.iconst 1, 1) := by decide +kernel
theorem dX5_layFlat_56 : decode cX5_layFlat 56 = .ok (.iadd, 1) := by decide +kernel
theorem dX5_layFlat_57 : decode cX5_layFlat 57 = .ok (.aload_n 0, 1) := by decide +kernel
theorem dX5_layFlat_58 : decode cX5_layFlat 58 = .ok (.getfield 24, 3) := by decide +kernel
theorem dX5_layFlat_61 : decode cX5_layFlat 61 = .ok (.iconst 4, 1) := by decide +kernel
theorem dX5_layFlat_62 : decode cX5_layFlat 62 = .ok (.iload_n 2, 1) := by decide +kernel
theorem dX5_layFlat_63 : decode cX5_layFlat 63 = .ok (.imul, 1) := by decide +kernel
theorem dX5_layFlat_64 : decode cX5_layFlat 64 = .ok (.iconst 1, 1) := by decide +kernel
theorem dX5_layFlat_65 : decode cX5_layFlat 65 = .ok (.iadd, 1) := by decide +kernel
theorem dX5_layFlat_66 : decode cX5_layFlat 66 = .ok (.iaload, 1) := by decide +kernel
theorem dX5_layFlat_67 : decode cX5_layFlat 67 = .ok (.aload_n 0, 1) := by decide +kernel
theorem dX5_layFlat_68 : decode cX5_layFlat 68 = .ok (.iload_n 2, 1) := by decide +kernel
theorem dX5_layFlat_69 : decode cX5_layFlat 69 = .ok (.iconst 3, 1) := by decide +kernel
theorem dX5_layFlat_70 : decode cX5_layFlat 70 = .ok (.invokevirtual 89, 3) := by decide +kernel
theorem dX5_layFlat_73 : decode cX5_layFlat 73 = .ok (.ifCond .eq 7, 3) := by decide +kernel
theorem dX5_layFlat_76 : decode cX5_layFlat 76 = .ok (.iload_n 1, 1) := by decide +kernel
theorem dX5_layFlat_77 : decode cX5_layFlat 77 = .ok (.goto 4, 3) := by decide +kernel
theorem dX5_layFlat_80 : decode cX5_layFlat 80 = .ok (.iconst 0, 1) := by decide +kernel
theorem dX5_layFlat_81 : decode cX5_layFlat 81 = .ok (.iadd, 1) := by decide +kernel
theorem dX5_layFlat_82 : decode cX5_layFlat 82 = .ok (.iastore, 1) := by decide +kernel
theorem dX5_layFlat_83 : decode cX5_layFlat 83 = .ok (.aload_n 0, 1) := by decide +kernel
theorem dX5_layFlat_84 : decode cX5_layFlat 84 = .ok (.getfield 27, 3) := by decide +kernel
theorem dX5_layFlat_87 : decode cX5_layFlat 87 = .ok (.iconst 4, 1) := by decide +kernel
theorem dX5_layFlat_88 : decode cX5_layFlat 88 = .ok (.iload_n 2, 1) := by decide +kernel
theorem dX5_layFlat_89 : decode cX5_layFlat 89 = .ok (.imul, 1) := by decide +kernel
theorem dX5_layFlat_90 : decode cX5_layFlat 90 = .ok (.iconst 2, 1) := by decide +kernel
theorem dX5_layFlat_91 : decode cX5_layFlat 91 = .ok (.iadd, 1) := by decide +kernel
theorem dX5_layFlat_92 : decode cX5_layFlat 92 = .ok (.aload_n 0, 1) := by decide +kernel
theorem dX5_layFlat_93 : decode cX5_layFlat 93 = .ok (.getfield 24, 3) := by decide +kernel
theorem dX5_layFlat_96 : decode cX5_layFlat 96 = .ok (.iconst 4, 1) := by decide +kernel
theorem dX5_layFlat_97 : decode cX5_layFlat 97 = .ok (.iload_n 2, 1) := by decide +kernel
theorem dX5_layFlat_98 : decode cX5_layFlat 98 = .ok (.imul, 1) := by decide +kernel
theorem dX5_layFlat_99 : decode cX5_layFlat 99 = .ok (.iconst 2, 1) := by decide +kernel
theorem dX5_layFlat_100 : decode cX5_layFlat 100 = .ok (.iadd, 1) := by decide +kernel
theorem dX5_layFlat_101 : decode cX5_layFlat 101 = .ok (.iaload, 1) := by decide +kernel
theorem dX5_layFlat_102 : decode cX5_layFlat 102 = .ok (.aload_n 0, 1) := by decide +kernel
theorem dX5_layFlat_103 : decode cX5_layFlat 103 = .ok (.iload_n 2, 1) := by decide +kernel
theorem dX5_layFlat_104 : decode cX5_layFlat 104 = .ok (.iconst 0, 1) := by decide +kernel
theorem dX5_layFlat_105 : decode cX5_layFlat 105 = .ok (.invokevirtual 89, 3) := by decide +kernel
theorem dX5_layFlat_108 : decode cX5_layFlat 108 = .ok (.ifCond .eq 7, 3) := by decide +kernel
theorem dX5_layFlat_111 : decode cX5_layFlat 111 = .ok (.iload_n 1, 1) := by decide +kernel
theorem dX5_layFlat_112 : decode cX5_layFlat 112 = .ok (.goto 4, 3) := by decide +kernel
theorem dX5_layFlat_115 : decode cX5_layFlat 115 = .ok (.iconst 0, 1) := by decide +kernel
theorem dX5_layFlat_116 : decode cX5_layFlat 116 = .ok (.isub, 1) := by decide +kernel
theorem dX5_layFlat_117 : decode cX5_layFlat 117 = .ok (.iastore, 1) := by decide +kernel
theorem dX5_layFlat_118 : decode cX5_layFlat 118 = .ok (.aload_n 0, 1) := by decide +kernel
theorem dX5_layFlat_119 : decode cX5_layFlat 119 = .ok (.getfield 27, 3) := by decide +kernel
theorem dX5_layFlat_122 : decode cX5_layFlat 122 = .ok (.iconst 4, 1) := by decide +kernel
theorem dX5_layFlat_123 : decode cX5_layFlat 123 = .ok (.iload_n 2, 1) := by decide +kernel
theorem dX5_layFlat_124 : decode cX5_layFlat 124 = .ok (.imul, 1) := by decide +kernel
theorem dX5_layFlat_125 : decode cX5_layFlat 125 = .ok (.iconst 3, 1) := by decide +kernel
theorem dX5_layFlat_126 : decode cX5_layFlat 126 = .ok (.iadd, 1) := by decide +kernel
theorem dX5_layFlat_127 : decode cX5_layFlat 127 = .ok (.aload_n 0, 1) := by decide +kernel
theorem dX5_layFlat_128 : decode cX5_layFlat 128 = .ok (.getfield 24, 3) := by decide +kernel
theorem dX5_layFlat_131 : decode cX5_layFlat 131 = .ok (.iconst 4, 1) := by decide +kernel
theorem dX5_layFlat_132 : decode cX5_layFlat 132 = .ok (.iload_n 2, 1) := by decide +kernel
theorem dX5_layFlat_133 : decode cX5_layFlat 133 = .ok (.imul, 1) := by decide +kernel
theorem dX5_layFlat_134 : decode cX5_layFlat 134 = .ok (.iconst 3, 1) := by decide +kernel
theorem dX5_layFlat_135 : decode cX5_layFlat 135 = .ok (.iadd, 1) := by decide +kernel
theorem dX5_layFlat_136 : decode cX5_layFlat 136 = .ok (.iaload, 1) := by decide +kernel
theorem dX5_layFlat_137 : decode cX5_layFlat 137 = .ok (.aload_n 0, 1) := by decide +kernel
theorem dX5_layFlat_138 : decode cX5_layFlat 138 = .ok (.iload_n 2, 1) := by decide +kernel
theorem dX5_layFlat_139 : decode cX5_layFlat 139 = .ok (.iconst 1, 1) := by decide +kernel
theorem dX5_layFlat_140 : decode cX5_layFlat 140 = .ok (.invokevirtual 89, 3) := by decide +kernel
theorem dX5_layFlat_143 : decode cX5_layFlat 143 = .ok (.ifCond .eq 7, 3) := by decide +kernel
theorem dX5_layFlat_146 : decode cX5_layFlat 146 = .ok (.iload_n 1, 1) := by decide +kernel
theorem dX5_layFlat_147 : decode cX5_layFlat 147 = .ok (.goto 4, 3) := by decide +kernel
theorem dX5_layFlat_150 : decode cX5_layFlat 150 = .ok (.iconst 0, 1) := by decide +kernel
theorem dX5_layFlat_151 : decode cX5_layFlat 151 = .ok (.isub, 1) := by decide +kernel
theorem dX5_layFlat_152 : decode cX5_layFlat 152 = .ok (.iastore, 1) := by decide +kernel
theorem dX5_layFlat_153 : decode cX5_layFlat 153 = .ok (.iload_n 2, 1) := by decide +kernel
theorem dX5_layFlat_154 : decode cX5_layFlat 154 = .ok (.istore_n 3, 1) := by decide +kernel
theorem dX5_layFlat_155 : decode cX5_layFlat 155 = .ok (.iload_n 3, 1) := by decide +kernel
theorem dX5_layFlat_156 : decode cX5_layFlat 156 = .ok (.ifCond .le 146, 3) := by decide +kernel
theorem dX5_layFlat_159 : decode cX5_layFlat 159 = .ok (.aload_n 0, 1) := by decide +kernel
theorem dX5_layFlat_160 : decode cX5_layFlat 160 = .ok (.getfield 17, 3) := by decide +kernel
theorem dX5_layFlat_163 : decode cX5_layFlat 163 = .ok (.iload_n 3, 1) := by decide +kernel
theorem dX5_layFlat_164 : decode cX5_layFlat 164 = .ok (.iaload, 1) := by decide +kernel
theorem dX5_layFlat_165 : decode cX5_layFlat 165 = .ok (.ifCond .ne 11, 3) := by decide +kernel
theorem dX5_layFlat_168 : decode cX5_layFlat 168 = .ok (.aload_n 0, 1) := by decide +kernel
theorem dX5_layFlat_169 : decode cX5_layFlat 169 = .ok (.getfield 84, 3) := by decide +kernel
theorem dX5_layFlat_172 : decode cX5_layFlat 172 = .ok (.ineg, 1) := by decide +kernel
theorem dX5_layFlat_173 : decode cX5_layFlat 173 = .ok (.goto 21, 3) := by decide +kernel
theorem dX5_layFlat_176 : decode cX5_layFlat 176 = .ok (.aload_n 0, 1) := by decide +kernel
theorem dX5_layFlat_177 : decode cX5_layFlat 177 = .ok (.getfield 17, 3) := by decide +kernel
theorem dX5_layFlat_180 : decode cX5_layFlat 180 = .ok (.iload_n 3, 1) := by decide +kernel
theorem dX5_layFlat_181 : decode cX5_layFlat 181 = .ok (.iaload, 1) := by decide +kernel
theorem dX5_layFlat_182 : decode cX5_layFlat 182 = .ok (.iconst 2, 1) := by decide +kernel
theorem dX5_layFlat_183 : decode cX5_layFlat 183 = .ok (.if_icmp .ne 10, 3) := by decide +kernel
theorem dX5_layFlat_186 : decode cX5_layFlat 186 = .ok (.aload_n 0, 1) := by decide +kernel
theorem dX5_layFlat_187 : decode cX5_layFlat 187 = .ok (.getfield 84, 3) := by decide +kernel
theorem dX5_layFlat_190 : decode cX5_layFlat 190 = .ok (.goto 4, 3) := by decide +kernel
theorem dX5_layFlat_193 : decode cX5_layFlat 193 = .ok (.iconst 0, 1) := by decide +kernel
theorem dX5_layFlat_194 : decode cX5_layFlat 194 = .ok (.istore 4, 2) := by decide +kernel
theorem dX5_layFlat_196 : decode cX5_layFlat 196 = .ok (.aload_n 0, 1) := by decide +kernel
theorem dX5_layFlat_197 : decode cX5_layFlat 197 = .ok (.getfield 17, 3) := by decide +kernel
theorem dX5_layFlat_200 : decode cX5_layFlat 200 = .ok (.iload_n 3, 1) := by decide +kernel
theorem dX5_layFlat_201 : decode cX5_layFlat 201 = .ok (.iaload, 1) := by decide +kernel
theorem dX5_layFlat_202 : decode cX5_layFlat 202 = .ok (.iconst 1, 1) := by decide +kernel
theorem dX5_layFlat_203 : decode cX5_layFlat 203 = .ok (.if_icmp .ne 11, 3) := by decide +kernel
theorem dX5_layFlat_206 : decode cX5_layFlat 206 = .ok (.aload_n 0, 1) := by decide +kernel
theorem dX5_layFlat_207 : decode cX5_layFlat 207 = .ok (.getfield 84, 3) := by decide +kernel
theorem dX5_layFlat_210 : decode cX5_layFlat 210 = .ok (.ineg, 1) := by decide +kernel
theorem dX5_layFlat_211 : decode cX5_layFlat 211 = .ok (.goto 21, 3) := by decide +kernel
theorem dX5_layFlat_214 : decode cX5_layFlat 214 = .ok (.aload_n 0, 1) := by decide +kernel
theorem dX5_layFlat_215 : decode cX5_layFlat 215 = .ok (.getfield 17, 3) := by decide +kernel
theorem dX5_layFlat_218 : decode cX5_layFlat 218 = .ok (.iload_n 3, 1) := by decide +kernel
theorem dX5_layFlat_219 : decode cX5_layFlat 219 = .ok (.iaload, 1) := by decide +kernel
theorem dX5_layFlat_220 : decode cX5_layFlat 220 = .ok (.iconst 3, 1) := by decide +kernel
theorem dX5_layFlat_221 : decode cX5_layFlat 221 = .ok (.if_icmp .ne 10, 3) := by decide +kernel
theorem dX5_layFlat_224 : decode cX5_layFlat 224 = .ok (.aload_n 0, 1) := by decide +kernel
theorem dX5_layFlat_225 : decode cX5_layFlat 225 = .ok (.getfield 84, 3) := by decide +kernel
theorem dX5_layFlat_228 : decode cX5_layFlat 228 = .ok (.goto 4, 3) := by decide +kernel
theorem dX5_layFlat_231 : decode cX5_layFlat 231 = .ok (.iconst 0, 1) := by decide +kernel
theorem dX5_layFlat_232 : decode cX5_layFlat 232 = .ok (.istore 5, 2) := by decide +kernel
theorem dX5_layFlat_234 : decode cX5_layFlat 234 = .ok (.aload_n 0, 1) := by decide +kernel
theorem dX5_layFlat_235 : decode cX5_layFlat 235 = .ok (.getfield 27, 3) := by decide +kernel
theorem dX5_layFlat_238 : decode cX5_layFlat 238 = .ok (.iconst 4, 1) := by decide +kernel
theorem dX5_layFlat_239 : decode cX5_layFlat 239 = .ok (.iload_n 2, 1) := by decide +kernel
theorem dX5_layFlat_240 : decode cX5_layFlat 240 = .ok (.imul, 1) := by decide +kernel
theorem dX5_layFlat_241 : decode cX5_layFlat 241 = .ok (.dup2, 1) := by decide +kernel
theorem dX5_layFlat_242 : decode cX5_layFlat 242 = .ok (.iaload, 1) := by decide +kernel
theorem dX5_layFlat_243 : decode cX5_layFlat 243 = .ok (.iload 4, 2) := by decide +kernel
theorem dX5_layFlat_245 : decode cX5_layFlat 245 = .ok (.iadd, 1) := by decide +kernel
theorem dX5_layFlat_246 : decode cX5_layFlat 246 = .ok (.iastore, 1) := by decide +kernel
theorem dX5_layFlat_247 : decode cX5_layFlat 247 = .ok (.aload_n 0, 1) := by decide +kernel
theorem dX5_layFlat_248 : decode cX5_layFlat 248 = .ok (.getfield 27, 3) := by decide +kernel
theorem dX5_layFlat_251 : decode cX5_layFlat 251 = .ok (.iconst 4, 1) := by decide +kernel
theorem dX5_layFlat_252 : decode cX5_layFlat 252 = .ok (.iload_n 2, 1) := by decide +kernel
theorem dX5_layFlat_253 : decode cX5_layFlat 253 = .ok (.imul, 1) := by decide +kernel
theorem dX5_layFlat_254 : decode cX5_layFlat 254 = .ok (.iconst 2, 1) := by decide +kernel
theorem dX5_layFlat_255 : decode cX5_layFlat 255 = .ok (.iadd, 1) := by decide +kernel
theorem dX5_layFlat_256 : decode cX5_layFlat 256 = .ok (.dup2, 1) := by decide +kernel
theorem dX5_layFlat_257 : decode cX5_layFlat 257 = .ok (.iaload, 1) := by decide +kernel
theorem dX5_layFlat_258 : decode cX5_layFlat 258 = .ok (.iload 4, 2) := by decide +kernel
theorem dX5_layFlat_260 : decode cX5_layFlat 260 = .ok (.iadd, 1) := by decide +kernel
theorem dX5_layFlat_261 : decode cX5_layFlat 261 = .ok (.iastore, 1) := by decide +kernel
theorem dX5_layFlat_262 : decode cX5_layFlat 262 = .ok (.aload_n 0, 1) := by decide +kernel
theorem dX5_layFlat_263 : decode cX5_layFlat 263 = .ok (.getfield 27, 3) := by decide +kernel
theorem dX5_layFlat_266 : decode cX5_layFlat 266 = .ok (.iconst 4, 1) := by decide +kernel
theorem dX5_layFlat_267 : decode cX5_layFlat 267 = .ok (.iload_n 2, 1) := by decide +kernel
theorem dX5_layFlat_268 : decode cX5_layFlat 268 = .ok (.imul, 1) := by decide +kernel
theorem dX5_layFlat_269 : decode cX5_layFlat 269 = .ok (.iconst 1, 1) := by decide +kernel
theorem dX5_layFlat_270 : decode cX5_layFlat 270 = .ok (.iadd, 1) := by decide +kernel
theorem dX5_layFlat_271 : decode cX5_layFlat 271 = .ok (.dup2, 1) := by decide +kernel
theorem dX5_layFlat_272 : decode cX5_layFlat 272 = .ok (.iaload, 1) := by decide +kernel
theorem dX5_layFlat_273 : decode cX5_layFlat 273 = .ok (.iload 5, 2) := by decide +kernel
theorem dX5_layFlat_275 : decode cX5_layFlat 275 = .ok (.iadd, 1) := by decide +kernel
theorem dX5_layFlat_276 : decode cX5_layFlat 276 = .ok (.iastore, 1) := by decide +kernel
theorem dX5_layFlat_277 : decode cX5_layFlat 277 = .ok (.aload_n 0, 1) := by decide +kernel
theorem dX5_layFlat_278 : decode cX5_layFlat 278 = .ok (.getfield 27, 3) := by decide +kernel
theorem dX5_layFlat_281 : decode cX5_layFlat 281 = .ok (.iconst 4, 1) := by decide +kernel
theorem dX5_layFlat_282 : decode cX5_layFlat 282 = .ok (.iload_n 2, 1) := by decide +kernel
theorem dX5_layFlat_283 : decode cX5_layFlat 283 = .ok (.imul, 1) := by decide +kernel
theorem dX5_layFlat_284 : decode cX5_layFlat 284 = .ok (.iconst 3, 1) := by decide +kernel
theorem dX5_layFlat_285 : decode cX5_layFlat 285 = .ok (.iadd, 1) := by decide +kernel
theorem dX5_layFlat_286 : decode cX5_layFlat 286 = .ok (.dup2, 1) := by decide +kernel
theorem dX5_layFlat_287 : decode cX5_layFlat 287 = .ok (.iaload, 1) := by decide +kernel
theorem dX5_layFlat_288 : decode cX5_layFlat 288 = .ok (.iload 5, 2) := by decide +kernel
theorem dX5_layFlat_290 : decode cX5_layFlat 290 = .ok (.iadd, 1) := by decide +kernel
theorem dX5_layFlat_291 : decode cX5_layFlat 291 = .ok (.iastore, 1) := by decide +kernel
theorem dX5_layFlat_292 : decode cX5_layFlat 292 = .ok (.aload_n 0, 1) := by decide +kernel
theorem dX5_layFlat_293 : decode cX5_layFlat 293 = .ok (.getfield 13, 3) := by decide +kernel
theorem dX5_layFlat_296 : decode cX5_layFlat 296 = .ok (.iload_n 3, 1) := by decide +kernel
theorem dX5_layFlat_297 : decode cX5_layFlat 297 = .ok (.iaload, 1) := by decide +kernel
theorem dX5_layFlat_298 : decode cX5_layFlat 298 = .ok (.istore_n 3, 1) := by decide +kernel
theorem dX5_layFlat_299 : decode cX5_layFlat 299 = .ok (.goto (-144), 3) := by decide +kernel
theorem dX5_layFlat_302 : decode cX5_layFlat 302 = .ok (.iinc 2 1, 3) := by decide +kernel
theorem dX5_layFlat_305 : decode cX5_layFlat 305 = .ok (.goto (-296), 3) := by decide +kernel
theorem dX5_layFlat_308 : decode cX5_layFlat 308 = .ok (.aload_n 0, 1) := by decide +kernel
theorem dX5_layFlat_309 : decode cX5_layFlat 309 = .ok (.getfield 27, 3) := by decide +kernel
theorem dX5_layFlat_312 : decode cX5_layFlat 312 = .ok (.iconst 0, 1) := by decide +kernel
theorem dX5_layFlat_313 : decode cX5_layFlat 313 = .ok (.iaload, 1) := by decide +kernel
theorem dX5_layFlat_314 : decode cX5_layFlat 314 = .ok (.istore_n 2, 1) := by decide +kernel
theorem dX5_layFlat_315 : decode cX5_layFlat 315 = .ok (.aload_n 0, 1) := by decide +kernel
theorem dX5_layFlat_316 : decode cX5_layFlat 316 = .ok (.getfield 27, 3) := by decide +kernel
theorem dX5_layFlat_319 : decode cX5_layFlat 319 = .ok (.iconst 1, 1) := by decide +kernel
theorem dX5_layFlat_320 : decode cX5_layFlat 320 = .ok (.iaload, 1) := by decide +kernel
theorem dX5_layFlat_321 : decode cX5_layFlat 321 = .ok (.istore_n 3, 1) := by decide +kernel
theorem dX5_layFlat_322 : decode cX5_layFlat 322 = .ok (.iconst 0, 1) := by decide +kernel
theorem dX5_layFlat_323 : decode cX5_layFlat 323 = .ok (.istore 4, 2) := by decide +kernel
theorem dX5_layFlat_325 : decode cX5_layFlat 325 = .ok (.iload 4, 2) := by decide +kernel
theorem dX5_layFlat_327 : decode cX5_layFlat 327 = .ok (.aload_n 0, 1) := by decide +kernel
theorem dX5_layFlat_328 : decode cX5_layFlat 328 = .ok (.getfield 73, 3) := by decide +kernel
theorem dX5_layFlat_331 : decode cX5_layFlat 331 = .ok (.if_icmp .ge 67, 3) := by decide +kernel
theorem dX5_layFlat_334 : decode cX5_layFlat 334 = .ok (.aload_n 0, 1) := by decide +kernel
theorem dX5_layFlat_335 : decode cX5_layFlat 335 = .ok (.getfield 27, 3) := by decide +kernel
theorem dX5_layFlat_338 : decode cX5_layFlat 338 = .ok (.iconst 4, 1) := by decide +kernel
theorem dX5_layFlat_339 : decode cX5_layFlat 339 = .ok (.iload 4, 2) := by decide +kernel
theorem dX5_layFlat_341 : decode cX5_layFlat 341 = .ok (.imul, 1) := by decide +kernel
theorem dX5_layFlat_342 : decode cX5_layFlat 342 = .ok (.iaload, 1) := by decide +kernel
theorem dX5_layFlat_343 : decode cX5_layFlat 343 = .ok (.iload_n 2, 1) := by decide +kernel
theorem dX5_layFlat_344 : decode cX5_layFlat 344 = .ok (.if_icmp .ge 15, 3) := by decide +kernel
theorem dX5_layFlat_347 : decode cX5_layFlat 347 = .ok (.aload_n 0, 1) := by decide +kernel
theorem dX5_layFlat_348 : decode cX5_layFlat 348 = .ok (.getfield 27, 3) := by decide +kernel
theorem dX5_layFlat_351 : decode cX5_layFlat 351 = .ok (.iconst 4, 1) := by decide +kernel
theorem dX5_layFlat_352 : decode cX5_layFlat 352 = .ok (.iload 4, 2) := by decide +kernel
theorem dX5_layFlat_354 : decode cX5_layFlat 354 = .ok (.imul, 1) := by decide +kernel
theorem dX5_layFlat_355 : decode cX5_layFlat 355 = .ok (.iaload, 1) := by decide +kernel
theorem dX5_layFlat_356 : decode cX5_layFlat 356 = .ok (.goto 4, 3) := by decide +kernel
theorem dX5_layFlat_359 : decode cX5_layFlat 359 = .ok (.iload_n 2, 1) := by decide +kernel
theorem dX5_layFlat_360 : decode cX5_layFlat 360 = .ok (.istore_n 2, 1) := by decide +kernel
theorem dX5_layFlat_361 : decode cX5_layFlat 361 = .ok (.aload_n 0, 1) := by decide +kernel
theorem dX5_layFlat_362 : decode cX5_layFlat 362 = .ok (.getfield 27, 3) := by decide +kernel
theorem dX5_layFlat_365 : decode cX5_layFlat 365 = .ok (.iconst 4, 1) := by decide +kernel
theorem dX5_layFlat_366 : decode cX5_layFlat 366 = .ok (.iload 4, 2) := by decide +kernel
theorem dX5_layFlat_368 : decode cX5_layFlat 368 = .ok (.imul, 1) := by decide +kernel
theorem dX5_layFlat_369 : decode cX5_layFlat 369 = .ok (.iconst 1, 1) := by decide +kernel
theorem dX5_layFlat_370 : decode cX5_layFlat 370 = .ok (.iadd, 1) := by decide +kernel
theorem dX5_layFlat_371 : decode cX5_layFlat 371 = .ok (.iaload, 1) := by decide +kernel
theorem dX5_layFlat_372 : decode cX5_layFlat 372 = .ok (.iload_n 3, 1) := by decide +kernel
theorem dX5_layFlat_373 : decode cX5_layFlat 373 = .ok (.if_icmp .ge 17, 3) := by decide +kernel
theorem dX5_layFlat_376 : decode cX5_layFlat 376 = .ok (.aload_n 0, 1) := by decide +kernel
theorem dX5_layFlat_377 : decode cX5_layFlat 377 = .ok (.getfield 27, 3) := by decide +kernel
theorem dX5_layFlat_380 : decode cX5_layFlat 380 = .ok (.iconst 4, 1) := by decide +kernel
theorem dX5_layFlat_381 : decode cX5_layFlat 381 = .ok (.iload 4, 2) := by decide +kernel
theorem dX5_layFlat_383 : decode cX5_layFlat 383 = .ok (.imul, 1) := by decide +kernel
theorem dX5_layFlat_384 : decode cX5_layFlat 384 = .ok (.iconst 1, 1) := by decide +kernel
theorem dX5_layFlat_385 : decode cX5_layFlat 385 = .ok (.iadd, 1) := by decide +kernel
theorem dX5_layFlat_386 : decode cX5_layFlat 386 = .ok (.iaload, 1) := by decide +kernel
theorem dX5_layFlat_387 : decode cX5_layFlat 387 = .ok (.goto 4, 3) := by decide +kernel
theorem dX5_layFlat_390 : decode cX5_layFlat 390 = .ok (.iload_n 3, 1) := by decide +kernel
theorem dX5_layFlat_391 : decode cX5_layFlat 391 = .ok (.istore_n 3, 1) := by decide +kernel
theorem dX5_layFlat_392 : decode cX5_layFlat 392 = .ok (.iinc 4 1, 3) := by decide +kernel
theorem dX5_layFlat_395 : decode cX5_layFlat 395 = .ok (.goto (-70), 3) := by decide +kernel
theorem dX5_layFlat_398 : decode cX5_layFlat 398 = .ok (.iconst 0, 1) := by decide +kernel
theorem dX5_layFlat_399 : decode cX5_layFlat 399 = .ok (.istore 4, 2) := by decide +kernel
theorem dX5_layFlat_401 : decode cX5_layFlat 401 = .ok (.iload 4, 2) := by decide +kernel
theorem dX5_layFlat_403 : decode cX5_layFlat 403 = .ok (.aload_n 0, 1) := by decide +kernel
theorem dX5_layFlat_404 : decode cX5_layFlat 404 = .ok (.getfield 73, 3) := by decide +kernel
theorem dX5_layFlat_407 : decode cX5_layFlat 407 = .ok (.if_icmp .ge 67, 3) := by decide +kernel
theorem dX5_layFlat_410 : decode cX5_layFlat 410 = .ok (.aload_n 0, 1) := by decide +kernel
theorem dX5_layFlat_411 : decode cX5_layFlat 411 = .ok (.getfield 27, 3) := by decide +kernel
theorem dX5_layFlat_414 : decode cX5_layFlat 414 = .ok (.iconst 4, 1) := by decide +kernel
theorem dX5_layFlat_415 : decode cX5_layFlat 415 = .ok (.iload 4, 2) := by decide +kernel
theorem dX5_layFlat_417 : decode cX5_layFlat 417 = .ok (.imul, 1) := by decide +kernel
theorem dX5_layFlat_418 : decode cX5_layFlat 418 = .ok (.dup2, 1) := by decide +kernel
theorem dX5_layFlat_419 : decode cX5_layFlat 419 = .ok (.iaload, 1) := by decide +kernel
theorem dX5_layFlat_420 : decode cX5_layFlat 420 = .ok (.iload_n 2, 1) := by decide +kernel
theorem dX5_layFlat_421 : decode cX5_layFlat 421 = .ok (.isub, 1) := by decide +kernel
theorem dX5_layFlat_422 : decode cX5_layFlat 422 = .ok (.iastore, 1) := by decide +kernel
theorem dX5_layFlat_423 : decode cX5_layFlat 423 = .ok (.aload_n 0, 1) := by decide +kernel
theorem dX5_layFlat_424 : decode cX5_layFlat 424 = .ok (.getfield 27, 3) := by decide +kernel
theorem dX5_layFlat_427 : decode cX5_layFlat 427 = .ok (.iconst 4, 1) := by decide +kernel
theorem dX5_layFlat_428 : decode cX5_layFlat 428 = .ok (.iload 4, 2) := by decide +kernel
theorem dX5_layFlat_430 : decode cX5_layFlat 430 = .ok (.imul, 1) := by decide +kernel
theorem dX5_layFlat_431 : decode cX5_layFlat 431 = .ok (.iconst 2, 1) := by decide +kernel
theorem dX5_layFlat_432 : decode cX5_layFlat 432 = .ok (.iadd, 1) := by decide +kernel
theorem dX5_layFlat_433 : decode cX5_layFlat 433 = .ok (.dup2, 1) := by decide +kernel
theorem dX5_layFlat_434 : decode cX5_layFlat 434 = .ok (.iaload, 1) := by decide +kernel
theorem dX5_layFlat_435 : decode cX5_layFlat 435 = .ok (.iload_n 2, 1) := by decide +kernel
theorem dX5_layFlat_436 : decode cX5_layFlat 436 = .ok (.isub, 1) := by decide +kernel
theorem dX5_layFlat_437 : decode cX5_layFlat 437 = .ok (.iastore, 1) := by decide +kernel
theorem dX5_layFlat_438 : decode cX5_layFlat 438 = .ok (.aload_n 0, 1) := by decide +kernel
theorem dX5_layFlat_439 : decode cX5_layFlat 439 = .ok (.getfield 27, 3) := by decide +kernel
theorem dX5_layFlat_442 : decode cX5_layFlat 442 = .ok (.iconst 4, 1) := by decide +kernel
theorem dX5_layFlat_443 : decode cX5_layFlat 443 = .ok (.iload 4, 2) := by decide +kernel
theorem dX5_layFlat_445 : decode cX5_layFlat 445 = .ok (.imul, 1) := by decide +kernel
theorem dX5_layFlat_446 : decode cX5_layFlat 446 = .ok (.iconst 1, 1) := by decide +kernel
theorem dX5_layFlat_447 : decode cX5_layFlat 447 = .ok (.iadd, 1) := by decide +kernel
theorem dX5_layFlat_448 : decode cX5_layFlat 448 = .ok (.dup2, 1) := by decide +kernel
theorem dX5_layFlat_449 : decode cX5_layFlat 449 = .ok (.iaload, 1) := by decide +kernel
theorem dX5_layFlat_450 : decode cX5_layFlat 450 = .ok (.iload_n 3, 1) := by decide +kernel
theorem dX5_layFlat_451 : decode cX5_layFlat 451 = .ok (.isub, 1) := by decide +kernel
theorem dX5_layFlat_452 : decode cX5_layFlat 452 = .ok (.iastore, 1) := by decide +kernel
theorem dX5_layFlat_453 : decode cX5_layFlat 453 = .ok (.aload_n 0, 1) := by decide +kernel
theorem dX5_layFlat_454 : decode cX5_layFlat 454 = .ok (.getfield 27, 3) := by decide +kernel
theorem dX5_layFlat_457 : decode cX5_layFlat 457 = .ok (.iconst 4, 1) := by decide +kernel
theorem dX5_layFlat_458 : decode cX5_layFlat 458 = .ok (.iload 4, 2) := by decide +kernel
theorem dX5_layFlat_460 : decode cX5_layFlat 460 = .ok (.imul, 1) := by decide +kernel
theorem dX5_layFlat_461 : decode cX5_layFlat 461 = .ok (.iconst 3, 1) := by decide +kernel
theorem dX5_layFlat_462 : decode cX5_layFlat 462 = .ok (.iadd, 1) := by decide +kernel
theorem dX5_layFlat_463 : decode cX5_layFlat 463 = .ok (.dup2, 1) := by decide +kernel
theorem dX5_layFlat_464 : decode cX5_layFlat 464 = .ok (.iaload, 1) := by decide +kernel
theorem dX5_layFlat_465 : decode cX5_layFlat 465 = .ok (.iload_n 3, 1) := by decide +kernel
theorem dX5_layFlat_466 : decode cX5_layFlat 466 = .ok (.isub, 1) := by decide +kernel
theorem dX5_layFlat_467 : decode cX5_layFlat 467 = .ok (.iastore, 1) := by decide +kernel
theorem dX5_layFlat_468 : decode cX5_layFlat 468 = .ok (.iinc 4 1, 3) := by decide +kernel
theorem dX5_layFlat_471 : decode cX5_layFlat 471 = .ok (.goto (-70), 3) := by decide +kernel
theorem dX5_layFlat_474 : decode cX5_layFlat 474 = .ok (.return_, 1) := by decide +kernel
theorem dX5_areOver_0 : decode cX5_areOver 0 = .ok (.aload_n 0, 1) := by decide +kernel
theorem dX5_areOver_1 : decode cX5_areOver 1 = .ok (.getfield 27, 3) := by decide +kernel
theorem dX5_areOver_4 : decode cX5_areOver 4 = .ok (.iconst 4, 1) := by decide +kernel
theorem dX5_areOver_5 : decode cX5_areOver 5 = .ok (.iload_n 1, 1) := by decide +kernel
theorem dX5_areOver_6 : decode cX5_areOver 6 = .ok (.imul, 1) := by decide +kernel
theorem dX5_areOver_7 : decode cX5_areOver 7 = .ok (.iaload, 1) := by decide +kernel
theorem dX5_areOver_8 : decode cX5_areOver 8 = .ok (.aload_n 0, 1) := by decide +kernel
theorem dX5_areOver_9 : decode cX5_areOver 9 = .ok (.getfield 27, 3) := by decide +kernel
theorem dX5_areOver_12 : decode cX5_areOver 12 = .ok (.iconst 4, 1) := by decide +kernel
theorem dX5_areOver_13 : decode cX5_areOver 13 = .ok (.iload_n 2, 1) := by decide +kernel
theorem dX5_areOver_14 : decode cX5_areOver 14 = .ok (.imul, 1) := by decide +kernel
theorem dX5_areOver_15 : decode cX5_areOver 15 = .ok (.iconst 2, 1) := by decide +kernel
theorem dX5_areOver_16 : decode cX5_areOver 16 = .ok (.iadd, 1) := by decide +kernel
theorem dX5_areOver_17 : decode cX5_areOver 17 = .ok (.iaload, 1) := by decide +kernel
theorem dX5_areOver_18 : decode cX5_areOver 18 = .ok (.if_icmp .ge 74, 3) := by decide +kernel
theorem dX5_areOver_21 : decode cX5_areOver 21 = .ok (.aload_n 0, 1) := by decide +kernel
theorem dX5_areOver_22 : decode cX5_areOver 22 = .ok (.getfield 27, 3) := by decide +kernel
theorem dX5_areOver_25 : decode cX5_areOver 25 = .ok (.iconst 4, 1) := by decide +kernel
theorem dX5_areOver_26 : decode cX5_areOver 26 = .ok (.iload_n 2, 1) := by decide +kernel
theorem dX5_areOver_27 : decode cX5_areOver 27 = .ok (.imul, 1) := by decide +kernel
theorem dX5_areOver_28 : decode cX5_areOver 28 = .ok (.iaload, 1) := by decide +kernel
theorem dX5_areOver_29 : decode cX5_areOver 29 = .ok (.aload_n 0, 1) := by decide +kernel
theorem dX5_areOver_30 : decode cX5_areOver 30 = .ok (.getfield 27, 3) := by decide +kernel
theorem dX5_areOver_33 : decode cX5_areOver 33 = .ok (.iconst 4, 1) := by decide +kernel
theorem dX5_areOver_34 : decode cX5_areOver 34 = .ok (.iload_n 1, 1) := by decide +kernel
theorem dX5_areOver_35 : decode cX5_areOver 35 = .ok (.imul, 1) := by decide +kernel
theorem dX5_areOver_36 : decode cX5_areOver 36 = .ok (.iconst 2, 1) := by decide +kernel
theorem dX5_areOver_37 : decode cX5_areOver 37 = .ok (.iadd, 1) := by decide +kernel
theorem dX5_areOver_38 : decode cX5_areOver 38 = .ok (.iaload, 1) := by decide +kernel
theorem dX5_areOver_39 : decode cX5_areOver 39 = .ok (.if_icmp .ge 53, 3) := by decide +kernel
theorem dX5_areOver_42 : decode cX5_areOver 42 = .ok (.aload_n 0, 1) := by decide +kernel
theorem dX5_areOver_43 : decode cX5_areOver 43 = .ok (.getfield 27, 3) := by decide +kernel
theorem dX5_areOver_46 : decode cX5_areOver 46 = .ok (.iconst 4, 1) := by decide +kernel
theorem dX5_areOver_47 : decode cX5_areOver 47 = .ok (.iload_n 1, 1) := by decide +kernel
theorem dX5_areOver_48 : decode cX5_areOver 48 = .ok (.imul, 1) := by decide +kernel
theorem dX5_areOver_49 : decode cX5_areOver 49 = .ok (.iconst 1, 1) := by decide +kernel
theorem dX5_areOver_50 : decode cX5_areOver 50 = .ok (.iadd, 1) := by decide +kernel
theorem dX5_areOver_51 : decode cX5_areOver 51 = .ok (.iaload, 1) := by decide +kernel
theorem dX5_areOver_52 : decode cX5_areOver 52 = .ok (.aload_n 0, 1) := by decide +kernel
theorem dX5_areOver_53 : decode cX5_areOver 53 = .ok (.getfield 27, 3) := by decide +kernel
theorem dX5_areOver_56 : decode cX5_areOver 56 = .ok (.iconst 4, 1) := by decide +kernel
theorem dX5_areOver_57 : decode cX5_areOver 57 = .ok (.iload_n 2, 1) := by decide +kernel
theorem dX5_areOver_58 : decode cX5_areOver 58 = .ok (.imul, 1) := by decide +kernel
theorem dX5_areOver_59 : decode cX5_areOver 59 = .ok (.iconst 3, 1) := by decide +kernel
theorem dX5_areOver_60 : decode cX5_areOver 60 = .ok (.iadd, 1) := by decide +kernel
theorem dX5_areOver_61 : decode cX5_areOver 61 = .ok (.iaload, 1) := by decide +kernel
theorem dX5_areOver_62 : decode cX5_areOver 62 = .ok (.if_icmp .ge 30, 3) := by decide +kernel
theorem dX5_areOver_65 : decode cX5_areOver 65 = .ok (.aload_n 0, 1) := by decide +kernel
theorem dX5_areOver_66 : decode cX5_areOver 66 = .ok (.getfield 27, 3) := by decide +kernel
theorem dX5_areOver_69 : decode cX5_areOver 69 = .ok (.iconst 4, 1) := by decide +kernel
theorem dX5_areOver_70 : decode cX5_areOver 70 = .ok (.iload_n 2, 1) := by decide +kernel
theorem dX5_areOver_71 : decode cX5_areOver 71 = .ok (.imul, 1) := by decide +kernel
theorem dX5_areOver_72 : decode cX5_areOver 72 = .ok (.iconst 1, 1) := by decide +kernel
theorem dX5_areOver_73 : decode cX5_areOver 73 = .ok (.iadd, 1) := by decide +kernel
theorem dX5_areOver_74 : decode cX5_areOver 74 = .ok (.iaload, 1) := by decide +kernel
theorem dX5_areOver_75 : decode cX5_areOver 75 = .ok (.aload_n 0, 1) := by decide +kernel
theorem dX5_areOver_76 : decode cX5_areOver 76 = .ok (.getfield 27, 3) := by decide +kernel
theorem dX5_areOver_79 : decode cX5_areOver 79 = .ok (.iconst 4, 1) := by decide +kernel
theorem dX5_areOver_80 : decode cX5_areOver 80 = .ok (.iload_n 1, 1) := by decide +kernel
theorem dX5_areOver_81 : decode cX5_areOver 81 = .ok (.imul, 1) := by decide +kernel
theorem dX5_areOver_82 : decode cX5_areOver 82 = .ok (.iconst 3, 1) := by decide +kernel
theorem dX5_areOver_83 : decode cX5_areOver 83 = .ok (.iadd, 1) := by decide +kernel
theorem dX5_areOver_84 : decode cX5_areOver 84 = .ok (.iaload, 1) := by decide +kernel
theorem dX5_areOver_85 : decode cX5_areOver 85 = .ok (.if_icmp .ge 7, 3) := by decide +kernel
theorem dX5_areOver_88 : decode cX5_areOver 88 = .ok (.iconst 1, 1) := by decide +kernel
theorem dX5_areOver_89 : decode cX5_areOver 89 = .ok (.goto 4, 3) := by decide +kernel
theorem dX5_areOver_92 : decode cX5_areOver 92 = .ok (.iconst 0, 1) := by decide +kernel
theorem dX5_areOver_93 : decode cX5_areOver 93 = .ok (.ireturn, 1) := by decide +kernel
theorem dX5_flat_0 : decode cX5_flat 0 = .ok (.aload_n 0, 1) := by decide +kernel
theorem dX5_flat_1 : decode cX5_flat 1 = .ok (.iconst 0, 1) := by decide +kernel
theorem dX5_flat_2 : decode cX5_flat 2 = .ok (.putfield 64, 3) := by decide +kernel
theorem dX5_flat_5 : decode cX5_flat 5 = .ok (.aload_n 0, 1) := by decide +kernel
theorem dX5_flat_6 : decode cX5_flat 6 = .ok (.getfield 73, 3) := by decide +kernel
theorem dX5_flat_9 : decode cX5_flat 9 = .ok (.ifCond .ne 5, 3) := by decide +kernel
theorem dX5_flat_12 : decode cX5_flat 12 = .ok (.iconst (-1), 1) := by decide +kernel
theorem dX5_flat_13 : decode cX5_flat 13 = .ok (.ireturn, 1) := by decide +kernel
theorem dX5_flat_14 : decode cX5_flat 14 = .ok (.aload_n 0, 1) := by decide +kernel
theorem dX5_flat_15 : decode cX5_flat 15 = .ok (.invokevirtual 93, 3) := by decide +kernel
theorem dX5_flat_18 : decode cX5_flat 18 = .ok (.aload_n 0, 1) := by decide +kernel
theorem dX5_flat_19 : decode cX5_flat 19 = .ok (.iconst (-1), 1) := by decide +kernel
theorem dX5_flat_20 : decode cX5_flat 20 = .ok (.putfield 30, 3) := by decide +kernel
theorem dX5_flat_23 : decode cX5_flat 23 = .ok (.aload_n 0, 1) := by decide +kernel
theorem dX5_flat_24 : decode cX5_flat 24 = .ok (.iconst (-1), 1) := by decide +kernel
theorem dX5_flat_25 : decode cX5_flat 25 = .ok (.putfield 33, 3) := by decide +kernel
theorem dX5_flat_28 : decode cX5_flat 28 = .ok (.iconst 0, 1) := by decide +kernel
theorem dX5_flat_29 : decode cX5_flat 29 = .ok (.istore_n 1, 1) := by decide +kernel
theorem dX5_flat_30 : decode cX5_flat 30 = .ok (.iload_n 1, 1) := by decide +kernel
theorem dX5_flat_31 : decode cX5_flat 31 = .ok (.aload_n 0, 1) := by decide +kernel
theorem dX5_flat_32 : decode cX5_flat 32 = .ok (.getfield 73, 3) := by decide +kernel
theorem dX5_flat_35 : decode cX5_flat 35 = .ok (.if_icmp .ge 60, 3) := by decide +kernel
theorem dX5_flat_38 : decode cX5_flat 38 = .ok (.aload_n 0, 1) := by decide +kernel
theorem dX5_flat_39 : decode cX5_flat 39 = .ok (.getfield 27, 3) := by decide +kernel
theorem dX5_flat_42 : decode cX5_flat 42 = .ok (.iconst 4, 1) := by decide +kernel
theorem dX5_flat_43 : decode cX5_flat 43 = .ok (.iload_n 1, 1) := by decide +kernel
theorem dX5_flat_44 : decode cX5_flat 44 = .ok (.imul, 1) := by decide +kernel
theorem dX5_flat_45 : decode cX5_flat 45 = .ok (.iaload, 1) := by decide +kernel
theorem dX5_flat_46 : decode cX5_flat 46 = .ok (.aload_n 0, 1) := by decide +kernel
theorem dX5_flat_47 : decode cX5_flat 47 = .ok (.getfield 27, 3) := by decide +kernel
theorem dX5_flat_50 : decode cX5_flat 50 = .ok (.iconst 4, 1) := by decide +kernel
theorem dX5_flat_51 : decode cX5_flat 51 = .ok (.iload_n 1, 1) := by decide +kernel
theorem dX5_flat_52 : decode cX5_flat 52 = .ok (.imul, 1) := by decide +kernel
theorem dX5_flat_53 : decode cX5_flat 53 = .ok (.iconst 2, 1) := by decide +kernel
theorem dX5_flat_54 : decode cX5_flat 54 = .ok (.iadd, 1) := by decide +kernel
theorem dX5_flat_55 : decode cX5_flat 55 = .ok (.iaload, 1) := by decide +kernel
theorem dX5_flat_56 : decode cX5_flat 56 = .ok (.if_icmp .ge 26, 3) := by decide +kernel
theorem dX5_flat_59 : decode cX5_flat 59 = .ok (.aload_n 0, 1) := by decide +kernel
theorem dX5_flat_60 : decode cX5_flat 60 = .ok (.getfield 27, 3) := by decide +kernel
theorem dX5_flat_63 : decode cX5_flat 63 = .ok (.iconst 4, 1) := by decide +kernel
theorem dX5_flat_64 : decode cX5_flat 64 = .ok (.iload_n 1, 1) := by decide +kernel
theorem dX5_flat_65 : decode cX5_flat 65 = .ok (.imul, 1) := by decide +kernel
theorem dX5_flat_66 : decode cX5_flat 66 = .ok (.iconst 1, 1) := by decide +kernel
theorem dX5_flat_67 : decode cX5_flat 67 = .ok (.iadd, 1) := by decide +kernel
theorem dX5_flat_68 : decode cX5_flat 68 = .ok (.iaload, 1) := by decide +kernel
theorem dX5_flat_69 : decode cX5_flat 69 = .ok (.aload_n 0, 1) := by decide +kernel
theorem dX5_flat_70 : decode cX5_flat 70 = .ok (.getfield 27, 3) := by decide +kernel
theorem dX5_flat_73 : decode cX5_flat 73 = .ok (.iconst 4, 1) := by decide +kernel
theorem dX5_flat_74 : decode cX5_flat 74 = .ok (.iload_n 1, 1) := by decide +kernel
theorem dX5_flat_75 : decode cX5_flat 75 = .ok (.imul, 1) := by decide +kernel
theorem dX5_flat_76 : decode cX5_flat 76 = .ok (.iconst 3, 1) := by decide +kernel
theorem dX5_flat_77 : decode cX5_flat 77 = .ok (.iadd, 1) := by decide +kernel
theorem dX5_flat_78 : decode cX5_flat 78 = .ok (.iaload, 1) := by decide +kernel
theorem dX5_flat_79 : decode cX5_flat 79 = .ok (.if_icmp .lt 10, 3) := by decide +kernel
theorem dX5_flat_82 : decode cX5_flat 82 = .ok (.aload_n 0, 1) := by decide +kernel
theorem dX5_flat_83 : decode cX5_flat 83 = .ok (.iload_n 1, 1) := by decide +kernel
theorem dX5_flat_84 : decode cX5_flat 84 = .ok (.putfield 30, 3) := by decide +kernel
theorem dX5_flat_87 : decode cX5_flat 87 = .ok (.iconst 1, 1) := by decide +kernel
theorem dX5_flat_88 : decode cX5_flat 88 = .ok (.ireturn, 1) := by decide +kernel
theorem dX5_flat_89 : decode cX5_flat 89 = .ok (.iinc 1 1, 3) := by decide +kernel
theorem dX5_flat_92 : decode cX5_flat 92 = .ok (.goto (-62), 3) := by decide +kernel
theorem dX5_flat_95 : decode cX5_flat 95 = .ok (.iconst 0, 1) := by decide +kernel
theorem dX5_flat_96 : decode cX5_flat 96 = .ok (.istore_n 1, 1) := by decide +kernel
theorem dX5_flat_97 : decode cX5_flat 97 = .ok (.iload_n 1, 1) := by decide +kernel
theorem dX5_flat_98 : decode cX5_flat 98 = .ok (.aload_n 0, 1) := by decide +kernel
theorem dX5_flat_99 : decode cX5_flat 99 = .ok (.getfield 73, 3) := by decide +kernel
theorem dX5_flat_102 : decode cX5_flat 102 = .ok (.if_icmp .ge 48, 3) := by decide +kernel
theorem dX5_flat_105 : decode cX5_flat 105 = .ok (.iload_n 1, 1) := by decide +kernel
theorem dX5_flat_106 : decode cX5_flat 106 = .ok (.iconst 1, 1) := by decide +kernel
theorem dX5_flat_107 : decode cX5_flat 107 = .ok (.iadd, 1) := by decide +kernel
theorem dX5_flat_108 : decode cX5_flat 108 = .ok (.istore_n 2, 1) := by decide +kernel
theorem dX5_flat_109 : decode cX5_flat 109 = .ok (.iload_n 2, 1) := by decide +kernel
theorem dX5_flat_110 : decode cX5_flat 110 = .ok (.aload_n 0, 1) := by decide +kernel
theorem dX5_flat_111 : decode cX5_flat 111 = .ok (.getfield 73, 3) := by decide +kernel
theorem dX5_flat_114 : decode cX5_flat 114 = .ok (.if_icmp .ge 30, 3) := by decide +kernel
theorem dX5_flat_117 : decode cX5_flat 117 = .ok (.aload_n 0, 1) := by decide +kernel
theorem dX5_flat_118 : decode cX5_flat 118 = .ok (.iload_n 1, 1) := by decide +kernel
theorem dX5_flat_119 : decode cX5_flat 119 = .ok (.iload_n 2, 1) := by decide +kernel
theorem dX5_flat_120 : decode cX5_flat 120 = .ok (.invokevirtual 96, 3) := by decide +kernel
theorem dX5_flat_123 : decode cX5_flat 123 = .ok (.ifCond .eq 15, 3) := by decide +kernel
theorem dX5_flat_126 : decode cX5_flat 126 = .ok (.aload_n 0, 1) := by decide +kernel
theorem dX5_flat_127 : decode cX5_flat 127 = .ok (.iload_n 1, 1) := by decide +kernel
theorem dX5_flat_128 : decode cX5_flat 128 = .ok (.putfield 30, 3) := by decide +kernel
theorem dX5_flat_131 : decode cX5_flat 131 = .ok (.aload_n 0, 1) := by decide +kernel
theorem dX5_flat_132 : decode cX5_flat 132 = .ok (.iload_n 2, 1) := by decide +kernel
theorem dX5_flat_133 : decode cX5_flat 133 = .ok (.putfield 33, 3) := by decide +kernel
theorem dX5_flat_136 : decode cX5_flat 136 = .ok (.iconst 2, 1) := by decide +kernel
theorem dX5_flat_137 : decode cX5_flat 137 = .ok (.ireturn, 1) := by decide +kernel
theorem dX5_flat_138 : decode cX5_flat 138 = .ok (.iinc 2 1, 3) := by decide +kernel
theorem dX5_flat_141 : decode cX5_flat 141 = .ok (.goto (-32), 3) := by decide +kernel
theorem dX5_flat_144 : decode cX5_flat 144 = .ok (.iinc 1 1, 3) := by decide +kernel
theorem dX5_flat_147 : decode cX5_flat 147 = .ok (.goto (-50), 3) := by decide +kernel
theorem dX5_flat_150 : decode cX5_flat 150 = .ok (.iconst 0, 1) := by decide +kernel
theorem dX5_flat_151 : decode cX5_flat 151 = .ok (.ireturn, 1) := by decide +kernel
theorem dX5_wrong_0 : decode cX5_wrong 0 = .ok (.aload_n 0, 1) := by decide +kernel
theorem dX5_wrong_1 : decode cX5_wrong 1 = .ok (.iconst 0, 1) := by decide +kernel
theorem dX5_wrong_2 : decode cX5_wrong 2 = .ok (.putfield 64, 3) := by decide +kernel
theorem dX5_wrong_5 : decode cX5_wrong 5 = .ok (.iload_n 1, 1) := by decide +kernel
theorem dX5_wrong_6 : decode cX5_wrong 6 = .ok (.ifCond .ne 10, 3) := by decide +kernel
theorem dX5_wrong_9 : decode cX5_wrong 9 = .ok (.aload_n 0, 1) := by decide +kernel
theorem dX5_wrong_10 : decode cX5_wrong 10 = .ok (.getfield 30, 3) := by decide +kernel
theorem dX5_wrong_13 : decode cX5_wrong 13 = .ok (.goto 16, 3) := by decide +kernel
theorem dX5_wrong_16 : decode cX5_wrong 16 = .ok (.iload_n 1, 1) := by decide +kernel
theorem dX5_wrong_17 : decode cX5_wrong 17 = .ok (.iconst 1, 1) := by decide +kernel
theorem dX5_wrong_18 : decode cX5_wrong 18 = .ok (.if_icmp .ne 10, 3) := by decide +kernel
theorem dX5_wrong_21 : decode cX5_wrong 21 = .ok (.aload_n 0, 1) := by decide +kernel
theorem dX5_wrong_22 : decode cX5_wrong 22 = .ok (.getfield 33, 3) := by decide +kernel
theorem dX5_wrong_25 : decode cX5_wrong 25 = .ok (.goto 4, 3) := by decide +kernel
theorem dX5_wrong_28 : decode cX5_wrong 28 = .ok (.iconst (-1), 1) := by decide +kernel
theorem dX5_wrong_29 : decode cX5_wrong 29 = .ok (.ireturn, 1) := by decide +kernel
theorem dX5_flatOf_0 : decode cX5_flatOf 0 = .ok (.aload_n 0, 1) := by decide +kernel
theorem dX5_flatOf_1 : decode cX5_flatOf 1 = .ok (.iconst 0, 1) := by decide +kernel
theorem dX5_flatOf_2 : decode cX5_flatOf 2 = .ok (.putfield 64, 3) := by decide +kernel
theorem dX5_flatOf_5 : decode cX5_flatOf 5 = .ok (.iload_n 1, 1) := by decide +kernel
theorem dX5_flatOf_6 : decode cX5_flatOf 6 = .ok (.i2l, 1) := by decide +kernel
theorem dX5_flatOf_7 : decode cX5_flatOf 7 = .ok (.lconst 0, 1) := by decide +kernel
theorem dX5_flatOf_8 : decode cX5_flatOf 8 = .ok (.aload_n 0, 1) := by decide +kernel
theorem dX5_flatOf_9 : decode cX5_flatOf 9 = .ok (.getfield 73, 3) := by decide +kernel
theorem dX5_flatOf_12 : decode cX5_flatOf 12 = .ok (.i2l, 1) := by decide +kernel
theorem dX5_flatOf_13 : decode cX5_flatOf 13 = .ok (.lconst 1, 1) := by decide +kernel
theorem dX5_flatOf_14 : decode cX5_flatOf 14 = .ok (.lsub, 1) := by decide +kernel
theorem dX5_flatOf_15 : decode cX5_flatOf 15 = .ok (.invokestatic 69, 3) := by decide +kernel
theorem dX5_flatOf_18 : decode cX5_flatOf 18 = .ok (.ifCond .eq 15, 3) := by decide +kernel
theorem dX5_flatOf_21 : decode cX5_flatOf 21 = .ok (.iload_n 2, 1) := by decide +kernel
theorem dX5_flatOf_22 : decode cX5_flatOf 22 = .ok (.i2l, 1) := by decide +kernel
theorem dX5_flatOf_23 : decode cX5_flatOf 23 = .ok (.lconst 0, 1) := by decide +kernel
theorem dX5_flatOf_24 : decode cX5_flatOf 24 = .ok (.ldc2_w 80, 3) := by decide +kernel
theorem dX5_flatOf_27 : decode cX5_flatOf 27 = .ok (.invokestatic 69, 3) := by decide +kernel
theorem dX5_flatOf_30 : decode cX5_flatOf 30 = .ok (.ifCond .ne 6, 3) := by decide +kernel
theorem dX5_flatOf_33 : decode cX5_flatOf 33 = .ok (.ldc 99, 2) := by decide +kernel
theorem dX5_flatOf_35 : decode cX5_flatOf 35 = .ok (.ireturn, 1) := by decide +kernel
theorem dX5_flatOf_36 : decode cX5_flatOf 36 = .ok (.aload_n 0, 1) := by decide +kernel
theorem dX5_flatOf_37 : decode cX5_flatOf 37 = .ok (.invokevirtual 93, 3) := by decide +kernel
theorem dX5_flatOf_40 : decode cX5_flatOf 40 = .ok (.aload_n 0, 1) := by decide +kernel
theorem dX5_flatOf_41 : decode cX5_flatOf 41 = .ok (.getfield 27, 3) := by decide +kernel
theorem dX5_flatOf_44 : decode cX5_flatOf 44 = .ok (.iconst 4, 1) := by decide +kernel
theorem dX5_flatOf_45 : decode cX5_flatOf 45 = .ok (.iload_n 1, 1) := by decide +kernel
theorem dX5_flatOf_46 : decode cX5_flatOf 46 = .ok (.imul, 1) := by decide +kernel
theorem dX5_flatOf_47 : decode cX5_flatOf 47 = .ok (.iload_n 2, 1) := by decide +kernel
theorem dX5_flatOf_48 : decode cX5_flatOf 48 = .ok (.iadd, 1) := by decide +kernel
theorem dX5_flatOf_49 : decode cX5_flatOf 49 = .ok (.iaload, 1) := by decide +kernel
theorem dX5_flatOf_50 : decode cX5_flatOf 50 = .ok (.ireturn, 1) := by decide +kernel
theorem dX5_size_0 : decode cX5_size 0 = .ok (.aload_n 0, 1) := by decide +kernel
theorem dX5_size_1 : decode cX5_size 1 = .ok (.iconst 0, 1) := by decide +kernel
theorem dX5_size_2 : decode cX5_size 2 = .ok (.putfield 64, 3) := by decide +kernel
theorem dX5_size_5 : decode cX5_size 5 = .ok (.aload_n 0, 1) := by decide +kernel
theorem dX5_size_6 : decode cX5_size 6 = .ok (.getfield 73, 3) := by decide +kernel
theorem dX5_size_9 : decode cX5_size 9 = .ok (.ifCond .eq 13, 3) := by decide +kernel
theorem dX5_size_12 : decode cX5_size 12 = .ok (.iload_n 1, 1) := by decide +kernel
theorem dX5_size_13 : decode cX5_size 13 = .ok (.i2l, 1) := by decide +kernel
theorem dX5_size_14 : decode cX5_size 14 = .ok (.lconst 0, 1) := by decide +kernel
theorem dX5_size_15 : decode cX5_size 15 = .ok (.lconst 1, 1) := by decide +kernel
theorem dX5_size_16 : decode cX5_size 16 = .ok (.invokestatic 69, 3) := by decide +kernel
theorem dX5_size_19 : decode cX5_size 19 = .ok (.ifCond .ne 6, 3) := by decide +kernel
theorem dX5_size_22 : decode cX5_size 22 = .ok (.ldc 99, 2) := by decide +kernel
theorem dX5_size_24 : decode cX5_size 24 = .ok (.ireturn, 1) := by decide +kernel
theorem dX5_size_25 : decode cX5_size 25 = .ok (.aload_n 0, 1) := by decide +kernel
theorem dX5_size_26 : decode cX5_size 26 = .ok (.invokevirtual 93, 3) := by decide +kernel
theorem dX5_size_29 : decode cX5_size 29 = .ok (.aload_n 0, 1) := by decide +kernel
theorem dX5_size_30 : decode cX5_size 30 = .ok (.getfield 27, 3) := by decide +kernel
theorem dX5_size_33 : decode cX5_size 33 = .ok (.iconst 2, 1) := by decide +kernel
theorem dX5_size_34 : decode cX5_size 34 = .ok (.iload_n 1, 1) := by decide +kernel
theorem dX5_size_35 : decode cX5_size 35 = .ok (.iadd, 1) := by decide +kernel
theorem dX5_size_36 : decode cX5_size 36 = .ok (.iaload, 1) := by decide +kernel
theorem dX5_size_37 : decode cX5_size 37 = .ok (.istore_n 2, 1) := by decide +kernel
theorem dX5_size_38 : decode cX5_size 38 = .ok (.iconst 0, 1) := by decide +kernel
theorem dX5_size_39 : decode cX5_size 39 = .ok (.istore_n 3, 1) := by decide +kernel
theorem dX5_size_40 : decode cX5_size 40 = .ok (.iload_n 3, 1) := by decide +kernel
theorem dX5_size_41 : decode cX5_size 41 = .ok (.aload_n 0, 1) := by decide +kernel
theorem dX5_size_42 : decode cX5_size 42 = .ok (.getfield 73, 3) := by decide +kernel
theorem dX5_size_45 : decode cX5_size 45 = .ok (.if_icmp .ge 42, 3) := by decide +kernel
theorem dX5_size_48 : decode cX5_size 48 = .ok (.aload_n 0, 1) := by decide +kernel
theorem dX5_size_49 : decode cX5_size 49 = .ok (.getfield 27, 3) := by decide +kernel
theorem dX5_size_52 : decode cX5_size 52 = .ok (.iconst 4, 1) := by decide +kernel
theorem dX5_size_53 : decode cX5_size 53 = .ok (.iload_n 3, 1) := by decide +kernel
theorem dX5_size_54 : decode cX5_size 54 = .ok (.imul, 1) := by decide +kernel
theorem dX5_size_55 : decode cX5_size 55 = .ok (.iconst 2, 1) := by decide +kernel
theorem dX5_size_56 : decode cX5_size 56 = .ok (.iadd, 1) := by decide +kernel
theorem dX5_size_57 : decode cX5_size 57 = .ok (.iload_n 1, 1) := by decide +kernel
theorem dX5_size_58 : decode cX5_size 58 = .ok (.iadd, 1) := by decide +kernel
theorem dX5_size_59 : decode cX5_size 59 = .ok (.iaload, 1) := by decide +kernel
theorem dX5_size_60 : decode cX5_size 60 = .ok (.iload_n 2, 1) := by decide +kernel
theorem dX5_size_61 : decode cX5_size 61 = .ok (.if_icmp .le 18, 3) := by decide +kernel
theorem dX5_size_64 : decode cX5_size 64 = .ok (.aload_n 0, 1) := by decide +kernel
theorem dX5_size_65 : decode cX5_size 65 = .ok (.getfield 27, 3) := by decide +kernel
theorem dX5_size_68 : decode cX5_size 68 = .ok (.iconst 4, 1) := by decide +kernel
theorem dX5_size_69 : decode cX5_size 69 = .ok (.iload_n 3, 1) := by decide +kernel
theorem dX5_size_70 : decode cX5_size 70 = .ok (.imul, 1) := by decide +kernel
theorem dX5_size_71 : decode cX5_size 71 = .ok (.iconst 2, 1) := by decide +kernel
theorem dX5_size_72 : decode cX5_size 72 = .ok (.iadd, 1) := by decide +kernel
theorem dX5_size_73 : decode cX5_size 73 = .ok (.iload_n 1, 1) := by decide +kernel
theorem dX5_size_74 : decode cX5_size 74 = .ok (.iadd, 1) := by decide +kernel
theorem dX5_size_75 : decode cX5_size 75 = .ok (.iaload, 1) := by decide +kernel
theorem dX5_size_76 : decode cX5_size 76 = .ok (.goto 4, 3) := by decide +kernel
theorem dX5_size_79 : decode cX5_size 79 = .ok (.iload_n 2, 1) := by decide +kernel
theorem dX5_size_80 : decode cX5_size 80 = .ok (.istore_n 2, 1) := by decide +kernel
theorem dX5_size_81 : decode cX5_size 81 = .ok (.iinc 3 1, 3) := by decide +kernel
theorem dX5_size_84 : decode cX5_size 84 = .ok (.goto (-44), 3) := by decide +kernel
theorem dX5_size_87 : decode cX5_size 87 = .ok (.iload_n 2, 1) := by decide +kernel
theorem dX5_size_88 : decode cX5_size 88 = .ok (.ireturn, 1) := by decide +kernel
theorem dX5_areBends_0 : decode cX5_areBends 0 = .ok (.aload_n 0, 1) := by decide +kernel
theorem dX5_areBends_1 : decode cX5_areBends 1 = .ok (.getfield 73, 3) := by decide +kernel
theorem dX5_areBends_4 : decode cX5_areBends 4 = .ok (.ifCond .le 22, 3) := by decide +kernel
theorem dX5_areBends_7 : decode cX5_areBends 7 = .ok (.iload_n 1, 1) := by decide +kernel
theorem dX5_areBends_8 : decode cX5_areBends 8 = .ok (.iconst 1, 1) := by decide +kernel
theorem dX5_areBends_9 : decode cX5_areBends 9 = .ok (.aload_n 0, 1) := by decide +kernel
theorem dX5_areBends_10 : decode cX5_areBends 10 = .ok (.getfield 73, 3) := by decide +kernel
theorem dX5_areBends_13 : decode cX5_areBends 13 = .ok (.ishl, 1) := by decide +kernel
theorem dX5_areBends_14 : decode cX5_areBends 14 = .ok (.iconst 2, 1) := by decide +kernel
theorem dX5_areBends_15 : decode cX5_areBends 15 = .ok (.isub, 1) := by decide +kernel
theorem dX5_areBends_16 : decode cX5_areBends 16 = .ok (.iconst (-1), 1) := by decide +kernel
theorem dX5_areBends_17 : decode cX5_areBends 17 = .ok (.ixor, 1) := by decide +kernel
theorem dX5_areBends_18 : decode cX5_areBends 18 = .ok (.iand, 1) := by decide +kernel
theorem dX5_areBends_19 : decode cX5_areBends 19 = .ok (.ifCond .ne 7, 3) := by decide +kernel
theorem dX5_areBends_22 : decode cX5_areBends 22 = .ok (.iconst 1, 1) := by decide +kernel
theorem dX5_areBends_23 : decode cX5_areBends 23 = .ok (.goto 4, 3) := by decide +kernel
theorem dX5_areBends_26 : decode cX5_areBends 26 = .ok (.iconst 0, 1) := by decide +kernel
theorem dX5_areBends_27 : decode cX5_areBends 27 = .ok (.ireturn, 1) := by decide +kernel
theorem dX5_turn_0 : decode cX5_turn 0 = .ok (.iconst 3, 1) := by decide +kernel
theorem dX5_turn_1 : decode cX5_turn 1 = .ok (.aload_n 0, 1) := by decide +kernel
theorem dX5_turn_2 : decode cX5_turn 2 = .ok (.getfield 13, 3) := by decide +kernel
theorem dX5_turn_5 : decode cX5_turn 5 = .ok (.iload_n 1, 1) := by decide +kernel
theorem dX5_turn_6 : decode cX5_turn 6 = .ok (.iaload, 1) := by decide +kernel
theorem dX5_turn_7 : decode cX5_turn 7 = .ok (.imul, 1) := by decide +kernel
theorem dX5_turn_8 : decode cX5_turn 8 = .ok (.istore_n 3, 1) := by decide +kernel
theorem dX5_turn_9 : decode cX5_turn 9 = .ok (.aload_n 0, 1) := by decide +kernel
theorem dX5_turn_10 : decode cX5_turn 10 = .ok (.getfield 17, 3) := by decide +kernel
theorem dX5_turn_13 : decode cX5_turn 13 = .ok (.iload_n 1, 1) := by decide +kernel
theorem dX5_turn_14 : decode cX5_turn 14 = .ok (.iaload, 1) := by decide +kernel
theorem dX5_turn_15 : decode cX5_turn 15 = .ok (.iconst 2, 1) := by decide +kernel
theorem dX5_turn_16 : decode cX5_turn 16 = .ok (.irem, 1) := by decide +kernel
theorem dX5_turn_17 : decode cX5_turn 17 = .ok (.ifCond .ne 7, 3) := by decide +kernel
theorem dX5_turn_20 : decode cX5_turn 20 = .ok (.iconst 1, 1) := by decide +kernel
theorem dX5_turn_21 : decode cX5_turn 21 = .ok (.goto 4, 3) := by decide +kernel
theorem dX5_turn_24 : decode cX5_turn 24 = .ok (.iconst 0, 1) := by decide +kernel
theorem dX5_turn_25 : decode cX5_turn 25 = .ok (.istore 4, 2) := by decide +kernel
theorem dX5_turn_27 : decode cX5_turn 27 = .ok (.aload_n 0, 1) := by decide +kernel
theorem dX5_turn_28 : decode cX5_turn 28 = .ok (.getfield 17, 3) := by decide +kernel
theorem dX5_turn_31 : decode cX5_turn 31 = .ok (.iload_n 1, 1) := by decide +kernel
theorem dX5_turn_32 : decode cX5_turn 32 = .ok (.iaload, 1) := by decide +kernel
theorem dX5_turn_33 : decode cX5_turn 33 = .ok (.iconst 2, 1) := by decide +kernel
theorem dX5_turn_34 : decode cX5_turn 34 = .ok (.if_icmp .ge 7, 3) := by decide +kernel
theorem dX5_turn_37 : decode cX5_turn 37 = .ok (.iconst 1, 1) := by decide +kernel
theorem dX5_turn_38 : decode cX5_turn 38 = .ok (.goto 4, 3) := by decide +kernel
theorem dX5_turn_41 : decode cX5_turn 41 = .ok (.iconst (-1), 1) := by decide +kernel
theorem dX5_turn_42 : decode cX5_turn 42 = .ok (.istore 5, 2) := by decide +kernel
theorem dX5_turn_44 : decode cX5_turn 44 = .ok (.aload_n 0, 1) := by decide +kernel
theorem dX5_turn_45 : decode cX5_turn 45 = .ok (.getfield 20, 3) := by decide +kernel
theorem dX5_turn_48 : decode cX5_turn 48 = .ok (.iload_n 1, 1) := by decide +kernel
theorem dX5_turn_49 : decode cX5_turn 49 = .ok (.baload, 1) := by decide +kernel
theorem dX5_turn_50 : decode cX5_turn 50 = .ok (.ifCond .eq 7, 3) := by decide +kernel
theorem dX5_turn_53 : decode cX5_turn 53 = .ok (.iconst 1, 1) := by decide +kernel
theorem dX5_turn_54 : decode cX5_turn 54 = .ok (.goto 4, 3) := by decide +kernel
theorem dX5_turn_57 : decode cX5_turn 57 = .ok (.iconst (-1), 1) := by decide +kernel
theorem dX5_turn_58 : decode cX5_turn 58 = .ok (.istore 6, 2) := by decide +kernel
theorem dX5_turn_60 : decode cX5_turn 60 = .ok (.iload 4, 2) := by decide +kernel
theorem dX5_turn_62 : decode cX5_turn 62 = .ok (.ifCond .eq 34, 3) := by decide +kernel
theorem dX5_turn_65 : decode cX5_turn 65 = .ok (.aload_n 0, 1) := by decide +kernel
theorem dX5_turn_66 : decode cX5_turn 66 = .ok (.getfield 24, 3) := by decide +kernel
theorem dX5_turn_69 : decode cX5_turn 69 = .ok (.iconst 4, 1) := by decide +kernel
theorem dX5_turn_70 : decode cX5_turn 70 = .ok (.aload_n 0, 1) := by decide +kernel
theorem dX5_turn_71 : decode cX5_turn 71 = .ok (.getfield 13, 3) := by decide +kernel
theorem dX5_turn_74 : decode cX5_turn 74 = .ok (.iload_n 1, 1) := by decide +kernel
theorem dX5_turn_75 : decode cX5_turn 75 = .ok (.iaload, 1) := by decide +kernel
theorem dX5_turn_76 : decode cX5_turn 76 = .ok (.imul, 1) := by decide +kernel
theorem dX5_turn_77 : decode cX5_turn 77 = .ok (.aload_n 0, 1) := by decide +kernel
theorem dX5_turn_78 : decode cX5_turn 78 = .ok (.getfield 17, 3) := by decide +kernel
theorem dX5_turn_81 : decode cX5_turn 81 = .ok (.iload_n 1, 1) := by decide +kernel
theorem dX5_turn_82 : decode cX5_turn 82 = .ok (.iaload, 1) := by decide +kernel
theorem dX5_turn_83 : decode cX5_turn 83 = .ok (.ifCond .ne 7, 3) := by decide +kernel
theorem dX5_turn_86 : decode cX5_turn 86 = .ok (.iconst 2, 1) := by decide +kernel
theorem dX5_turn_87 : decode cX5_turn 87 = .ok (.goto 4, 3) := by decide +kernel
theorem dX5_turn_90 : decode cX5_turn 90 = .ok (.iconst 0, 1) := by decide +kernel
theorem dX5_turn_91 : decode cX5_turn 91 = .ok (.iadd, 1) := by decide +kernel
theorem dX5_turn_92 : decode cX5_turn 92 = .ok (.iaload, 1) := by decide +kernel
theorem dX5_turn_93 : decode cX5_turn 93 = .ok (.goto 32, 3) := by decide +kernel
theorem dX5_turn_96 : decode cX5_turn 96 = .ok (.aload_n 0, 1) := by decide +kernel
theorem dX5_turn_97 : decode cX5_turn 97 = .ok (.getfield 24, 3) := by decide +kernel
theorem dX5_turn_100 : decode cX5_turn 100 = .ok (.iconst 4, 1) := by decide +kernel
theorem dX5_turn_101 : decode cX5_turn 101 = .ok (.aload_n 0, 1) := by decide +kernel
theorem dX5_turn_102 : decode cX5_turn 102 = .ok (.getfield 13, 3) := by decide +kernel
theorem dX5_turn_105 : decode cX5_turn 105 = .ok (.iload_n 1, 1) := by decide +kernel
theorem dX5_turn_106 : decode cX5_turn 106 = .ok (.iaload, 1) := by decide +kernel
theorem dX5_turn_107 : decode cX5_turn 107 = .ok (.imul, 1) := by decide +kernel
theorem dX5_turn_108 : decode cX5_turn 108 = .ok (.aload_n 0, 1) := by decide +kernel
theorem dX5_turn_109 : decode cX5_turn 109 = .ok (.getfield 17, 3) := by decide +kernel
theorem dX5_turn_112 : decode cX5_turn 112 = .ok (.iload_n 1, 1) := by decide +kernel
theorem dX5_turn_113 : decode cX5_turn 113 = .ok (.iaload, 1) := by decide +kernel
theorem dX5_turn_114 : decode cX5_turn 114 = .ok (.iconst 1, 1) := by decide +kernel
theorem dX5_turn_115 : decode cX5_turn 115 = .ok (.if_icmp .ne 7, 3) := by decide +kernel
theorem dX5_turn_118 : decode cX5_turn 118 = .ok (.iconst 3, 1) := by decide +kernel
theorem dX5_turn_119 : decode cX5_turn 119 = .ok (.goto 4, 3) := by decide +kernel
theorem dX5_turn_122 : decode cX5_turn 122 = .ok (.iconst 1, 1) := by decide +kernel
theorem dX5_turn_123 : decode cX5_turn 123 = .ok (.iadd, 1) := by decide +kernel
theorem dX5_turn_124 : decode cX5_turn 124 = .ok (.iaload, 1) := by decide +kernel
theorem dX5_turn_125 : decode cX5_turn 125 = .ok (.istore 7, 2) := by decide +kernel
theorem dX5_turn_127 : decode cX5_turn 127 = .ok (.iconst 0, 1) := by decide +kernel
theorem dX5_turn_128 : decode cX5_turn 128 = .ok (.istore 8, 2) := by decide +kernel
theorem dX5_turn_130 : decode cX5_turn 130 = .ok (.iload 8, 2) := by decide +kernel
theorem dX5_turn_132 : decode cX5_turn 132 = .ok (.iconst 3, 1) := by decide +kernel
theorem dX5_turn_133 : decode cX5_turn 133 = .ok (.if_icmp .ge 188, 3) := by decide +kernel
theorem dX5_turn_136 : decode cX5_turn 136 = .ok (.iload 4, 2) := by decide +kernel
theorem dX5_turn_138 : decode cX5_turn 138 = .ok (.ifCond .eq 15, 3) := by decide +kernel
theorem dX5_turn_141 : decode cX5_turn 141 = .ok (.aload_n 0, 1) := by decide +kernel
theorem dX5_turn_142 : decode cX5_turn 142 = .ok (.getfield 39, 3) := by decide +kernel
theorem dX5_turn_145 : decode cX5_turn 145 = .ok (.iload_n 3, 1) := by decide +kernel
theorem dX5_turn_146 : decode cX5_turn 146 = .ok (.iload 8, 2) := by decide +kernel
theorem dX5_turn_148 : decode cX5_turn 148 = .ok (.iadd, 1) := by decide +kernel
theorem dX5_turn_149 : decode cX5_turn 149 = .ok (.iaload, 1) := by decide +kernel
theorem dX5_turn_150 : decode cX5_turn 150 = .ok (.goto 12, 3) := by decide +kernel
theorem dX5_turn_153 : decode cX5_turn 153 = .ok (.aload_n 0, 1) := by decide +kernel
theorem dX5_turn_154 : decode cX5_turn 154 = .ok (.getfield 42, 3) := by decide +kernel
theorem dX5_turn_157 : decode cX5_turn 157 = .ok (.iload_n 3, 1) := by decide +kernel
theorem dX5_turn_158 : decode cX5_turn 158 = .ok (.iload 8, 2) := by decide +kernel
theorem dX5_turn_160 : decode cX5_turn 160 = .ok (.iadd, 1) := by decide +kernel
theorem dX5_turn_161 : decode cX5_turn 161 = .ok (.iaload, 1) := by decide +kernel
theorem dX5_turn_162 : decode cX5_turn 162 = .ok (.istore 9, 2) := by decide +kernel
theorem dX5_turn_164 : decode cX5_turn 164 = .ok (.iload_n 2, 1) := by decide +kernel
theorem dX5_turn_165 : decode cX5_turn 165 = .ok (.ifCond .eq 21, 3) := by decide +kernel
theorem dX5_turn_168 : decode cX5_turn 168 = .ok (.iload 5, 2) := by decide +kernel
theorem dX5_turn_170 : decode cX5_turn 170 = .ok (.iload 6, 2) := by decide +kernel
theorem dX5_turn_172 : decode cX5_turn 172 = .ok (.imul, 1) := by decide +kernel
theorem dX5_turn_173 : decode cX5_turn 173 = .ok (.aload_n 0, 1) := by decide +kernel
theorem dX5_turn_174 : decode cX5_turn 174 = .ok (.getfield 45, 3) := by decide +kernel
theorem dX5_turn_177 : decode cX5_turn 177 = .ok (.iload_n 3, 1) := by decide +kernel
theorem dX5_turn_178 : decode cX5_turn 178 = .ok (.iload 8, 2) := by decide +kernel
theorem dX5_turn_180 : decode cX5_turn 180 = .ok (.iadd, 1) := by decide +kernel
theorem dX5_turn_181 : decode cX5_turn 181 = .ok (.iaload, 1) := by decide +kernel
theorem dX5_turn_182 : decode cX5_turn 182 = .ok (.imul, 1) := by decide +kernel
theorem dX5_turn_183 : decode cX5_turn 183 = .ok (.goto 5, 3) := by decide +kernel
theorem dX5_turn_186 : decode cX5_turn 186 = .ok (.iload 9, 2) := by decide +kernel
theorem dX5_turn_188 : decode cX5_turn 188 = .ok (.istore 10, 2) := by decide +kernel
theorem dX5_turn_190 : decode cX5_turn 190 = .ok (.aload_n 0, 1) := by decide +kernel
theorem dX5_turn_191 : decode cX5_turn 191 = .ok (.getfield 39, 3) := by decide +kernel
theorem dX5_turn_194 : decode cX5_turn 194 = .ok (.iconst 3, 1) := by decide +kernel
theorem dX5_turn_195 : decode cX5_turn 195 = .ok (.iload_n 1, 1) := by decide +kernel
theorem dX5_turn_196 : decode cX5_turn 196 = .ok (.imul, 1) := by decide +kernel
theorem dX5_turn_197 : decode cX5_turn 197 = .ok (.iload 8, 2) := by decide +kernel
theorem dX5_turn_199 : decode cX5_turn 199 = .ok (.iadd, 1) := by decide +kernel
theorem dX5_turn_200 : decode cX5_turn 200 = .ok (.iload 4, 2) := by decide +kernel
theorem dX5_turn_202 : decode cX5_turn 202 = .ok (.ifCond .eq 8, 3) := by decide +kernel
theorem dX5_turn_205 : decode cX5_turn 205 = .ok (.iload 10, 2) := by decide +kernel
theorem dX5_turn_207 : decode cX5_turn 207 = .ok (.goto 12, 3) := by decide +kernel
theorem dX5_turn_210 : decode cX5_turn 210 = .ok (.aload_n 0, 1) := by decide +kernel
theorem dX5_turn_211 : decode cX5_turn 211 = .ok (.getfield 39, 3) := by decide +kernel
theorem dX5_turn_214 : decode cX5_turn 214 = .ok (.iload_n 3, 1) := by decide +kernel
theorem dX5_turn_215 : decode cX5_turn 215 = .ok (.iload 8, 2) := by decide +kernel
theorem dX5_turn_217 : decode cX5_turn 217 = .ok (.iadd, 1) := by decide +kernel
theorem dX5_turn_218 : decode cX5_turn 218 = .ok (.iaload, 1) := by decide +kernel
theorem dX5_turn_219 : decode cX5_turn 219 = .ok (.iastore, 1) := by decide +kernel
theorem dX5_turn_220 : decode cX5_turn 220 = .ok (.aload_n 0, 1) := by decide +kernel
theorem dX5_turn_221 : decode cX5_turn 221 = .ok (.getfield 42, 3) := by decide +kernel
theorem dX5_turn_224 : decode cX5_turn 224 = .ok (.iconst 3, 1) := by decide +kernel
theorem dX5_turn_225 : decode cX5_turn 225 = .ok (.iload_n 1, 1) := by decide +kernel
theorem dX5_turn_226 : decode cX5_turn 226 = .ok (.imul, 1) := by decide +kernel
theorem dX5_turn_227 : decode cX5_turn 227 = .ok (.iload 8, 2) := by decide +kernel
theorem dX5_turn_229 : decode cX5_turn 229 = .ok (.iadd, 1) := by decide +kernel
theorem dX5_turn_230 : decode cX5_turn 230 = .ok (.iload 4, 2) := by decide +kernel
theorem dX5_turn_232 : decode cX5_turn 232 = .ok (.ifCond .eq 15, 3) := by decide +kernel
theorem dX5_turn_235 : decode cX5_turn 235 = .ok (.aload_n 0, 1) := by decide +kernel
theorem dX5_turn_236 : decode cX5_turn 236 = .ok (.getfield 42, 3) := by decide +kernel
theorem dX5_turn_239 : decode cX5_turn 239 = .ok (.iload_n 3, 1) := by decide +kernel
theorem dX5_turn_240 : decode cX5_turn 240 = .ok (.iload 8, 2) := by decide +kernel
theorem dX5_turn_242 : decode cX5_turn 242 = .ok (.iadd, 1) := by decide +kernel
theorem dX5_turn_243 : decode cX5_turn 243 = .ok (.iaload, 1) := by decide +kernel
theorem dX5_turn_244 : decode cX5_turn 244 = .ok (.goto 5, 3) := by decide +kernel
theorem dX5_turn_247 : decode cX5_turn 247 = .ok (.iload 10, 2) := by decide +kernel
theorem dX5_turn_249 : decode cX5_turn 249 = .ok (.iastore, 1) := by decide +kernel
theorem dX5_turn_250 : decode cX5_turn 250 = .ok (.aload_n 0, 1) := by decide +kernel
theorem dX5_turn_251 : decode cX5_turn 251 = .ok (.getfield 45, 3) := by decide +kernel
theorem dX5_turn_254 : decode cX5_turn 254 = .ok (.iconst 3, 1) := by decide +kernel
theorem dX5_turn_255 : decode cX5_turn 255 = .ok (.iload_n 1, 1) := by decide +kernel
theorem dX5_turn_256 : decode cX5_turn 256 = .ok (.imul, 1) := by decide +kernel
theorem dX5_turn_257 : decode cX5_turn 257 = .ok (.iload 8, 2) := by decide +kernel
theorem dX5_turn_259 : decode cX5_turn 259 = .ok (.iadd, 1) := by decide +kernel
theorem dX5_turn_260 : decode cX5_turn 260 = .ok (.iload_n 2, 1) := by decide +kernel
theorem dX5_turn_261 : decode cX5_turn 261 = .ok (.ifCond .eq 15, 3) := by decide +kernel
theorem dX5_turn_264 : decode cX5_turn 264 = .ok (.iload 5, 2) := by decide +kernel
theorem dX5_turn_266 : decode cX5_turn 266 = .ok (.ineg, 1) := by decide +kernel
theorem dX5_turn_267 : decode cX5_turn 267 = .ok (.iload 6, 2) := by decide +kernel
theorem dX5_turn_269 : decode cX5_turn 269 = .ok (.imul, 1) := by decide +kernel
theorem dX5_turn_270 : decode cX5_turn 270 = .ok (.iload 9, 2) := by decide +kernel
theorem dX5_turn_272 : decode cX5_turn 272 = .ok (.imul, 1) := by decide +kernel
theorem dX5_turn_273 : decode cX5_turn 273 = .ok (.goto 12, 3) := by decide +kernel
theorem dX5_turn_276 : decode cX5_turn 276 = .ok (.aload_n 0, 1) := by decide +kernel
theorem dX5_turn_277 : decode cX5_turn 277 = .ok (.getfield 45, 3) := by decide +kernel
theorem dX5_turn_280 : decode cX5_turn 280 = .ok (.iload_n 3, 1) := by decide +kernel
theorem dX5_turn_281 : decode cX5_turn 281 = .ok (.iload 8, 2) := by decide +kernel
theorem dX5_turn_283 : decode cX5_turn 283 = .ok (.iadd, 1) := by decide +kernel
theorem dX5_turn_284 : decode cX5_turn 284 = .ok (.iaload, 1) := by decide +kernel
theorem dX5_turn_285 : decode cX5_turn 285 = .ok (.iastore, 1) := by decide +kernel
theorem dX5_turn_286 : decode cX5_turn 286 = .ok (.aload_n 0, 1) := by decide +kernel
theorem dX5_turn_287 : decode cX5_turn 287 = .ok (.getfield 36, 3) := by decide +kernel
theorem dX5_turn_290 : decode cX5_turn 290 = .ok (.iconst 3, 1) := by decide +kernel
theorem dX5_turn_291 : decode cX5_turn 291 = .ok (.iload_n 1, 1) := by decide +kernel
theorem dX5_turn_292 : decode cX5_turn 292 = .ok (.imul, 1) := by decide +kernel
theorem dX5_turn_293 : decode cX5_turn 293 = .ok (.iload 8, 2) := by decide +kernel
theorem dX5_turn_295 : decode cX5_turn 295 = .ok (.iadd, 1) := by decide +kernel
theorem dX5_turn_296 : decode cX5_turn 296 = .ok (.aload_n 0, 1) := by decide +kernel
theorem dX5_turn_297 : decode cX5_turn 297 = .ok (.getfield 36, 3) := by decide +kernel
theorem dX5_turn_300 : decode cX5_turn 300 = .ok (.iload_n 3, 1) := by decide +kernel
theorem dX5_turn_301 : decode cX5_turn 301 = .ok (.iload 8, 2) := by decide +kernel
theorem dX5_turn_303 : decode cX5_turn 303 = .ok (.iadd, 1) := by decide +kernel
theorem dX5_turn_304 : decode cX5_turn 304 = .ok (.iaload, 1) := by decide +kernel
theorem dX5_turn_305 : decode cX5_turn 305 = .ok (.iload 7, 2) := by decide +kernel
theorem dX5_turn_307 : decode cX5_turn 307 = .ok (.iload 9, 2) := by decide +kernel
theorem dX5_turn_309 : decode cX5_turn 309 = .ok (.iload 10, 2) := by decide +kernel
theorem dX5_turn_311 : decode cX5_turn 311 = .ok (.isub, 1) := by decide +kernel
theorem dX5_turn_312 : decode cX5_turn 312 = .ok (.imul, 1) := by decide +kernel
theorem dX5_turn_313 : decode cX5_turn 313 = .ok (.iadd, 1) := by decide +kernel
theorem dX5_turn_314 : decode cX5_turn 314 = .ok (.iastore, 1) := by decide +kernel
theorem dX5_turn_315 : decode cX5_turn 315 = .ok (.iinc 8 1, 3) := by decide +kernel
theorem dX5_turn_318 : decode cX5_turn 318 = .ok (.goto (-188), 3) := by decide +kernel
theorem dX5_turn_321 : decode cX5_turn 321 = .ok (.return_, 1) := by decide +kernel
theorem dX5_fold_0 : decode cX5_fold 0 = .ok (.iconst 0, 1) := by decide +kernel
theorem dX5_fold_1 : decode cX5_fold 1 = .ok (.istore_n 2, 1) := by decide +kernel
theorem dX5_fold_2 : decode cX5_fold 2 = .ok (.iload_n 2, 1) := by decide +kernel
theorem dX5_fold_3 : decode cX5_fold 3 = .ok (.iconst 3, 1) := by decide +kernel
theorem dX5_fold_4 : decode cX5_fold 4 = .ok (.if_icmp .ge 63, 3) := by decide +kernel
theorem dX5_fold_7 : decode cX5_fold 7 = .ok (.aload_n 0, 1) := by decide +kernel
theorem dX5_fold_8 : decode cX5_fold 8 = .ok (.getfield 36, 3) := by decide +kernel
theorem dX5_fold_11 : decode cX5_fold 11 = .ok (.iload_n 2, 1) := by decide +kernel
theorem dX5_fold_12 : decode cX5_fold 12 = .ok (.iconst 0, 1) := by decide +kernel
theorem dX5_fold_13 : decode cX5_fold 13 = .ok (.iastore, 1) := by decide +kernel
theorem dX5_fold_14 : decode cX5_fold 14 = .ok (.aload_n 0, 1) := by decide +kernel
theorem dX5_fold_15 : decode cX5_fold 15 = .ok (.getfield 39, 3) := by decide +kernel
theorem dX5_fold_18 : decode cX5_fold 18 = .ok (.iload_n 2, 1) := by decide +kernel
theorem dX5_fold_19 : decode cX5_fold 19 = .ok (.iload_n 2, 1) := by decide +kernel
theorem dX5_fold_20 : decode cX5_fold 20 = .ok (.ifCond .ne 7, 3) := by decide +kernel
theorem dX5_fold_23 : decode cX5_fold 23 = .ok (.iconst 1, 1) := by decide +kernel
theorem dX5_fold_24 : decode cX5_fold 24 = .ok (.goto 4, 3) := by decide +kernel
theorem dX5_fold_27 : decode cX5_fold 27 = .ok (.iconst 0, 1) := by decide +kernel
theorem dX5_fold_28 : decode cX5_fold 28 = .ok (.iastore, 1) := by decide +kernel
theorem dX5_fold_29 : decode cX5_fold 29 = .ok (.aload_n 0, 1) := by decide +kernel
theorem dX5_fold_30 : decode cX5_fold 30 = .ok (.getfield 42, 3) := by decide +kernel
theorem dX5_fold_33 : decode cX5_fold 33 = .ok (.iload_n 2, 1) := by decide +kernel
theorem dX5_fold_34 : decode cX5_fold 34 = .ok (.iload_n 2, 1) := by decide +kernel
theorem dX5_fold_35 : decode cX5_fold 35 = .ok (.iconst 1, 1) := by decide +kernel
theorem dX5_fold_36 : decode cX5_fold 36 = .ok (.if_icmp .ne 7, 3) := by decide +kernel
theorem dX5_fold_39 : decode cX5_fold 39 = .ok (.iconst 1, 1) := by decide +kernel
theorem dX5_fold_40 : decode cX5_fold 40 = .ok (.goto 4, 3) := by decide +kernel
theorem dX5_fold_43 : decode cX5_fold 43 = .ok (.iconst 0, 1) := by decide +kernel
theorem dX5_fold_44 : decode cX5_fold 44 = .ok (.iastore, 1) := by decide +kernel
theorem dX5_fold_45 : decode cX5_fold 45 = .ok (.aload_n 0, 1) := by decide +kernel
theorem dX5_fold_46 : decode cX5_fold 46 = .ok (.getfield 45, 3) := by decide +kernel
theorem dX5_fold_49 : decode cX5_fold 49 = .ok (.iload_n 2, 1) := by decide +kernel
theorem dX5_fold_50 : decode cX5_fold 50 = .ok (.iload_n 2, 1) := by decide +kernel
theorem dX5_fold_51 : decode cX5_fold 51 = .ok (.iconst 2, 1) := by decide +kernel
theorem dX5_fold_52 : decode cX5_fold 52 = .ok (.if_icmp .ne 7, 3) := by decide +kernel
theorem dX5_fold_55 : decode cX5_fold 55 = .ok (.iconst 1, 1) := by decide +kernel
theorem dX5_fold_56 : decode cX5_fold 56 = .ok (.goto 4, 3) := by decide +kernel
theorem dX5_fold_59 : decode cX5_fold 59 = .ok (.iconst 0, 1) := by decide +kernel
theorem dX5_fold_60 : decode cX5_fold 60 = .ok (.iastore, 1) := by decide +kernel
theorem dX5_fold_61 : decode cX5_fold 61 = .ok (.iinc 2 1, 3) := by decide +kernel
theorem dX5_fold_64 : decode cX5_fold 64 = .ok (.goto (-62), 3) := by decide +kernel
theorem dX5_fold_67 : decode cX5_fold 67 = .ok (.iconst 0, 1) := by decide +kernel
theorem dX5_fold_68 : decode cX5_fold 68 = .ok (.istore_n 2, 1) := by decide +kernel
theorem dX5_fold_69 : decode cX5_fold 69 = .ok (.iload_n 2, 1) := by decide +kernel
theorem dX5_fold_70 : decode cX5_fold 70 = .ok (.aload_n 0, 1) := by decide +kernel
theorem dX5_fold_71 : decode cX5_fold 71 = .ok (.getfield 73, 3) := by decide +kernel
theorem dX5_fold_74 : decode cX5_fold 74 = .ok (.if_icmp .ge 207, 3) := by decide +kernel
theorem dX5_fold_77 : decode cX5_fold 77 = .ok (.iload_n 2, 1) := by decide +kernel
theorem dX5_fold_78 : decode cX5_fold 78 = .ok (.ifCond .le 22, 3) := by decide +kernel
theorem dX5_fold_81 : decode cX5_fold 81 = .ok (.aload_n 0, 1) := by decide +kernel
theorem dX5_fold_82 : decode cX5_fold 82 = .ok (.iload_n 2, 1) := by decide +kernel
theorem dX5_fold_83 : decode cX5_fold 83 = .ok (.iload_n 1, 1) := by decide +kernel
theorem dX5_fold_84 : decode cX5_fold 84 = .ok (.iload_n 2, 1) := by decide +kernel
theorem dX5_fold_85 : decode cX5_fold 85 = .ok (.ishr, 1) := by decide +kernel
theorem dX5_fold_86 : decode cX5_fold 86 = .ok (.iconst 1, 1) := by decide +kernel
theorem dX5_fold_87 : decode cX5_fold 87 = .ok (.iand, 1) := by decide +kernel
theorem dX5_fold_88 : decode cX5_fold 88 = .ok (.iconst 1, 1) := by decide +kernel
theorem dX5_fold_89 : decode cX5_fold 89 = .ok (.if_icmp .ne 7, 3) := by decide +kernel
theorem dX5_fold_92 : decode cX5_fold 92 = .ok (.iconst 1, 1) := by decide +kernel
theorem dX5_fold_93 : decode cX5_fold 93 = .ok (.goto 4, 3) := by decide +kernel
theorem dX5_fold_96 : decode cX5_fold 96 = .ok (.iconst 0, 1) := by decide +kernel
theorem dX5_fold_97 : decode cX5_fold 97 = .ok (.invokevirtual 100, 3) := by decide +kernel
theorem dX5_fold_100 : decode cX5_fold 100 = .ok (.iconst 0, 1) := by decide +kernel
theorem dX5_fold_101 : decode cX5_fold 101 = .ok (.istore_n 3, 1) := by decide +kernel
theorem dX5_fold_102 : decode cX5_fold 102 = .ok (.iload_n 3, 1) := by decide +kernel
theorem dX5_fold_103 : decode cX5_fold 103 = .ok (.iconst 3, 1) := by decide +kernel
theorem dX5_fold_104 : decode cX5_fold 104 = .ok (.if_icmp .ge 171, 3) := by decide +kernel
theorem dX5_fold_107 : decode cX5_fold 107 = .ok (.aload_n 0, 1) := by decide +kernel
theorem dX5_fold_108 : decode cX5_fold 108 = .ok (.getfield 36, 3) := by decide +kernel
theorem dX5_fold_111 : decode cX5_fold 111 = .ok (.iconst 3, 1) := by decide +kernel
theorem dX5_fold_112 : decode cX5_fold 112 = .ok (.iload_n 2, 1) := by decide +kernel
theorem dX5_fold_113 : decode cX5_fold 113 = .ok (.imul, 1) := by decide +kernel
theorem dX5_fold_114 : decode cX5_fold 114 = .ok (.iload_n 3, 1) := by decide +kernel
theorem dX5_fold_115 : decode cX5_fold 115 = .ok (.iadd, 1) := by decide +kernel
theorem dX5_fold_116 : decode cX5_fold 116 = .ok (.iaload, 1) := by decide +kernel
theorem dX5_fold_117 : decode cX5_fold 117 = .ok (.aload_n 0, 1) := by decide +kernel
theorem dX5_fold_118 : decode cX5_fold 118 = .ok (.getfield 24, 3) := by decide +kernel
theorem dX5_fold_121 : decode cX5_fold 121 = .ok (.iconst 4, 1) := by decide +kernel
theorem dX5_fold_122 : decode cX5_fold 122 = .ok (.iload_n 2, 1) := by decide +kernel
theorem dX5_fold_123 : decode cX5_fold 123 = .ok (.imul, 1) := by decide +kernel
theorem dX5_fold_124 : decode cX5_fold 124 = .ok (.iaload, 1) := by decide +kernel
theorem dX5_fold_125 : decode cX5_fold 125 = .ok (.aload_n 0, 1) := by decide +kernel
theorem dX5_fold_126 : decode cX5_fold 126 = .ok (.getfield 39, 3) := by decide +kernel
theorem dX5_fold_129 : decode cX5_fold 129 = .ok (.iconst 3, 1) := by decide +kernel
theorem dX5_fold_130 : decode cX5_fold 130 = .ok (.iload_n 2, 1) := by decide +kernel
theorem dX5_fold_131 : decode cX5_fold 131 = .ok (.imul, 1) := by decide +kernel
theorem dX5_fold_132 : decode cX5_fold 132 = .ok (.iload_n 3, 1) := by decide +kernel
theorem dX5_fold_133 : decode cX5_fold 133 = .ok (.iadd, 1) := by decide +kernel
theorem dX5_fold_134 : decode cX5_fold 134 = .ok (.iaload, 1) := by decide +kernel
theorem dX5_fold_135 : decode cX5_fold 135 = .ok (.imul, 1) := by decide +kernel
theorem dX5_fold_136 : decode cX5_fold 136 = .ok (.iadd, 1) := by decide +kernel
theorem dX5_fold_137 : decode cX5_fold 137 = .ok (.aload_n 0, 1) := by decide +kernel
theorem dX5_fold_138 : decode cX5_fold 138 = .ok (.getfield 24, 3) := by decide +kernel
theorem dX5_fold_141 : decode cX5_fold 141 = .ok (.iconst 4, 1) := by decide +kernel
theorem dX5_fold_142 : decode cX5_fold 142 = .ok (.iload_n 2, 1) := by decide +kernel
theorem dX5_fold_143 : decode cX5_fold 143 = .ok (.imul, 1) := by decide +kernel
theorem dX5_fold_144 : decode cX5_fold 144 = .ok (.iconst 1, 1) := by decide +kernel
theorem dX5_fold_145 : decode cX5_fold 145 = .ok (.iadd, 1) := by decide +kernel
theorem dX5_fold_146 : decode cX5_fold 146 = .ok (.iaload, 1) := by decide +kernel
theorem dX5_fold_147 : decode cX5_fold 147 = .ok (.aload_n 0, 1) := by decide +kernel
theorem dX5_fold_148 : decode cX5_fold 148 = .ok (.getfield 42, 3) := by decide +kernel
theorem dX5_fold_151 : decode cX5_fold 151 = .ok (.iconst 3, 1) := by decide +kernel
theorem dX5_fold_152 : decode cX5_fold 152 = .ok (.iload_n 2, 1) := by decide +kernel
theorem dX5_fold_153 : decode cX5_fold 153 = .ok (.imul, 1) := by decide +kernel
theorem dX5_fold_154 : decode cX5_fold 154 = .ok (.iload_n 3, 1) := by decide +kernel
theorem dX5_fold_155 : decode cX5_fold 155 = .ok (.iadd, 1) := by decide +kernel
theorem dX5_fold_156 : decode cX5_fold 156 = .ok (.iaload, 1) := by decide +kernel
theorem dX5_fold_157 : decode cX5_fold 157 = .ok (.imul, 1) := by decide +kernel
theorem dX5_fold_158 : decode cX5_fold 158 = .ok (.iadd, 1) := by decide +kernel
theorem dX5_fold_159 : decode cX5_fold 159 = .ok (.istore 4, 2) := by decide +kernel
theorem dX5_fold_161 : decode cX5_fold 161 = .ok (.aload_n 0, 1) := by decide +kernel
theorem dX5_fold_162 : decode cX5_fold 162 = .ok (.getfield 36, 3) := by decide +kernel
theorem dX5_fold_165 : decode cX5_fold 165 = .ok (.iconst 3, 1) := by decide +kernel
theorem dX5_fold_166 : decode cX5_fold 166 = .ok (.iload_n 2, 1) := by decide +kernel
theorem dX5_fold_167 : decode cX5_fold 167 = .ok (.imul, 1) := by decide +kernel
theorem dX5_fold_168 : decode cX5_fold 168 = .ok (.iload_n 3, 1) := by decide +kernel
theorem dX5_fold_169 : decode cX5_fold 169 = .ok (.iadd, 1) := by decide +kernel
theorem dX5_fold_170 : decode cX5_fold 170 = .ok (.iaload, 1) := by decide +kernel
theorem dX5_fold_171 : decode cX5_fold 171 = .ok (.aload_n 0, 1) := by decide +kernel
theorem dX5_fold_172 : decode cX5_fold 172 = .ok (.getfield 24, 3) := by decide +kernel
theorem dX5_fold_175 : decode cX5_fold 175 = .ok (.iconst 4, 1) := by decide +kernel
theorem dX5_fold_176 : decode cX5_fold 176 = .ok (.iload_n 2, 1) := by decide +kernel
theorem dX5_fold_177 : decode cX5_fold 177 = .ok (.imul, 1) := by decide +kernel
theorem dX5_fold_178 : decode cX5_fold 178 = .ok (.iconst 2, 1) := by decide +kernel
theorem dX5_fold_179 : decode cX5_fold 179 = .ok (.iadd, 1) := by decide +kernel
theorem dX5_fold_180 : decode cX5_fold 180 = .ok (.iaload, 1) := by decide +kernel
theorem dX5_fold_181 : decode cX5_fold 181 = .ok (.aload_n 0, 1) := by decide +kernel
theorem dX5_fold_182 : decode cX5_fold 182 = .ok (.getfield 39, 3) := by decide +kernel
theorem dX5_fold_185 : decode cX5_fold 185 = .ok (.iconst 3, 1) := by decide +kernel
theorem dX5_fold_186 : decode cX5_fold 186 = .ok (.iload_n 2, 1) := by decide +kernel
theorem dX5_fold_187 : decode cX5_fold 187 = .ok (.imul, 1) := by decide +kernel
theorem dX5_fold_188 : decode cX5_fold 188 = .ok (.iload_n 3, 1) := by decide +kernel
theorem dX5_fold_189 : decode cX5_fold 189 = .ok (.iadd, 1) := by decide +kernel
theorem dX5_fold_190 : decode cX5_fold 190 = .ok (.iaload, 1) := by decide +kernel
theorem dX5_fold_191 : decode cX5_fold 191 = .ok (.imul, 1) := by decide +kernel
theorem dX5_fold_192 : decode cX5_fold 192 = .ok (.iadd, 1) := by decide +kernel
theorem dX5_fold_193 : decode cX5_fold 193 = .ok (.aload_n 0, 1) := by decide +kernel
theorem dX5_fold_194 : decode cX5_fold 194 = .ok (.getfield 24, 3) := by decide +kernel
theorem dX5_fold_197 : decode cX5_fold 197 = .ok (.iconst 4, 1) := by decide +kernel
theorem dX5_fold_198 : decode cX5_fold 198 = .ok (.iload_n 2, 1) := by decide +kernel
theorem dX5_fold_199 : decode cX5_fold 199 = .ok (.imul, 1) := by decide +kernel
theorem dX5_fold_200 : decode cX5_fold 200 = .ok (.iconst 3, 1) := by decide +kernel
theorem dX5_fold_201 : decode cX5_fold 201 = .ok (.iadd, 1) := by decide +kernel
theorem dX5_fold_202 : decode cX5_fold 202 = .ok (.iaload, 1) := by decide +kernel
theorem dX5_fold_203 : decode cX5_fold 203 = .ok (.aload_n 0, 1) := by decide +kernel
theorem dX5_fold_204 : decode cX5_fold 204 = .ok (.getfield 42, 3) := by decide +kernel
theorem dX5_fold_207 : decode cX5_fold 207 = .ok (.iconst 3, 1) := by decide +kernel
theorem dX5_fold_208 : decode cX5_fold 208 = .ok (.iload_n 2, 1) := by decide +kernel
theorem dX5_fold_209 : decode cX5_fold 209 = .ok (.imul, 1) := by decide +kernel
theorem dX5_fold_210 : decode cX5_fold 210 = .ok (.iload_n 3, 1) := by decide +kernel
theorem dX5_fold_211 : decode cX5_fold 211 = .ok (.iadd, 1) := by decide +kernel
theorem dX5_fold_212 : decode cX5_fold 212 = .ok (.iaload, 1) := by decide +kernel
theorem dX5_fold_213 : decode cX5_fold 213 = .ok (.imul, 1) := by decide +kernel
theorem dX5_fold_214 : decode cX5_fold 214 = .ok (.iadd, 1) := by decide +kernel
theorem dX5_fold_215 : decode cX5_fold 215 = .ok (.istore 5, 2) := by decide +kernel
theorem dX5_fold_217 : decode cX5_fold 217 = .ok (.aload_n 0, 1) := by decide +kernel
theorem dX5_fold_218 : decode cX5_fold 218 = .ok (.getfield 48, 3) := by decide +kernel
theorem dX5_fold_221 : decode cX5_fold 221 = .ok (.bipush 6, 2) := by decide +kernel
theorem dX5_fold_223 : decode cX5_fold 223 = .ok (.iload_n 2, 1) := by decide +kernel
theorem dX5_fold_224 : decode cX5_fold 224 = .ok (.imul, 1) := by decide +kernel
theorem dX5_fold_225 : decode cX5_fold 225 = .ok (.iload_n 3, 1) := by decide +kernel
theorem dX5_fold_226 : decode cX5_fold 226 = .ok (.iadd, 1) := by decide +kernel
theorem dX5_fold_227 : decode cX5_fold 227 = .ok (.iload 4, 2) := by decide +kernel
theorem dX5_fold_229 : decode cX5_fold 229 = .ok (.iload 5, 2) := by decide +kernel
theorem dX5_fold_231 : decode cX5_fold 231 = .ok (.if_icmp .ge 8, 3) := by decide +kernel
theorem dX5_fold_234 : decode cX5_fold 234 = .ok (.iload 4, 2) := by decide +kernel
theorem dX5_fold_236 : decode cX5_fold 236 = .ok (.goto 5, 3) := by decide +kernel
theorem dX5_fold_239 : decode cX5_fold 239 = .ok (.iload 5, 2) := by decide +kernel
theorem dX5_fold_241 : decode cX5_fold 241 = .ok (.iastore, 1) := by decide +kernel
theorem dX5_fold_242 : decode cX5_fold 242 = .ok (.aload_n 0, 1) := by decide +kernel
theorem dX5_fold_243 : decode cX5_fold 243 = .ok (.getfield 48, 3) := by decide +kernel
theorem dX5_fold_246 : decode cX5_fold 246 = .ok (.bipush 6, 2) := by decide +kernel
theorem dX5_fold_248 : decode cX5_fold 248 = .ok (.iload_n 2, 1) := by decide +kernel
theorem dX5_fold_249 : decode cX5_fold 249 = .ok (.imul, 1) := by decide +kernel
theorem dX5_fold_250 : decode cX5_fold 250 = .ok (.iconst 3, 1) := by decide +kernel
theorem dX5_fold_251 : decode cX5_fold 251 = .ok (.iadd, 1) := by decide +kernel
theorem dX5_fold_252 : decode cX5_fold 252 = .ok (.iload_n 3, 1) := by decide +kernel
theorem dX5_fold_253 : decode cX5_fold 253 = .ok (.iadd, 1) := by decide +kernel
theorem dX5_fold_254 : decode cX5_fold 254 = .ok (.iload 4, 2) := by decide +kernel
theorem dX5_fold_256 : decode cX5_fold 256 = .ok (.iload 5, 2) := by decide +kernel
theorem dX5_fold_258 : decode cX5_fold 258 = .ok (.if_icmp .ge 8, 3) := by decide +kernel
theorem dX5_fold_261 : decode cX5_fold 261 = .ok (.iload 5, 2) := by decide +kernel
theorem dX5_fold_263 : decode cX5_fold 263 = .ok (.goto 5, 3) := by decide +kernel
theorem dX5_fold_266 : decode cX5_fold 266 = .ok (.iload 4, 2) := by decide +kernel
theorem dX5_fold_268 : decode cX5_fold 268 = .ok (.iastore, 1) := by decide +kernel
theorem dX5_fold_269 : decode cX5_fold 269 = .ok (.iinc 3 1, 3) := by decide +kernel
