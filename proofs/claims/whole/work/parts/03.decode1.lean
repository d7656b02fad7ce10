theorem dX0_init_0 : decode cX0_init 0 = .ok (.aload_n 0, 1) := by decide +kernel
theorem dX0_init_1 : decode cX0_init 1 = .ok (.invokespecial 3, 3) := by decide +kernel
theorem dX0_init_4 : decode cX0_init 4 = .ok (.aload_n 0, 1) := by decide +kernel
theorem dX0_init_5 : decode cX0_init 5 = .ok (.bipush 13, 2) := by decide +kernel
theorem dX0_init_7 : decode cX0_init 7 = .ok (.newarray .int, 2) := by decide +kernel
theorem dX0_init_9 : decode cX0_init 9 = .ok (.putfield 9, 3) := by decide +kernel
theorem dX0_init_12 : decode cX0_init 12 = .ok (.aload_n 0, 1) := by decide +kernel
theorem dX0_init_13 : decode cX0_init 13 = .ok (.bipush 13, 2) := by decide +kernel
theorem dX0_init_15 : decode cX0_init 15 = .ok (.newarray .int, 2) := by decide +kernel
theorem dX0_init_17 : decode cX0_init 17 = .ok (.putfield 15, 3) := by decide +kernel
theorem dX0_init_20 : decode cX0_init 20 = .ok (.aload_n 0, 1) := by decide +kernel
theorem dX0_init_21 : decode cX0_init 21 = .ok (.bipush 13, 2) := by decide +kernel
theorem dX0_init_23 : decode cX0_init 23 = .ok (.newarray .int, 2) := by decide +kernel
theorem dX0_init_25 : decode cX0_init 25 = .ok (.putfield 18, 3) := by decide +kernel
theorem dX0_init_28 : decode cX0_init 28 = .ok (.aload_n 0, 1) := by decide +kernel
theorem dX0_init_29 : decode cX0_init 29 = .ok (.iconst 3, 1) := by decide +kernel
theorem dX0_init_30 : decode cX0_init 30 = .ok (.bipush 13, 2) := by decide +kernel
theorem dX0_init_32 : decode cX0_init 32 = .ok (.multianewarray 21 2, 4) := by decide +kernel
theorem dX0_init_36 : decode cX0_init 36 = .ok (.putfield 23, 3) := by decide +kernel
theorem dX0_init_39 : decode cX0_init 39 = .ok (.aload_n 0, 1) := by decide +kernel
theorem dX0_init_40 : decode cX0_init 40 = .ok (.iconst 3, 1) := by decide +kernel
theorem dX0_init_41 : decode cX0_init 41 = .ok (.bipush 13, 2) := by decide +kernel
theorem dX0_init_43 : decode cX0_init 43 = .ok (.multianewarray 21 2, 4) := by decide +kernel
theorem dX0_init_47 : decode cX0_init 47 = .ok (.putfield 26, 3) := by decide +kernel
theorem dX0_init_50 : decode cX0_init 50 = .ok (.aload_n 0, 1) := by decide +kernel
theorem dX0_init_51 : decode cX0_init 51 = .ok (.iconst 3, 1) := by decide +kernel
theorem dX0_init_52 : decode cX0_init 52 = .ok (.bipush 13, 2) := by decide +kernel
theorem dX0_init_54 : decode cX0_init 54 = .ok (.multianewarray 21 2, 4) := by decide +kernel
theorem dX0_init_58 : decode cX0_init 58 = .ok (.putfield 29, 3) := by decide +kernel
theorem dX0_init_61 : decode cX0_init 61 = .ok (.return_, 1) := by decide +kernel
theorem dX0_foldAll_0 : decode cX0_foldAll 0 = .ok (.aload_n 0, 1) := by decide +kernel
theorem dX0_foldAll_1 : decode cX0_foldAll 1 = .ok (.getfield 9, 3) := by decide +kernel
theorem dX0_foldAll_4 : decode cX0_foldAll 4 = .ok (.iconst 0, 1) := by decide +kernel
theorem dX0_foldAll_5 : decode cX0_foldAll 5 = .ok (.iconst 1, 1) := by decide +kernel
theorem dX0_foldAll_6 : decode cX0_foldAll 6 = .ok (.iastore, 1) := by decide +kernel
theorem dX0_foldAll_7 : decode cX0_foldAll 7 = .ok (.aload_n 0, 1) := by decide +kernel
theorem dX0_foldAll_8 : decode cX0_foldAll 8 = .ok (.getfield 15, 3) := by decide +kernel
theorem dX0_foldAll_11 : decode cX0_foldAll 11 = .ok (.iconst 0, 1) := by decide +kernel
theorem dX0_foldAll_12 : decode cX0_foldAll 12 = .ok (.iconst 2, 1) := by decide +kernel
theorem dX0_foldAll_13 : decode cX0_foldAll 13 = .ok (.iastore, 1) := by decide +kernel
theorem dX0_foldAll_14 : decode cX0_foldAll 14 = .ok (.aload_n 0, 1) := by decide +kernel
theorem dX0_foldAll_15 : decode cX0_foldAll 15 = .ok (.getfield 18, 3) := by decide +kernel
theorem dX0_foldAll_18 : decode cX0_foldAll 18 = .ok (.iconst 0, 1) := by decide +kernel
theorem dX0_foldAll_19 : decode cX0_foldAll 19 = .ok (.iconst 3, 1) := by decide +kernel
theorem dX0_foldAll_20 : decode cX0_foldAll 20 = .ok (.iastore, 1) := by decide +kernel
theorem dX0_foldAll_21 : decode cX0_foldAll 21 = .ok (.iconst 0, 1) := by decide +kernel
theorem dX0_foldAll_22 : decode cX0_foldAll 22 = .ok (.istore_n 3, 1) := by decide +kernel
theorem dX0_foldAll_23 : decode cX0_foldAll 23 = .ok (.iload_n 3, 1) := by decide +kernel
theorem dX0_foldAll_24 : decode cX0_foldAll 24 = .ok (.iconst 3, 1) := by decide +kernel
theorem dX0_foldAll_25 : decode cX0_foldAll 25 = .ok (.if_icmp .ge 18, 3) := by decide +kernel
theorem dX0_foldAll_28 : decode cX0_foldAll 28 = .ok (.aload_n 0, 1) := by decide +kernel
theorem dX0_foldAll_29 : decode cX0_foldAll 29 = .ok (.getfield 23, 3) := by decide +kernel
theorem dX0_foldAll_32 : decode cX0_foldAll 32 = .ok (.iload_n 3, 1) := by decide +kernel
theorem dX0_foldAll_33 : decode cX0_foldAll 33 = .ok (.aaload, 1) := by decide +kernel
theorem dX0_foldAll_34 : decode cX0_foldAll 34 = .ok (.iconst 0, 1) := by decide +kernel
theorem dX0_foldAll_35 : decode cX0_foldAll 35 = .ok (.iconst 0, 1) := by decide +kernel
theorem dX0_foldAll_36 : decode cX0_foldAll 36 = .ok (.iastore, 1) := by decide +kernel
theorem dX0_foldAll_37 : decode cX0_foldAll 37 = .ok (.iinc 3 1, 3) := by decide +kernel
theorem dX0_foldAll_40 : decode cX0_foldAll 40 = .ok (.goto (-17), 3) := by decide +kernel
theorem dX0_foldAll_43 : decode cX0_foldAll 43 = .ok (.iconst 0, 1) := by decide +kernel
theorem dX0_foldAll_44 : decode cX0_foldAll 44 = .ok (.istore_n 3, 1) := by decide +kernel
theorem dX0_foldAll_45 : decode cX0_foldAll 45 = .ok (.iload_n 3, 1) := by decide +kernel
theorem dX0_foldAll_46 : decode cX0_foldAll 46 = .ok (.aload_n 1, 1) := by decide +kernel
theorem dX0_foldAll_47 : decode cX0_foldAll 47 = .ok (.getfield 32, 3) := by decide +kernel
theorem dX0_foldAll_50 : decode cX0_foldAll 50 = .ok (.if_icmp .ge 45, 3) := by decide +kernel
theorem dX0_foldAll_53 : decode cX0_foldAll 53 = .ok (.iload_n 3, 1) := by decide +kernel
theorem dX0_foldAll_54 : decode cX0_foldAll 54 = .ok (.ifCond .le 29, 3) := by decide +kernel
theorem dX0_foldAll_57 : decode cX0_foldAll 57 = .ok (.aload_n 0, 1) := by decide +kernel
theorem dX0_foldAll_58 : decode cX0_foldAll 58 = .ok (.aload_n 1, 1) := by decide +kernel
theorem dX0_foldAll_59 : decode cX0_foldAll 59 = .ok (.iload_n 3, 1) := by decide +kernel
theorem dX0_foldAll_60 : decode cX0_foldAll 60 = .ok (.iload_n 2, 1) := by decide +kernel
theorem dX0_foldAll_61 : decode cX0_foldAll 61 = .ok (.iload_n 3, 1) := by decide +kernel
theorem dX0_foldAll_62 : decode cX0_foldAll 62 = .ok (.ishr, 1) := by decide +kernel
theorem dX0_foldAll_63 : decode cX0_foldAll 63 = .ok (.iconst 1, 1) := by decide +kernel
theorem dX0_foldAll_64 : decode cX0_foldAll 64 = .ok (.iand, 1) := by decide +kernel
theorem dX0_foldAll_65 : decode cX0_foldAll 65 = .ok (.iconst 1, 1) := by decide +kernel
theorem dX0_foldAll_66 : decode cX0_foldAll 66 = .ok (.if_icmp .ne 7, 3) := by decide +kernel
theorem dX0_foldAll_69 : decode cX0_foldAll 69 = .ok (.iconst 1, 1) := by decide +kernel
theorem dX0_foldAll_70 : decode cX0_foldAll 70 = .ok (.goto 4, 3) := by decide +kernel
theorem dX0_foldAll_73 : decode cX0_foldAll 73 = .ok (.iconst 0, 1) := by decide +kernel
theorem dX0_foldAll_74 : decode cX0_foldAll 74 = .ok (.invokevirtual 38, 3) := by decide +kernel
theorem dX0_foldAll_77 : decode cX0_foldAll 77 = .ok (.aload_n 0, 1) := by decide +kernel
theorem dX0_foldAll_78 : decode cX0_foldAll 78 = .ok (.aload_n 1, 1) := by decide +kernel
theorem dX0_foldAll_79 : decode cX0_foldAll 79 = .ok (.iload_n 3, 1) := by decide +kernel
theorem dX0_foldAll_80 : decode cX0_foldAll 80 = .ok (.invokevirtual 42, 3) := by decide +kernel
theorem dX0_foldAll_83 : decode cX0_foldAll 83 = .ok (.aload_n 0, 1) := by decide +kernel
theorem dX0_foldAll_84 : decode cX0_foldAll 84 = .ok (.aload_n 1, 1) := by decide +kernel
theorem dX0_foldAll_85 : decode cX0_foldAll 85 = .ok (.iload_n 3, 1) := by decide +kernel
theorem dX0_foldAll_86 : decode cX0_foldAll 86 = .ok (.invokevirtual 46, 3) := by decide +kernel
theorem dX0_foldAll_89 : decode cX0_foldAll 89 = .ok (.iinc 3 1, 3) := by decide +kernel
theorem dX0_foldAll_92 : decode cX0_foldAll 92 = .ok (.goto (-47), 3) := by decide +kernel
theorem dX0_foldAll_95 : decode cX0_foldAll 95 = .ok (.return_, 1) := by decide +kernel
theorem dX0_setDirections_0 : decode cX0_setDirections 0 = .ok (.aload_n 1, 1) := by decide +kernel
theorem dX0_setDirections_1 : decode cX0_setDirections 1 = .ok (.getfield 49, 3) := by decide +kernel
theorem dX0_setDirections_4 : decode cX0_setDirections 4 = .ok (.iload_n 2, 1) := by decide +kernel
theorem dX0_setDirections_5 : decode cX0_setDirections 5 = .ok (.iaload, 1) := by decide +kernel
theorem dX0_setDirections_6 : decode cX0_setDirections 6 = .ok (.istore 4, 2) := by decide +kernel
theorem dX0_setDirections_8 : decode cX0_setDirections 8 = .ok (.aload_n 1, 1) := by decide +kernel
theorem dX0_setDirections_9 : decode cX0_setDirections 9 = .ok (.getfield 52, 3) := by decide +kernel
theorem dX0_setDirections_12 : decode cX0_setDirections 12 = .ok (.iload_n 2, 1) := by decide +kernel
theorem dX0_setDirections_13 : decode cX0_setDirections 13 = .ok (.iaload, 1) := by decide +kernel
theorem dX0_setDirections_14 : decode cX0_setDirections 14 = .ok (.istore 5, 2) := by decide +kernel
theorem dX0_setDirections_16 : decode cX0_setDirections 16 = .ok (.aload_n 0, 1) := by decide +kernel
theorem dX0_setDirections_17 : decode cX0_setDirections 17 = .ok (.getfield 9, 3) := by decide +kernel
theorem dX0_setDirections_20 : decode cX0_setDirections 20 = .ok (.iload_n 2, 1) := by decide +kernel
theorem dX0_setDirections_21 : decode cX0_setDirections 21 = .ok (.aload_n 0, 1) := by decide +kernel
theorem dX0_setDirections_22 : decode cX0_setDirections 22 = .ok (.getfield 9, 3) := by decide +kernel
theorem dX0_setDirections_25 : decode cX0_setDirections 25 = .ok (.iload 4, 2) := by decide +kernel
theorem dX0_setDirections_27 : decode cX0_setDirections 27 = .ok (.iaload, 1) := by decide +kernel
theorem dX0_setDirections_28 : decode cX0_setDirections 28 = .ok (.iastore, 1) := by decide +kernel
theorem dX0_setDirections_29 : decode cX0_setDirections 29 = .ok (.aload_n 0, 1) := by decide +kernel
theorem dX0_setDirections_30 : decode cX0_setDirections 30 = .ok (.getfield 15, 3) := by decide +kernel
theorem dX0_setDirections_33 : decode cX0_setDirections 33 = .ok (.iload_n 2, 1) := by decide +kernel
theorem dX0_setDirections_34 : decode cX0_setDirections 34 = .ok (.aload_n 0, 1) := by decide +kernel
theorem dX0_setDirections_35 : decode cX0_setDirections 35 = .ok (.getfield 15, 3) := by decide +kernel
theorem dX0_setDirections_38 : decode cX0_setDirections 38 = .ok (.iload 4, 2) := by decide +kernel
theorem dX0_setDirections_40 : decode cX0_setDirections 40 = .ok (.iaload, 1) := by decide +kernel
theorem dX0_setDirections_41 : decode cX0_setDirections 41 = .ok (.iastore, 1) := by decide +kernel
theorem dX0_setDirections_42 : decode cX0_setDirections 42 = .ok (.aload_n 0, 1) := by decide +kernel
theorem dX0_setDirections_43 : decode cX0_setDirections 43 = .ok (.getfield 18, 3) := by decide +kernel
theorem dX0_setDirections_46 : decode cX0_setDirections 46 = .ok (.iload_n 2, 1) := by decide +kernel
theorem dX0_setDirections_47 : decode cX0_setDirections 47 = .ok (.aload_n 0, 1) := by decide +kernel
theorem dX0_setDirections_48 : decode cX0_setDirections 48 = .ok (.getfield 18, 3) := by decide +kernel
theorem dX0_setDirections_51 : decode cX0_setDirections 51 = .ok (.iload 4, 2) := by decide +kernel
theorem dX0_setDirections_53 : decode cX0_setDirections 53 = .ok (.iaload, 1) := by decide +kernel
theorem dX0_setDirections_54 : decode cX0_setDirections 54 = .ok (.iastore, 1) := by decide +kernel
theorem dX0_setDirections_55 : decode cX0_setDirections 55 = .ok (.iload_n 3, 1) := by decide +kernel
theorem dX0_setDirections_56 : decode cX0_setDirections 56 = .ok (.ifCond .ne 4, 3) := by decide +kernel
theorem dX0_setDirections_59 : decode cX0_setDirections 59 = .ok (.return_, 1) := by decide +kernel
theorem dX0_setDirections_60 : decode cX0_setDirections 60 = .ok (.aload_n 0, 1) := by decide +kernel
theorem dX0_setDirections_61 : decode cX0_setDirections 61 = .ok (.iload 4, 2) := by decide +kernel
theorem dX0_setDirections_63 : decode cX0_setDirections 63 = .ok (.iload 5, 2) := by decide +kernel
theorem dX0_setDirections_65 : decode cX0_setDirections 65 = .ok (.invokevirtual 55, 3) := by decide +kernel
theorem dX0_setDirections_68 : decode cX0_setDirections 68 = .ok (.istore 6, 2) := by decide +kernel
theorem dX0_setDirections_70 : decode cX0_setDirections 70 = .ok (.aload_n 1, 1) := by decide +kernel
theorem dX0_setDirections_71 : decode cX0_setDirections 71 = .ok (.getfield 59, 3) := by decide +kernel
theorem dX0_setDirections_74 : decode cX0_setDirections 74 = .ok (.iload_n 2, 1) := by decide +kernel
theorem dX0_setDirections_75 : decode cX0_setDirections 75 = .ok (.baload, 1) := by decide +kernel
theorem dX0_setDirections_76 : decode cX0_setDirections 76 = .ok (.ifCond .eq 13, 3) := by decide +kernel
theorem dX0_setDirections_79 : decode cX0_setDirections 79 = .ok (.aload_n 0, 1) := by decide +kernel
theorem dX0_setDirections_80 : decode cX0_setDirections 80 = .ok (.getfield 18, 3) := by decide +kernel
theorem dX0_setDirections_83 : decode cX0_setDirections 83 = .ok (.iload 4, 2) := by decide +kernel
theorem dX0_setDirections_85 : decode cX0_setDirections 85 = .ok (.iaload, 1) := by decide +kernel
theorem dX0_setDirections_86 : decode cX0_setDirections 86 = .ok (.goto 11, 3) := by decide +kernel
theorem dX0_setDirections_89 : decode cX0_setDirections 89 = .ok (.aload_n 0, 1) := by decide +kernel
theorem dX0_setDirections_90 : decode cX0_setDirections 90 = .ok (.getfield 18, 3) := by decide +kernel
theorem dX0_setDirections_93 : decode cX0_setDirections 93 = .ok (.iload 4, 2) := by decide +kernel
theorem dX0_setDirections_95 : decode cX0_setDirections 95 = .ok (.iaload, 1) := by decide +kernel
theorem dX0_setDirections_96 : decode cX0_setDirections 96 = .ok (.ineg, 1) := by decide +kernel
theorem dX0_setDirections_97 : decode cX0_setDirections 97 = .ok (.istore 7, 2) := by decide +kernel
theorem dX0_setDirections_99 : decode cX0_setDirections 99 = .ok (.aload_n 0, 1) := by decide +kernel
theorem dX0_setDirections_100 : decode cX0_setDirections 100 = .ok (.getfield 18, 3) := by decide +kernel
theorem dX0_setDirections_103 : decode cX0_setDirections 103 = .ok (.iload_n 2, 1) := by decide +kernel
theorem dX0_setDirections_104 : decode cX0_setDirections 104 = .ok (.aload_n 1, 1) := by decide +kernel
theorem dX0_setDirections_105 : decode cX0_setDirections 105 = .ok (.getfield 59, 3) := by decide +kernel
theorem dX0_setDirections_108 : decode cX0_setDirections 108 = .ok (.iload_n 2, 1) := by decide +kernel
theorem dX0_setDirections_109 : decode cX0_setDirections 109 = .ok (.baload, 1) := by decide +kernel
theorem dX0_setDirections_110 : decode cX0_setDirections 110 = .ok (.ifCond .eq 9, 3) := by decide +kernel
theorem dX0_setDirections_113 : decode cX0_setDirections 113 = .ok (.iload 6, 2) := by decide +kernel
theorem dX0_setDirections_115 : decode cX0_setDirections 115 = .ok (.ineg, 1) := by decide +kernel
theorem dX0_setDirections_116 : decode cX0_setDirections 116 = .ok (.goto 5, 3) := by decide +kernel
theorem dX0_setDirections_119 : decode cX0_setDirections 119 = .ok (.iload 6, 2) := by decide +kernel
theorem dX0_setDirections_121 : decode cX0_setDirections 121 = .ok (.iastore, 1) := by decide +kernel
theorem dX0_setDirections_122 : decode cX0_setDirections 122 = .ok (.iload 5, 2) := by decide +kernel
theorem dX0_setDirections_124 : decode cX0_setDirections 124 = .ok (.invokestatic 63, 3) := by decide +kernel
theorem dX0_setDirections_127 : decode cX0_setDirections 127 = .ok (.ifCond .eq 8, 3) := by decide +kernel
theorem dX0_setDirections_130 : decode cX0_setDirections 130 = .ok (.iload 7, 2) := by decide +kernel
theorem dX0_setDirections_132 : decode cX0_setDirections 132 = .ok (.goto 6, 3) := by decide +kernel
theorem dX0_setDirections_135 : decode cX0_setDirections 135 = .ok (.iload 7, 2) := by decide +kernel
theorem dX0_setDirections_137 : decode cX0_setDirections 137 = .ok (.ineg, 1) := by decide +kernel
theorem dX0_setDirections_138 : decode cX0_setDirections 138 = .ok (.istore 8, 2) := by decide +kernel
theorem dX0_setDirections_140 : decode cX0_setDirections 140 = .ok (.iload 5, 2) := by decide +kernel
theorem dX0_setDirections_142 : decode cX0_setDirections 142 = .ok (.invokestatic 67, 3) := by decide +kernel
theorem dX0_setDirections_145 : decode cX0_setDirections 145 = .ok (.ifCond .eq 14, 3) := by decide +kernel
theorem dX0_setDirections_148 : decode cX0_setDirections 148 = .ok (.aload_n 0, 1) := by decide +kernel
theorem dX0_setDirections_149 : decode cX0_setDirections 149 = .ok (.getfield 9, 3) := by decide +kernel
theorem dX0_setDirections_152 : decode cX0_setDirections 152 = .ok (.iload_n 2, 1) := by decide +kernel
theorem dX0_setDirections_153 : decode cX0_setDirections 153 = .ok (.iload 8, 2) := by decide +kernel
theorem dX0_setDirections_155 : decode cX0_setDirections 155 = .ok (.iastore, 1) := by decide +kernel
theorem dX0_setDirections_156 : decode cX0_setDirections 156 = .ok (.goto 11, 3) := by decide +kernel
theorem dX0_setDirections_159 : decode cX0_setDirections 159 = .ok (.aload_n 0, 1) := by decide +kernel
theorem dX0_setDirections_160 : decode cX0_setDirections 160 = .ok (.getfield 15, 3) := by decide +kernel
theorem dX0_setDirections_163 : decode cX0_setDirections 163 = .ok (.iload_n 2, 1) := by decide +kernel
theorem dX0_setDirections_164 : decode cX0_setDirections 164 = .ok (.iload 8, 2) := by decide +kernel
theorem dX0_setDirections_166 : decode cX0_setDirections 166 = .ok (.iastore, 1) := by decide +kernel
theorem dX0_setDirections_167 : decode cX0_setDirections 167 = .ok (.return_, 1) := by decide +kernel
theorem dX0_setCorner_0 : decode cX0_setCorner 0 = .ok (.aload_n 1, 1) := by decide +kernel
theorem dX0_setCorner_1 : decode cX0_setCorner 1 = .ok (.getfield 49, 3) := by decide +kernel
theorem dX0_setCorner_4 : decode cX0_setCorner 4 = .ok (.iload_n 2, 1) := by decide +kernel
theorem dX0_setCorner_5 : decode cX0_setCorner 5 = .ok (.iaload, 1) := by decide +kernel
theorem dX0_setCorner_6 : decode cX0_setCorner 6 = .ok (.istore_n 3, 1) := by decide +kernel
theorem dX0_setCorner_7 : decode cX0_setCorner 7 = .ok (.aload_n 1, 1) := by decide +kernel
theorem dX0_setCorner_8 : decode cX0_setCorner 8 = .ok (.iload_n 2, 1) := by decide +kernel
theorem dX0_setCorner_9 : decode cX0_setCorner 9 = .ok (.invokevirtual 70, 3) := by decide +kernel
theorem dX0_setCorner_12 : decode cX0_setCorner 12 = .ok (.istore 4, 2) := by decide +kernel
theorem dX0_setCorner_14 : decode cX0_setCorner 14 = .ok (.aload_n 1, 1) := by decide +kernel
theorem dX0_setCorner_15 : decode cX0_setCorner 15 = .ok (.iload_n 2, 1) := by decide +kernel
theorem dX0_setCorner_16 : decode cX0_setCorner 16 = .ok (.invokevirtual 74, 3) := by decide +kernel
theorem dX0_setCorner_19 : decode cX0_setCorner 19 = .ok (.istore 5, 2) := by decide +kernel
theorem dX0_setCorner_21 : decode cX0_setCorner 21 = .ok (.iload 4, 2) := by decide +kernel
theorem dX0_setCorner_23 : decode cX0_setCorner 23 = .ok (.aload_n 1, 1) := by decide +kernel
theorem dX0_setCorner_24 : decode cX0_setCorner 24 = .ok (.getfield 77, 3) := by decide +kernel
theorem dX0_setCorner_27 : decode cX0_setCorner 27 = .ok (.iconst 2, 1) := by decide +kernel
theorem dX0_setCorner_28 : decode cX0_setCorner 28 = .ok (.aaload, 1) := by decide +kernel
theorem dX0_setCorner_29 : decode cX0_setCorner 29 = .ok (.iload_n 2, 1) := by decide +kernel
theorem dX0_setCorner_30 : decode cX0_setCorner 30 = .ok (.iaload, 1) := by decide +kernel
theorem dX0_setCorner_31 : decode cX0_setCorner 31 = .ok (.isub, 1) := by decide +kernel
theorem dX0_setCorner_32 : decode cX0_setCorner 32 = .ok (.istore 6, 2) := by decide +kernel
theorem dX0_setCorner_34 : decode cX0_setCorner 34 = .ok (.iload 5, 2) := by decide +kernel
theorem dX0_setCorner_36 : decode cX0_setCorner 36 = .ok (.aload_n 1, 1) := by decide +kernel
theorem dX0_setCorner_37 : decode cX0_setCorner 37 = .ok (.getfield 77, 3) := by decide +kernel
theorem dX0_setCorner_40 : decode cX0_setCorner 40 = .ok (.iconst 3, 1) := by decide +kernel
theorem dX0_setCorner_41 : decode cX0_setCorner 41 = .ok (.aaload, 1) := by decide +kernel
theorem dX0_setCorner_42 : decode cX0_setCorner 42 = .ok (.iload_n 2, 1) := by decide +kernel
theorem dX0_setCorner_43 : decode cX0_setCorner 43 = .ok (.iaload, 1) := by decide +kernel
theorem dX0_setCorner_44 : decode cX0_setCorner 44 = .ok (.isub, 1) := by decide +kernel
theorem dX0_setCorner_45 : decode cX0_setCorner 45 = .ok (.istore 7, 2) := by decide +kernel
theorem dX0_setCorner_47 : decode cX0_setCorner 47 = .ok (.iconst 0, 1) := by decide +kernel
theorem dX0_setCorner_48 : decode cX0_setCorner 48 = .ok (.istore 8, 2) := by decide +kernel
theorem dX0_setCorner_50 : decode cX0_setCorner 50 = .ok (.iload 8, 2) := by decide +kernel
theorem dX0_setCorner_52 : decode cX0_setCorner 52 = .ok (.iconst 3, 1) := by decide +kernel
theorem dX0_setCorner_53 : decode cX0_setCorner 53 = .ok (.if_icmp .ge 60, 3) := by decide +kernel
theorem dX0_setCorner_56 : decode cX0_setCorner 56 = .ok (.aload_n 0, 1) := by decide +kernel
theorem dX0_setCorner_57 : decode cX0_setCorner 57 = .ok (.getfield 23, 3) := by decide +kernel
theorem dX0_setCorner_60 : decode cX0_setCorner 60 = .ok (.iload 8, 2) := by decide +kernel
theorem dX0_setCorner_62 : decode cX0_setCorner 62 = .ok (.aaload, 1) := by decide +kernel
theorem dX0_setCorner_63 : decode cX0_setCorner 63 = .ok (.iload_n 2, 1) := by decide +kernel
theorem dX0_setCorner_64 : decode cX0_setCorner 64 = .ok (.aload_n 0, 1) := by decide +kernel
theorem dX0_setCorner_65 : decode cX0_setCorner 65 = .ok (.aload_n 1, 1) := by decide +kernel
theorem dX0_setCorner_66 : decode cX0_setCorner 66 = .ok (.iload_n 3, 1) := by decide +kernel
theorem dX0_setCorner_67 : decode cX0_setCorner 67 = .ok (.iload 4, 2) := by decide +kernel
theorem dX0_setCorner_69 : decode cX0_setCorner 69 = .ok (.iload 5, 2) := by decide +kernel
theorem dX0_setCorner_71 : decode cX0_setCorner 71 = .ok (.iload 8, 2) := by decide +kernel
theorem dX0_setCorner_73 : decode cX0_setCorner 73 = .ok (.invokevirtual 80, 3) := by decide +kernel
theorem dX0_setCorner_76 : decode cX0_setCorner 76 = .ok (.iload 6, 2) := by decide +kernel
theorem dX0_setCorner_78 : decode cX0_setCorner 78 = .ok (.aload_n 0, 1) := by decide +kernel
theorem dX0_setCorner_79 : decode cX0_setCorner 79 = .ok (.getfield 9, 3) := by decide +kernel
theorem dX0_setCorner_82 : decode cX0_setCorner 82 = .ok (.iload_n 2, 1) := by decide +kernel
theorem dX0_setCorner_83 : decode cX0_setCorner 83 = .ok (.iaload, 1) := by decide +kernel
theorem dX0_setCorner_84 : decode cX0_setCorner 84 = .ok (.iload 8, 2) := by decide +kernel
theorem dX0_setCorner_86 : decode cX0_setCorner 86 = .ok (.invokestatic 84, 3) := by decide +kernel
theorem dX0_setCorner_89 : decode cX0_setCorner 89 = .ok (.imul, 1) := by decide +kernel
theorem dX0_setCorner_90 : decode cX0_setCorner 90 = .ok (.isub, 1) := by decide +kernel
theorem dX0_setCorner_91 : decode cX0_setCorner 91 = .ok (.iload 7, 2) := by decide +kernel
theorem dX0_setCorner_93 : decode cX0_setCorner 93 = .ok (.aload_n 0, 1) := by decide +kernel
theorem dX0_setCorner_94 : decode cX0_setCorner 94 = .ok (.getfield 15, 3) := by decide +kernel
theorem dX0_setCorner_97 : decode cX0_setCorner 97 = .ok (.iload_n 2, 1) := by decide +kernel
theorem dX0_setCorner_98 : decode cX0_setCorner 98 = .ok (.iaload, 1) := by decide +kernel
theorem dX0_setCorner_99 : decode cX0_setCorner 99 = .ok (.iload 8, 2) := by decide +kernel
theorem dX0_setCorner_101 : decode cX0_setCorner 101 = .ok (.invokestatic 84, 3) := by decide +kernel
theorem dX0_setCorner_104 : decode cX0_setCorner 104 = .ok (.imul, 1) := by decide +kernel
theorem dX0_setCorner_105 : decode cX0_setCorner 105 = .ok (.isub, 1) := by decide +kernel
theorem dX0_setCorner_106 : decode cX0_setCorner 106 = .ok (.iastore, 1) := by decide +kernel
theorem dX0_setCorner_107 : decode cX0_setCorner 107 = .ok (.iinc 8 1, 3) := by decide +kernel
theorem dX0_setCorner_110 : decode cX0_setCorner 110 = .ok (.goto (-60), 3) := by decide +kernel
theorem dX0_setCorner_113 : decode cX0_setCorner 113 = .ok (.return_, 1) := by decide +kernel
theorem dX0_setBox_0 : decode cX0_setBox 0 = .ok (.iconst 0, 1) := by decide +kernel
theorem dX0_setBox_1 : decode cX0_setBox 1 = .ok (.istore_n 3, 1) := by decide +kernel
theorem dX0_setBox_2 : decode cX0_setBox 2 = .ok (.iload_n 3, 1) := by decide +kernel
theorem dX0_setBox_3 : decode cX0_setBox 3 = .ok (.iconst 3, 1) := by decide +kernel
theorem dX0_setBox_4 : decode cX0_setBox 4 = .ok (.if_icmp .ge 95, 3) := by decide +kernel
theorem dX0_setBox_7 : decode cX0_setBox 7 = .ok (.aload_n 0, 1) := by decide +kernel
theorem dX0_setBox_8 : decode cX0_setBox 8 = .ok (.getfield 23, 3) := by decide +kernel
theorem dX0_setBox_11 : decode cX0_setBox 11 = .ok (.iload_n 3, 1) := by decide +kernel
theorem dX0_setBox_12 : decode cX0_setBox 12 = .ok (.aaload, 1) := by decide +kernel
theorem dX0_setBox_13 : decode cX0_setBox 13 = .ok (.iload_n 2, 1) := by decide +kernel
theorem dX0_setBox_14 : decode cX0_setBox 14 = .ok (.iaload, 1) := by decide +kernel
theorem dX0_setBox_15 : decode cX0_setBox 15 = .ok (.aload_n 1, 1) := by decide +kernel
theorem dX0_setBox_16 : decode cX0_setBox 16 = .ok (.iload_n 2, 1) := by decide +kernel
theorem dX0_setBox_17 : decode cX0_setBox 17 = .ok (.invokevirtual 87, 3) := by decide +kernel
theorem dX0_setBox_20 : decode cX0_setBox 20 = .ok (.aload_n 0, 1) := by decide +kernel
theorem dX0_setBox_21 : decode cX0_setBox 21 = .ok (.getfield 9, 3) := by decide +kernel
theorem dX0_setBox_24 : decode cX0_setBox 24 = .ok (.iload_n 2, 1) := by decide +kernel
theorem dX0_setBox_25 : decode cX0_setBox 25 = .ok (.iaload, 1) := by decide +kernel
theorem dX0_setBox_26 : decode cX0_setBox 26 = .ok (.iload_n 3, 1) := by decide +kernel
theorem dX0_setBox_27 : decode cX0_setBox 27 = .ok (.invokestatic 84, 3) := by decide +kernel
theorem dX0_setBox_30 : decode cX0_setBox 30 = .ok (.imul, 1) := by decide +kernel
theorem dX0_setBox_31 : decode cX0_setBox 31 = .ok (.iadd, 1) := by decide +kernel
theorem dX0_setBox_32 : decode cX0_setBox 32 = .ok (.aload_n 1, 1) := by decide +kernel
theorem dX0_setBox_33 : decode cX0_setBox 33 = .ok (.iload_n 2, 1) := by decide +kernel
theorem dX0_setBox_34 : decode cX0_setBox 34 = .ok (.invokevirtual 90, 3) := by decide +kernel
theorem dX0_setBox_37 : decode cX0_setBox 37 = .ok (.aload_n 0, 1) := by decide +kernel
theorem dX0_setBox_38 : decode cX0_setBox 38 = .ok (.getfield 15, 3) := by decide +kernel
theorem dX0_setBox_41 : decode cX0_setBox 41 = .ok (.iload_n 2, 1) := by decide +kernel
theorem dX0_setBox_42 : decode cX0_setBox 42 = .ok (.iaload, 1) := by decide +kernel
theorem dX0_setBox_43 : decode cX0_setBox 43 = .ok (.iload_n 3, 1) := by decide +kernel
theorem dX0_setBox_44 : decode cX0_setBox 44 = .ok (.invokestatic 84, 3) := by decide +kernel
theorem dX0_setBox_47 : decode cX0_setBox 47 = .ok (.imul, 1) := by decide +kernel
theorem dX0_setBox_48 : decode cX0_setBox 48 = .ok (.iadd, 1) := by decide +kernel
theorem dX0_setBox_49 : decode cX0_setBox 49 = .ok (.istore 4, 2) := by decide +kernel
theorem dX0_setBox_51 : decode cX0_setBox 51 = .ok (.aload_n 0, 1) := by decide +kernel
theorem dX0_setBox_52 : decode cX0_setBox 52 = .ok (.getfield 26, 3) := by decide +kernel
theorem dX0_setBox_55 : decode cX0_setBox 55 = .ok (.iload_n 3, 1) := by decide +kernel
theorem dX0_setBox_56 : decode cX0_setBox 56 = .ok (.aaload, 1) := by decide +kernel
theorem dX0_setBox_57 : decode cX0_setBox 57 = .ok (.iload_n 2, 1) := by decide +kernel
theorem dX0_setBox_58 : decode cX0_setBox 58 = .ok (.aload_n 0, 1) := by decide +kernel
theorem dX0_setBox_59 : decode cX0_setBox 59 = .ok (.getfield 23, 3) := by decide +kernel
theorem dX0_setBox_62 : decode cX0_setBox 62 = .ok (.iload_n 3, 1) := by decide +kernel
theorem dX0_setBox_63 : decode cX0_setBox 63 = .ok (.aaload, 1) := by decide +kernel
theorem dX0_setBox_64 : decode cX0_setBox 64 = .ok (.iload_n 2, 1) := by decide +kernel
theorem dX0_setBox_65 : decode cX0_setBox 65 = .ok (.iaload, 1) := by decide +kernel
theorem dX0_setBox_66 : decode cX0_setBox 66 = .ok (.iload 4, 2) := by decide +kernel
theorem dX0_setBox_68 : decode cX0_setBox 68 = .ok (.invokestatic 93, 3) := by decide +kernel
theorem dX0_setBox_71 : decode cX0_setBox 71 = .ok (.iastore, 1) := by decide +kernel
theorem dX0_setBox_72 : decode cX0_setBox 72 = .ok (.aload_n 0, 1) := by decide +kernel
theorem dX0_setBox_73 : decode cX0_setBox 73 = .ok (.getfield 29, 3) := by decide +kernel
theorem dX0_setBox_76 : decode cX0_setBox 76 = .ok (.iload_n 3, 1) := by decide +kernel
theorem dX0_setBox_77 : decode cX0_setBox 77 = .ok (.aaload, 1) := by decide +kernel
theorem dX0_setBox_78 : decode cX0_setBox 78 = .ok (.iload_n 2, 1) := by decide +kernel
theorem dX0_setBox_79 : decode cX0_setBox 79 = .ok (.aload_n 0, 1) := by decide +kernel
theorem dX0_setBox_80 : decode cX0_setBox 80 = .ok (.getfield 23, 3) := by decide +kernel
theorem dX0_setBox_83 : decode cX0_setBox 83 = .ok (.iload_n 3, 1) := by decide +kernel
theorem dX0_setBox_84 : decode cX0_setBox 84 = .ok (.aaload, 1) := by decide +kernel
theorem dX0_setBox_85 : decode cX0_setBox 85 = .ok (.iload_n 2, 1) := by decide +kernel
theorem dX0_setBox_86 : decode cX0_setBox 86 = .ok (.iaload, 1) := by decide +kernel
theorem dX0_setBox_87 : decode cX0_setBox 87 = .ok (.iload 4, 2) := by decide +kernel
theorem dX0_setBox_89 : decode cX0_setBox 89 = .ok (.invokestatic 98, 3) := by decide +kernel
theorem dX0_setBox_92 : decode cX0_setBox 92 = .ok (.iastore, 1) := by decide +kernel
theorem dX0_setBox_93 : decode cX0_setBox 93 = .ok (.iinc 3 1, 3) := by decide +kernel
theorem dX0_setBox_96 : decode cX0_setBox 96 = .ok (.goto (-94), 3) := by decide +kernel
theorem dX0_setBox_99 : decode cX0_setBox 99 = .ok (.return_, 1) := by decide +kernel
theorem dX0_inSpace_0 : decode cX0_inSpace 0 = .ok (.aload_n 0, 1) := by decide +kernel
theorem dX0_inSpace_1 : decode cX0_inSpace 1 = .ok (.getfield 23, 3) := by decide +kernel
theorem dX0_inSpace_4 : decode cX0_inSpace 4 = .ok (.iload 5, 2) := by decide +kernel
theorem dX0_inSpace_6 : decode cX0_inSpace 6 = .ok (.aaload, 1) := by decide +kernel
theorem dX0_inSpace_7 : decode cX0_inSpace 7 = .ok (.iload_n 2, 1) := by decide +kernel
theorem dX0_inSpace_8 : decode cX0_inSpace 8 = .ok (.iaload, 1) := by decide +kernel
theorem dX0_inSpace_9 : decode cX0_inSpace 9 = .ok (.iload_n 3, 1) := by decide +kernel
theorem dX0_inSpace_10 : decode cX0_inSpace 10 = .ok (.aload_n 1, 1) := by decide +kernel
theorem dX0_inSpace_11 : decode cX0_inSpace 11 = .ok (.getfield 77, 3) := by decide +kernel
theorem dX0_inSpace_14 : decode cX0_inSpace 14 = .ok (.iconst 2, 1) := by decide +kernel
theorem dX0_inSpace_15 : decode cX0_inSpace 15 = .ok (.aaload, 1) := by decide +kernel
theorem dX0_inSpace_16 : decode cX0_inSpace 16 = .ok (.iload_n 2, 1) := by decide +kernel
theorem dX0_inSpace_17 : decode cX0_inSpace 17 = .ok (.iaload, 1) := by decide +kernel
theorem dX0_inSpace_18 : decode cX0_inSpace 18 = .ok (.isub, 1) := by decide +kernel
theorem dX0_inSpace_19 : decode cX0_inSpace 19 = .ok (.aload_n 0, 1) := by decide +kernel
theorem dX0_inSpace_20 : decode cX0_inSpace 20 = .ok (.getfield 9, 3) := by decide +kernel
theorem dX0_inSpace_23 : decode cX0_inSpace 23 = .ok (.iload_n 2, 1) := by decide +kernel
theorem dX0_inSpace_24 : decode cX0_inSpace 24 = .ok (.iaload, 1) := by decide +kernel
theorem dX0_inSpace_25 : decode cX0_inSpace 25 = .ok (.iload 5, 2) := by decide +kernel
theorem dX0_inSpace_27 : decode cX0_inSpace 27 = .ok (.invokestatic 84, 3) := by decide +kernel
theorem dX0_inSpace_30 : decode cX0_inSpace 30 = .ok (.imul, 1) := by decide +kernel
theorem dX0_inSpace_31 : decode cX0_inSpace 31 = .ok (.iadd, 1) := by decide +kernel
theorem dX0_inSpace_32 : decode cX0_inSpace 32 = .ok (.iload 4, 2) := by decide +kernel
theorem dX0_inSpace_34 : decode cX0_inSpace 34 = .ok (.aload_n 1, 1) := by decide +kernel
theorem dX0_inSpace_35 : decode cX0_inSpace 35 = .ok (.getfield 77, 3) := by decide +kernel
theorem dX0_inSpace_38 : decode cX0_inSpace 38 = .ok (.iconst 3, 1) := by decide +kernel
theorem dX0_inSpace_39 : decode cX0_inSpace 39 = .ok (.aaload, 1) := by decide +kernel
theorem dX0_inSpace_40 : decode cX0_inSpace 40 = .ok (.iload_n 2, 1) := by decide +kernel
theorem dX0_inSpace_41 : decode cX0_inSpace 41 = .ok (.iaload, 1) := by decide +kernel
theorem dX0_inSpace_42 : decode cX0_inSpace 42 = .ok (.isub, 1) := by decide +kernel
theorem dX0_inSpace_43 : decode cX0_inSpace 43 = .ok (.aload_n 0, 1) := by decide +kernel
theorem dX0_inSpace_44 : decode cX0_inSpace 44 = .ok (.getfield 15, 3) := by decide +kernel
theorem dX0_inSpace_47 : decode cX0_inSpace 47 = .ok (.iload_n 2, 1) := by decide +kernel
theorem dX0_inSpace_48 : decode cX0_inSpace 48 = .ok (.iaload, 1) := by decide +kernel
theorem dX0_inSpace_49 : decode cX0_inSpace 49 = .ok (.iload 5, 2) := by decide +kernel
theorem dX0_inSpace_51 : decode cX0_inSpace 51 = .ok (.invokestatic 84, 3) := by decide +kernel
theorem dX0_inSpace_54 : decode cX0_inSpace 54 = .ok (.imul, 1) := by decide +kernel
theorem dX0_inSpace_55 : decode cX0_inSpace 55 = .ok (.iadd, 1) := by decide +kernel
theorem dX0_inSpace_56 : decode cX0_inSpace 56 = .ok (.ireturn, 1) := by decide +kernel
theorem dX0_share_0 : decode cX0_share 0 = .ok (.iload_n 0, 1) := by decide +kernel
theorem dX0_share_1 : decode cX0_share 1 = .ok (.iload_n 1, 1) := by decide +kernel
theorem dX0_share_2 : decode cX0_share 2 = .ok (.iconst 1, 1) := by decide +kernel
theorem dX0_share_3 : decode cX0_share 3 = .ok (.iadd, 1) := by decide +kernel
theorem dX0_share_4 : decode cX0_share 4 = .ok (.if_icmp .ne 5, 3) := by decide +kernel
theorem dX0_share_7 : decode cX0_share 7 = .ok (.iconst 1, 1) := by decide +kernel
theorem dX0_share_8 : decode cX0_share 8 = .ok (.ireturn, 1) := by decide +kernel
theorem dX0_share_9 : decode cX0_share 9 = .ok (.iload_n 0, 1) := by decide +kernel
theorem dX0_share_10 : decode cX0_share 10 = .ok (.iload_n 1, 1) := by decide +kernel
theorem dX0_share_11 : decode cX0_share 11 = .ok (.ineg, 1) := by decide +kernel
theorem dX0_share_12 : decode cX0_share 12 = .ok (.iconst 1, 1) := by decide +kernel
theorem dX0_share_13 : decode cX0_share 13 = .ok (.isub, 1) := by decide +kernel
theorem dX0_share_14 : decode cX0_share 14 = .ok (.if_icmp .ne 7, 3) := by decide +kernel
theorem dX0_share_17 : decode cX0_share 17 = .ok (.iconst (-1), 1) := by decide +kernel
theorem dX0_share_18 : decode cX0_share 18 = .ok (.goto 4, 3) := by decide +kernel
theorem dX0_share_21 : decode cX0_share 21 = .ok (.iconst 0, 1) := by decide +kernel
theorem dX0_share_22 : decode cX0_share 22 = .ok (.ireturn, 1) := by decide +kernel
theorem dX0_axisOf_0 : decode cX0_axisOf 0 = .ok (.iload_n 0, 1) := by decide +kernel
theorem dX0_axisOf_1 : decode cX0_axisOf 1 = .ok (.ifCond .ge 8, 3) := by decide +kernel
theorem dX0_axisOf_4 : decode cX0_axisOf 4 = .ok (.iload_n 0, 1) := by decide +kernel
theorem dX0_axisOf_5 : decode cX0_axisOf 5 = .ok (.ineg, 1) := by decide +kernel
theorem dX0_axisOf_6 : decode cX0_axisOf 6 = .ok (.goto 4, 3) := by decide +kernel
theorem dX0_axisOf_9 : decode cX0_axisOf 9 = .ok (.iload_n 0, 1) := by decide +kernel
theorem dX0_axisOf_10 : decode cX0_axisOf 10 = .ok (.iconst 1, 1) := by decide +kernel
theorem dX0_axisOf_11 : decode cX0_axisOf 11 = .ok (.isub, 1) := by decide +kernel
theorem dX0_axisOf_12 : decode cX0_axisOf 12 = .ok (.ireturn, 1) := by decide +kernel
theorem dX0_awayFrom_0 : decode cX0_awayFrom 0 = .ok (.iload_n 2, 1) := by decide +kernel
theorem dX0_awayFrom_1 : decode cX0_awayFrom 1 = .ok (.invokestatic 67, 3) := by decide +kernel
theorem dX0_awayFrom_4 : decode cX0_awayFrom 4 = .ok (.ifCond .eq 12, 3) := by decide +kernel
theorem dX0_awayFrom_7 : decode cX0_awayFrom 7 = .ok (.aload_n 0, 1) := by decide +kernel
theorem dX0_awayFrom_8 : decode cX0_awayFrom 8 = .ok (.getfield 9, 3) := by decide +kernel
theorem dX0_awayFrom_11 : decode cX0_awayFrom 11 = .ok (.iload_n 1, 1) := by decide +kernel
theorem dX0_awayFrom_12 : decode cX0_awayFrom 12 = .ok (.iaload, 1) := by decide +kernel
theorem dX0_awayFrom_13 : decode cX0_awayFrom 13 = .ok (.goto 9, 3) := by decide +kernel
theorem dX0_awayFrom_16 : decode cX0_awayFrom 16 = .ok (.aload_n 0, 1) := by decide +kernel
theorem dX0_awayFrom_17 : decode cX0_awayFrom 17 = .ok (.getfield 15, 3) := by decide +kernel
theorem dX0_awayFrom_20 : decode cX0_awayFrom 20 = .ok (.iload_n 1, 1) := by decide +kernel
theorem dX0_awayFrom_21 : decode cX0_awayFrom 21 = .ok (.iaload, 1) := by decide +kernel
theorem dX0_awayFrom_22 : decode cX0_awayFrom 22 = .ok (.istore_n 3, 1) := by decide +kernel
theorem dX0_awayFrom_23 : decode cX0_awayFrom 23 = .ok (.iload_n 2, 1) := by decide +kernel
theorem dX0_awayFrom_24 : decode cX0_awayFrom 24 = .ok (.invokestatic 63, 3) := by decide +kernel
theorem dX0_awayFrom_27 : decode cX0_awayFrom 27 = .ok (.ifCond .eq 7, 3) := by decide +kernel
theorem dX0_awayFrom_30 : decode cX0_awayFrom 30 = .ok (.iload_n 3, 1) := by decide +kernel
theorem dX0_awayFrom_31 : decode cX0_awayFrom 31 = .ok (.goto 5, 3) := by decide +kernel
theorem dX0_awayFrom_34 : decode cX0_awayFrom 34 = .ok (.iload_n 3, 1) := by decide +kernel
theorem dX0_awayFrom_35 : decode cX0_awayFrom 35 = .ok (.ineg, 1) := by decide +kernel
theorem dX0_awayFrom_36 : decode cX0_awayFrom 36 = .ok (.ireturn, 1) := by decide +kernel
theorem dX0_axisAlong_0 : decode cX0_axisAlong 0 = .ok (.iload_n 2, 1) := by decide +kernel
theorem dX0_axisAlong_1 : decode cX0_axisAlong 1 = .ok (.invokestatic 67, 3) := by decide +kernel
theorem dX0_axisAlong_4 : decode cX0_axisAlong 4 = .ok (.ifCond .eq 12, 3) := by decide +kernel
theorem dX0_axisAlong_7 : decode cX0_axisAlong 7 = .ok (.aload_n 0, 1) := by decide +kernel
theorem dX0_axisAlong_8 : decode cX0_axisAlong 8 = .ok (.getfield 15, 3) := by decide +kernel
theorem dX0_axisAlong_11 : decode cX0_axisAlong 11 = .ok (.iload_n 1, 1) := by decide +kernel
theorem dX0_axisAlong_12 : decode cX0_axisAlong 12 = .ok (.iaload, 1) := by decide +kernel
theorem dX0_axisAlong_13 : decode cX0_axisAlong 13 = .ok (.goto 9, 3) := by decide +kernel
theorem dX0_axisAlong_16 : decode cX0_axisAlong 16 = .ok (.aload_n 0, 1) := by decide +kernel
theorem dX0_axisAlong_17 : decode cX0_axisAlong 17 = .ok (.getfield 9, 3) := by decide +kernel
theorem dX0_axisAlong_20 : decode cX0_axisAlong 20 = .ok (.iload_n 1, 1) := by decide +kernel
theorem dX0_axisAlong_21 : decode cX0_axisAlong 21 = .ok (.iaload, 1) := by decide +kernel
theorem dX0_axisAlong_22 : decode cX0_axisAlong 22 = .ok (.invokestatic 101, 3) := by decide +kernel
theorem dX0_axisAlong_25 : decode cX0_axisAlong 25 = .ok (.ireturn, 1) := by decide +kernel
theorem dX0_greatestAlong_0 : decode cX0_greatestAlong 0 = .ok (.iload_n 2, 1) := by decide +kernel
theorem dX0_greatestAlong_1 : decode cX0_greatestAlong 1 = .ok (.invokestatic 101, 3) := by decide +kernel
theorem dX0_greatestAlong_4 : decode cX0_greatestAlong 4 = .ok (.istore_n 3, 1) := by decide +kernel
theorem dX0_greatestAlong_5 : decode cX0_greatestAlong 5 = .ok (.iload_n 2, 1) := by decide +kernel
theorem dX0_greatestAlong_6 : decode cX0_greatestAlong 6 = .ok (.ifCond .le 14, 3) := by decide +kernel
theorem dX0_greatestAlong_9 : decode cX0_greatestAlong 9 = .ok (.aload_n 0, 1) := by decide +kernel
theorem dX0_greatestAlong_10 : decode cX0_greatestAlong 10 = .ok (.getfield 29, 3) := by decide +kernel
theorem dX0_greatestAlong_13 : decode cX0_greatestAlong 13 = .ok (.iload_n 3, 1) := by decide +kernel
theorem dX0_greatestAlong_14 : decode cX0_greatestAlong 14 = .ok (.aaload, 1) := by decide +kernel
theorem dX0_greatestAlong_15 : decode cX0_greatestAlong 15 = .ok (.iload_n 1, 1) := by decide +kernel
theorem dX0_greatestAlong_16 : decode cX0_greatestAlong 16 = .ok (.iaload, 1) := by decide +kernel
theorem dX0_greatestAlong_17 : decode cX0_greatestAlong 17 = .ok (.goto 12, 3) := by decide +kernel
theorem dX0_greatestAlong_20 : decode cX0_greatestAlong 20 = .ok (.aload_n 0, 1) := by decide +kernel
theorem dX0_greatestAlong_21 : decode cX0_greatestAlong 21 = .ok (.getfield 26, 3) := by decide +kernel
theorem dX0_greatestAlong_24 : decode cX0_greatestAlong 24 = .ok (.iload_n 3, 1) := by decide +kernel
theorem dX0_greatestAlong_25 : decode cX0_greatestAlong 25 = .ok (.aaload, 1) := by decide +kernel
theorem dX0_greatestAlong_26 : decode cX0_greatestAlong 26 = .ok (.iload_n 1, 1) := by decide +kernel
theorem dX0_greatestAlong_27 : decode cX0_greatestAlong 27 = .ok (.iaload, 1) := by decide +kernel
theorem dX0_greatestAlong_28 : decode cX0_greatestAlong 28 = .ok (.ineg, 1) := by decide +kernel
theorem dX0_greatestAlong_29 : decode cX0_greatestAlong 29 = .ok (.ireturn, 1) := by decide +kernel
theorem dX0_spanAlong_0 : decode cX0_spanAlong 0 = .ok (.iload_n 2, 1) := by decide +kernel
theorem dX0_spanAlong_1 : decode cX0_spanAlong 1 = .ok (.invokestatic 101, 3) := by decide +kernel
theorem dX0_spanAlong_4 : decode cX0_spanAlong 4 = .ok (.istore_n 3, 1) := by decide +kernel
theorem dX0_spanAlong_5 : decode cX0_spanAlong 5 = .ok (.aload_n 0, 1) := by decide +kernel
theorem dX0_spanAlong_6 : decode cX0_spanAlong 6 = .ok (.getfield 29, 3) := by decide +kernel
theorem dX0_spanAlong_9 : decode cX0_spanAlong 9 = .ok (.iload_n 3, 1) := by decide +kernel
theorem dX0_spanAlong_10 : decode cX0_spanAlong 10 = .ok (.aaload, 1) := by decide +kernel
theorem dX0_spanAlong_11 : decode cX0_spanAlong 11 = .ok (.iload_n 1, 1) := by decide +kernel
theorem dX0_spanAlong_12 : decode cX0_spanAlong 12 = .ok (.iaload, 1) := by decide +kernel
theorem dX0_spanAlong_13 : decode cX0_spanAlong 13 = .ok (.aload_n 0, 1) := by decide +kernel
theorem dX0_spanAlong_14 : decode cX0_spanAlong 14 = .ok (.getfield 26, 3) := by decide +kernel
theorem dX0_spanAlong_17 : decode cX0_spanAlong 17 = .ok (.iload_n 3, 1) := by decide +kernel
theorem dX0_spanAlong_18 : decode cX0_spanAlong 18 = .ok (.aaload, 1) := by decide +kernel
theorem dX0_spanAlong_19 : decode cX0_spanAlong 19 = .ok (.iload_n 1, 1) := by decide +kernel
theorem dX0_spanAlong_20 : decode cX0_spanAlong 20 = .ok (.iaload, 1) := by decide +kernel
theorem dX0_spanAlong_21 : decode cX0_spanAlong 21 = .ok (.isub, 1) := by decide +kernel
theorem dX0_spanAlong_22 : decode cX0_spanAlong 22 = .ok (.ireturn, 1) := by decide +kernel
theorem dX0_isEntered_0 : decode cX0_isEntered 0 = .ok (.iconst 0, 1) := by decide +kernel
theorem dX0_isEntered_1 : decode cX0_isEntered 1 = .ok (.istore_n 3, 1) := by decide +kernel
theorem dX0_isEntered_2 : decode cX0_isEntered 2 = .ok (.iload_n 3, 1) := by decide +kernel
theorem dX0_isEntered_3 : decode cX0_isEntered 3 = .ok (.iconst 3, 1) := by decide +kernel
theorem dX0_isEntered_4 : decode cX0_isEntered 4 = .ok (.if_icmp .ge 110, 3) := by decide +kernel
theorem dX0_isEntered_7 : decode cX0_isEntered 7 = .ok (.aload_n 0, 1) := by decide +kernel
theorem dX0_isEntered_8 : decode cX0_isEntered 8 = .ok (.getfield 26, 3) := by decide +kernel
theorem dX0_isEntered_11 : decode cX0_isEntered 11 = .ok (.iload_n 3, 1) := by decide +kernel
theorem dX0_isEntered_12 : decode cX0_isEntered 12 = .ok (.aaload, 1) := by decide +kernel
theorem dX0_isEntered_13 : decode cX0_isEntered 13 = .ok (.iload_n 1, 1) := by decide +kernel
theorem dX0_isEntered_14 : decode cX0_isEntered 14 = .ok (.iaload, 1) := by decide +kernel
theorem dX0_isEntered_15 : decode cX0_isEntered 15 = .ok (.istore 4, 2) := by decide +kernel
theorem dX0_isEntered_17 : decode cX0_isEntered 17 = .ok (.aload_n 0, 1) := by decide +kernel
theorem dX0_isEntered_18 : decode cX0_isEntered 18 = .ok (.getfield 29, 3) := by decide +kernel
theorem dX0_isEntered_21 : decode cX0_isEntered 21 = .ok (.iload_n 3, 1) := by decide +kernel
theorem dX0_isEntered_22 : decode cX0_isEntered 22 = .ok (.aaload, 1) := by decide +kernel
theorem dX0_isEntered_23 : decode cX0_isEntered 23 = .ok (.iload_n 1, 1) := by decide +kernel
theorem dX0_isEntered_24 : decode cX0_isEntered 24 = .ok (.iaload, 1) := by decide +kernel
theorem dX0_isEntered_25 : decode cX0_isEntered 25 = .ok (.istore 5, 2) := by decide +kernel
theorem dX0_isEntered_27 : decode cX0_isEntered 27 = .ok (.iload 4, 2) := by decide +kernel
theorem dX0_isEntered_29 : decode cX0_isEntered 29 = .ok (.iload 5, 2) := by decide +kernel
theorem dX0_isEntered_31 : decode cX0_isEntered 31 = .ok (.if_icmp .ne 37, 3) := by decide +kernel
theorem dX0_isEntered_34 : decode cX0_isEntered 34 = .ok (.aload_n 0, 1) := by decide +kernel
theorem dX0_isEntered_35 : decode cX0_isEntered 35 = .ok (.getfield 26, 3) := by decide +kernel
theorem dX0_isEntered_38 : decode cX0_isEntered 38 = .ok (.iload_n 3, 1) := by decide +kernel
theorem dX0_isEntered_39 : decode cX0_isEntered 39 = .ok (.aaload, 1) := by decide +kernel
theorem dX0_isEntered_40 : decode cX0_isEntered 40 = .ok (.iload_n 2, 1) := by decide +kernel
theorem dX0_isEntered_41 : decode cX0_isEntered 41 = .ok (.iaload, 1) := by decide +kernel
theorem dX0_isEntered_42 : decode cX0_isEntered 42 = .ok (.iload 4, 2) := by decide +kernel
theorem dX0_isEntered_44 : decode cX0_isEntered 44 = .ok (.if_icmp .gt 20, 3) := by decide +kernel
theorem dX0_isEntered_47 : decode cX0_isEntered 47 = .ok (.iload 4, 2) := by decide +kernel
theorem dX0_isEntered_49 : decode cX0_isEntered 49 = .ok (.aload_n 0, 1) := by decide +kernel
theorem dX0_isEntered_50 : decode cX0_isEntered 50 = .ok (.getfield 29, 3) := by decide +kernel
theorem dX0_isEntered_53 : decode cX0_isEntered 53 = .ok (.iload_n 3, 1) := by decide +kernel
theorem dX0_isEntered_54 : decode cX0_isEntered 54 = .ok (.aaload, 1) := by decide +kernel
theorem dX0_isEntered_55 : decode cX0_isEntered 55 = .ok (.iload_n 2, 1) := by decide +kernel
theorem dX0_isEntered_56 : decode cX0_isEntered 56 = .ok (.iaload, 1) := by decide +kernel
theorem dX0_isEntered_57 : decode cX0_isEntered 57 = .ok (.if_icmp .gt 7, 3) := by decide +kernel
theorem dX0_isEntered_60 : decode cX0_isEntered 60 = .ok (.iconst 1, 1) := by decide +kernel
theorem dX0_isEntered_61 : decode cX0_isEntered 61 = .ok (.goto 38, 3) := by decide +kernel
theorem dX0_isEntered_64 : decode cX0_isEntered 64 = .ok (.iconst 0, 1) := by decide +kernel
theorem dX0_isEntered_65 : decode cX0_isEntered 65 = .ok (.goto 34, 3) := by decide +kernel
theorem dX0_isEntered_68 : decode cX0_isEntered 68 = .ok (.aload_n 0, 1) := by decide +kernel
theorem dX0_isEntered_69 : decode cX0_isEntered 69 = .ok (.getfield 26, 3) := by decide +kernel
theorem dX0_isEntered_72 : decode cX0_isEntered 72 = .ok (.iload_n 3, 1) := by decide +kernel
theorem dX0_isEntered_73 : decode cX0_isEntered 73 = .ok (.aaload, 1) := by decide +kernel
theorem dX0_isEntered_74 : decode cX0_isEntered 74 = .ok (.iload_n 2, 1) := by decide +kernel
theorem dX0_isEntered_75 : decode cX0_isEntered 75 = .ok (.iaload, 1) := by decide +kernel
theorem dX0_isEntered_76 : decode cX0_isEntered 76 = .ok (.iload 5, 2) := by decide +kernel
theorem dX0_isEntered_78 : decode cX0_isEntered 78 = .ok (.if_icmp .ge 20, 3) := by decide +kernel
theorem dX0_isEntered_81 : decode cX0_isEntered 81 = .ok (.iload 4, 2) := by decide +kernel
theorem dX0_isEntered_83 : decode cX0_isEntered 83 = .ok (.aload_n 0, 1) := by decide +kernel
theorem dX0_isEntered_84 : decode cX0_isEntered 84 = .ok (.getfield 29, 3) := by decide +kernel
theorem dX0_isEntered_87 : decode cX0_isEntered 87 = .ok (.iload_n 3, 1) := by decide +kernel
theorem dX0_isEntered_88 : decode cX0_isEntered 88 = .ok (.aaload, 1) := by decide +kernel
theorem dX0_isEntered_89 : decode cX0_isEntered 89 = .ok (.iload_n 2, 1) := by decide +kernel
theorem dX0_isEntered_90 : decode cX0_isEntered 90 = .ok (.iaload, 1) := by decide +kernel
theorem dX0_isEntered_91 : decode cX0_isEntered 91 = .ok (.if_icmp .ge 7, 3) := by decide +kernel
theorem dX0_isEntered_94 : decode cX0_isEntered 94 = .ok (.iconst 1, 1) := by decide +kernel
theorem dX0_isEntered_95 : decode cX0_isEntered 95 = .ok (.goto 4, 3) := by decide +kernel
theorem dX0_isEntered_98 : decode cX0_isEntered 98 = .ok (.iconst 0, 1) := by decide +kernel
theorem dX0_isEntered_99 : decode cX0_isEntered 99 = .ok (.istore 6, 2) := by decide +kernel
theorem dX0_isEntered_101 : decode cX0_isEntered 101 = .ok (.iload 6, 2) := by decide +kernel
theorem dX0_isEntered_103 : decode cX0_isEntered 103 = .ok (.ifCond .ne 5, 3) := by decide +kernel
theorem dX0_isEntered_106 : decode cX0_isEntered 106 = .ok (.iconst 0, 1) := by decide +kernel
theorem dX0_isEntered_107 : decode cX0_isEntered 107 = .ok (.ireturn, 1) := by decide +kernel
theorem dX0_isEntered_108 : decode cX0_isEntered 108 = .ok (.iinc 3 1, 3) := by decide +kernel
theorem dX0_isEntered_111 : decode cX0_isEntered 111 = .ok (.goto (-109), 3) := by decide +kernel
theorem dX0_isEntered_114 : decode cX0_isEntered 114 = .ok (.iconst 1, 1) := by decide +kernel
theorem dX0_isEntered_115 : decode cX0_isEntered 115 = .ok (.ireturn, 1) := by decide +kernel
theorem dX0_gaugeEdge_0 : decode cX0_gaugeEdge 0 = .ok (.aload_n 0, 1) := by decide +kernel
theorem dX0_gaugeEdge_1 : decode cX0_gaugeEdge 1 = .ok (.aload_n 1, 1) := by decide +kernel
theorem dX0_gaugeEdge_2 : decode cX0_gaugeEdge 2 = .ok (.getfield 49, 3) := by decide +kernel
theorem dX0_gaugeEdge_5 : decode cX0_gaugeEdge 5 = .ok (.iload_n 2, 1) := by decide +kernel
theorem dX0_gaugeEdge_6 : decode cX0_gaugeEdge 6 = .ok (.iaload, 1) := by decide +kernel
theorem dX0_gaugeEdge_7 : decode cX0_gaugeEdge 7 = .ok (.aload_n 1, 1) := by decide +kernel
theorem dX0_gaugeEdge_8 : decode cX0_gaugeEdge 8 = .ok (.getfield 52, 3) := by decide +kernel
theorem dX0_gaugeEdge_11 : decode cX0_gaugeEdge 11 = .ok (.iload_n 2, 1) := by decide +kernel
theorem dX0_gaugeEdge_12 : decode cX0_gaugeEdge 12 = .ok (.iaload, 1) := by decide +kernel
theorem dX0_gaugeEdge_13 : decode cX0_gaugeEdge 13 = .ok (.invokevirtual 104, 3) := by decide +kernel
theorem dX0_gaugeEdge_16 : decode cX0_gaugeEdge 16 = .ok (.istore 4, 2) := by decide +kernel
theorem dX0_gaugeEdge_18 : decode cX0_gaugeEdge 18 = .ok (.iconst 0, 1) := by decide +kernel
theorem dX0_gaugeEdge_19 : decode cX0_gaugeEdge 19 = .ok (.istore 5, 2) := by decide +kernel
theorem dX0_gaugeEdge_21 : decode cX0_gaugeEdge 21 = .ok (.iload 5, 2) := by decide +kernel
theorem dX0_gaugeEdge_23 : decode cX0_gaugeEdge 23 = .ok (.aload_n 1, 1) := by decide +kernel
theorem dX0_gaugeEdge_24 : decode cX0_gaugeEdge 24 = .ok (.getfield 32, 3) := by decide +kernel
theorem dX0_gaugeEdge_27 : decode cX0_gaugeEdge 27 = .ok (.if_icmp .ge 68, 3) := by decide +kernel
theorem dX0_gaugeEdge_30 : decode cX0_gaugeEdge 30 = .ok (.iconst 0, 1) := by decide +kernel
theorem dX0_gaugeEdge_31 : decode cX0_gaugeEdge 31 = .ok (.istore 6, 2) := by decide +kernel
theorem dX0_gaugeEdge_33 : decode cX0_gaugeEdge 33 = .ok (.iload 6, 2) := by decide +kernel
theorem dX0_gaugeEdge_35 : decode cX0_gaugeEdge 35 = .ok (.iconst 4, 1) := by decide +kernel
theorem dX0_gaugeEdge_36 : decode cX0_gaugeEdge 36 = .ok (.if_icmp .ge 53, 3) := by decide +kernel
theorem dX0_gaugeEdge_39 : decode cX0_gaugeEdge 39 = .ok (.aload_n 1, 1) := by decide +kernel
theorem dX0_gaugeEdge_40 : decode cX0_gaugeEdge 40 = .ok (.iload 5, 2) := by decide +kernel
theorem dX0_gaugeEdge_42 : decode cX0_gaugeEdge 42 = .ok (.iload 6, 2) := by decide +kernel
theorem dX0_gaugeEdge_44 : decode cX0_gaugeEdge 44 = .ok (.invokevirtual 107, 3) := by decide +kernel
theorem dX0_gaugeEdge_47 : decode cX0_gaugeEdge 47 = .ok (.ifCond .eq 36, 3) := by decide +kernel
theorem dX0_gaugeEdge_50 : decode cX0_gaugeEdge 50 = .ok (.aload_n 1, 1) := by decide +kernel
theorem dX0_gaugeEdge_51 : decode cX0_gaugeEdge 51 = .ok (.iload 5, 2) := by decide +kernel
theorem dX0_gaugeEdge_53 : decode cX0_gaugeEdge 53 = .ok (.iload 6, 2) := by decide +kernel
theorem dX0_gaugeEdge_55 : decode cX0_gaugeEdge 55 = .ok (.invokevirtual 111, 3) := by decide +kernel
theorem dX0_gaugeEdge_58 : decode cX0_gaugeEdge 58 = .ok (.iload_n 3, 1) := by decide +kernel
theorem dX0_gaugeEdge_59 : decode cX0_gaugeEdge 59 = .ok (.if_icmp .lt 24, 3) := by decide +kernel
theorem dX0_gaugeEdge_62 : decode cX0_gaugeEdge 62 = .ok (.aload_n 0, 1) := by decide +kernel
theorem dX0_gaugeEdge_63 : decode cX0_gaugeEdge 63 = .ok (.iload 5, 2) := by decide +kernel
theorem dX0_gaugeEdge_65 : decode cX0_gaugeEdge 65 = .ok (.iload 6, 2) := by decide +kernel
theorem dX0_gaugeEdge_67 : decode cX0_gaugeEdge 67 = .ok (.invokevirtual 104, 3) := by decide +kernel
theorem dX0_gaugeEdge_70 : decode cX0_gaugeEdge 70 = .ok (.iload 4, 2) := by decide +kernel
theorem dX0_gaugeEdge_72 : decode cX0_gaugeEdge 72 = .ok (.if_icmp .ne 11, 3) := by decide +kernel
theorem dX0_gaugeEdge_75 : decode cX0_gaugeEdge 75 = .ok (.iconst 4, 1) := by decide +kernel
theorem dX0_gaugeEdge_76 : decode cX0_gaugeEdge 76 = .ok (.iload 5, 2) := by decide +kernel
theorem dX0_gaugeEdge_78 : decode cX0_gaugeEdge 78 = .ok (.imul, 1) := by decide +kernel
theorem dX0_gaugeEdge_79 : decode cX0_gaugeEdge 79 = .ok (.iload 6, 2) := by decide +kernel
theorem dX0_gaugeEdge_81 : decode cX0_gaugeEdge 81 = .ok (.iadd, 1) := by decide +kernel
theorem dX0_gaugeEdge_82 : decode cX0_gaugeEdge 82 = .ok (.ireturn, 1) := by decide +kernel
theorem dX0_gaugeEdge_83 : decode cX0_gaugeEdge 83 = .ok (.iinc 6 1, 3) := by decide +kernel
theorem dX0_gaugeEdge_86 : decode cX0_gaugeEdge 86 = .ok (.goto (-53), 3) := by decide +kernel
theorem dX0_gaugeEdge_89 : decode cX0_gaugeEdge 89 = .ok (.iinc 5 1, 3) := by decide +kernel
theorem dX0_gaugeEdge_92 : decode cX0_gaugeEdge 92 = .ok (.goto (-71), 3) := by decide +kernel
theorem dX0_gaugeEdge_95 : decode cX0_gaugeEdge 95 = .ok (.iconst (-1), 1) := by decide +kernel
theorem dX0_gaugeEdge_96 : decode cX0_gaugeEdge 96 = .ok (.ireturn, 1) := by decide +kernel
theorem dX0_isTrueTo_0 : decode cX0_isTrueTo 0 = .ok (.iconst 0, 1) := by decide +kernel
theorem dX0_isTrueTo_1 : decode cX0_isTrueTo 1 = .ok (.istore_n 2, 1) := by decide +kernel
theorem dX0_isTrueTo_2 : decode cX0_isTrueTo 2 = .ok (.iload_n 2, 1) := by decide +kernel
theorem dX0_isTrueTo_3 : decode cX0_isTrueTo 3 = .ok (.aload_n 1, 1) := by decide +kernel
theorem dX0_isTrueTo_4 : decode cX0_isTrueTo 4 = .ok (.getfield 32, 3) := by decide +kernel
theorem dX0_isTrueTo_7 : decode cX0_isTrueTo 7 = .ok (.if_icmp .ge 78, 3) := by decide +kernel
theorem dX0_isTrueTo_10 : decode cX0_isTrueTo 10 = .ok (.aload_n 0, 1) := by decide +kernel
theorem dX0_isTrueTo_11 : decode cX0_isTrueTo 11 = .ok (.iload_n 2, 1) := by decide +kernel
theorem dX0_isTrueTo_12 : decode cX0_isTrueTo 12 = .ok (.aload_n 0, 1) := by decide +kernel
theorem dX0_isTrueTo_13 : decode cX0_isTrueTo 13 = .ok (.getfield 9, 3) := by decide +kernel
theorem dX0_isTrueTo_16 : decode cX0_isTrueTo 16 = .ok (.iload_n 2, 1) := by decide +kernel
theorem dX0_isTrueTo_17 : decode cX0_isTrueTo 17 = .ok (.iaload, 1) := by decide +kernel
theorem dX0_isTrueTo_18 : decode cX0_isTrueTo 18 = .ok (.invokevirtual 114, 3) := by decide +kernel
theorem dX0_isTrueTo_21 : decode cX0_isTrueTo 21 = .ok (.aload_n 1, 1) := by decide +kernel
theorem dX0_isTrueTo_22 : decode cX0_isTrueTo 22 = .ok (.iload_n 2, 1) := by decide +kernel
theorem dX0_isTrueTo_23 : decode cX0_isTrueTo 23 = .ok (.invokevirtual 87, 3) := by decide +kernel
theorem dX0_isTrueTo_26 : decode cX0_isTrueTo 26 = .ok (.if_icmp .ne 36, 3) := by decide +kernel
theorem dX0_isTrueTo_29 : decode cX0_isTrueTo 29 = .ok (.aload_n 0, 1) := by decide +kernel
theorem dX0_isTrueTo_30 : decode cX0_isTrueTo 30 = .ok (.iload_n 2, 1) := by decide +kernel
theorem dX0_isTrueTo_31 : decode cX0_isTrueTo 31 = .ok (.aload_n 0, 1) := by decide +kernel
theorem dX0_isTrueTo_32 : decode cX0_isTrueTo 32 = .ok (.getfield 15, 3) := by decide +kernel
theorem dX0_isTrueTo_35 : decode cX0_isTrueTo 35 = .ok (.iload_n 2, 1) := by decide +kernel
theorem dX0_isTrueTo_36 : decode cX0_isTrueTo 36 = .ok (.iaload, 1) := by decide +kernel
theorem dX0_isTrueTo_37 : decode cX0_isTrueTo 37 = .ok (.invokevirtual 114, 3) := by decide +kernel
theorem dX0_isTrueTo_40 : decode cX0_isTrueTo 40 = .ok (.aload_n 1, 1) := by decide +kernel
theorem dX0_isTrueTo_41 : decode cX0_isTrueTo 41 = .ok (.iload_n 2, 1) := by decide +kernel
theorem dX0_isTrueTo_42 : decode cX0_isTrueTo 42 = .ok (.invokevirtual 90, 3) := by decide +kernel
theorem dX0_isTrueTo_45 : decode cX0_isTrueTo 45 = .ok (.if_icmp .ne 17, 3) := by decide +kernel
theorem dX0_isTrueTo_48 : decode cX0_isTrueTo 48 = .ok (.aload_n 0, 1) := by decide +kernel
theorem dX0_isTrueTo_49 : decode cX0_isTrueTo 49 = .ok (.iload_n 2, 1) := by decide +kernel
theorem dX0_isTrueTo_50 : decode cX0_isTrueTo 50 = .ok (.aload_n 0, 1) := by decide +kernel
theorem dX0_isTrueTo_51 : decode cX0_isTrueTo 51 = .ok (.getfield 18, 3) := by decide +kernel
theorem dX0_isTrueTo_54 : decode cX0_isTrueTo 54 = .ok (.iload_n 2, 1) := by decide +kernel
theorem dX0_isTrueTo_55 : decode cX0_isTrueTo 55 = .ok (.iaload, 1) := by decide +kernel
theorem dX0_isTrueTo_56 : decode cX0_isTrueTo 56 = .ok (.invokevirtual 114, 3) := by decide +kernel
theorem dX0_isTrueTo_59 : decode cX0_isTrueTo 59 = .ok (.ifCond .eq 5, 3) := by decide +kernel
theorem dX0_isTrueTo_62 : decode cX0_isTrueTo 62 = .ok (.iconst 0, 1) := by decide +kernel
theorem dX0_isTrueTo_63 : decode cX0_isTrueTo 63 = .ok (.ireturn, 1) := by decide +kernel
theorem dX0_isTrueTo_64 : decode cX0_isTrueTo 64 = .ok (.iload_n 2, 1) := by decide +kernel
theorem dX0_isTrueTo_65 : decode cX0_isTrueTo 65 = .ok (.ifCond .le 14, 3) := by decide +kernel
theorem dX0_isTrueTo_68 : decode cX0_isTrueTo 68 = .ok (.aload_n 0, 1) := by decide +kernel
theorem dX0_isTrueTo_69 : decode cX0_isTrueTo 69 = .ok (.aload_n 1, 1) := by decide +kernel
theorem dX0_isTrueTo_70 : decode cX0_isTrueTo 70 = .ok (.iload_n 2, 1) := by decide +kernel
theorem dX0_isTrueTo_71 : decode cX0_isTrueTo 71 = .ok (.invokevirtual 117, 3) := by decide +kernel
theorem dX0_isTrueTo_74 : decode cX0_isTrueTo 74 = .ok (.ifCond .ne 5, 3) := by decide +kernel
theorem dX0_isTrueTo_77 : decode cX0_isTrueTo 77 = .ok (.iconst 0, 1) := by decide +kernel
theorem dX0_isTrueTo_78 : decode cX0_isTrueTo 78 = .ok (.ireturn, 1) := by decide +kernel
theorem dX0_isTrueTo_79 : decode cX0_isTrueTo 79 = .ok (.iinc 2 1, 3) := by decide +kernel
theorem dX0_isTrueTo_82 : decode cX0_isTrueTo 82 = .ok (.goto (-80), 3) := by decide +kernel
theorem dX0_isTrueTo_85 : decode cX0_isTrueTo 85 = .ok (.iconst 1, 1) := by decide +kernel
theorem dX0_isTrueTo_86 : decode cX0_isTrueTo 86 = .ok (.ireturn, 1) := by decide +kernel
theorem dX0_isBendShared_0 : decode cX0_isBendShared 0 = .ok (.aload_n 1, 1) := by decide +kernel
theorem dX0_isBendShared_1 : decode cX0_isBendShared 1 = .ok (.getfield 49, 3) := by decide +kernel
theorem dX0_isBendShared_4 : decode cX0_isBendShared 4 = .ok (.iload_n 2, 1) := by decide +kernel
theorem dX0_isBendShared_5 : decode cX0_isBendShared 5 = .ok (.iaload, 1) := by decide +kernel
theorem dX0_isBendShared_6 : decode cX0_isBendShared 6 = .ok (.istore_n 3, 1) := by decide +kernel
theorem dX0_isBendShared_7 : decode cX0_isBendShared 7 = .ok (.aload_n 1, 1) := by decide +kernel
theorem dX0_isBendShared_8 : decode cX0_isBendShared 8 = .ok (.getfield 52, 3) := by decide +kernel
theorem dX0_isBendShared_11 : decode cX0_isBendShared 11 = .ok (.iload_n 2, 1) := by decide +kernel
theorem dX0_isBendShared_12 : decode cX0_isBendShared 12 = .ok (.iaload, 1) := by decide +kernel
theorem dX0_isBendShared_13 : decode cX0_isBendShared 13 = .ok (.invokestatic 67, 3) := by decide +kernel
theorem dX0_isBendShared_16 : decode cX0_isBendShared 16 = .ok (.istore 4, 2) := by decide +kernel
theorem dX0_isBendShared_18 : decode cX0_isBendShared 18 = .ok (.aload_n 1, 1) := by decide +kernel
theorem dX0_isBendShared_19 : decode cX0_isBendShared 19 = .ok (.iload_n 2, 1) := by decide +kernel
theorem dX0_isBendShared_20 : decode cX0_isBendShared 20 = .ok (.invokevirtual 70, 3) := by decide +kernel
theorem dX0_isBendShared_23 : decode cX0_isBendShared 23 = .ok (.istore 5, 2) := by decide +kernel
theorem dX0_isBendShared_25 : decode cX0_isBendShared 25 = .ok (.aload_n 1, 1) := by decide +kernel
theorem dX0_isBendShared_26 : decode cX0_isBendShared 26 = .ok (.iload_n 2, 1) := by decide +kernel
theorem dX0_isBendShared_27 : decode cX0_isBendShared 27 = .ok (.invokevirtual 74, 3) := by decide +kernel
theorem dX0_isBendShared_30 : decode cX0_isBendShared 30 = .ok (.istore 6, 2) := by decide +kernel
theorem dX0_isBendShared_32 : decode cX0_isBendShared 32 = .ok (.iload 4, 2) := by decide +kernel
theorem dX0_isBendShared_34 : decode cX0_isBendShared 34 = .ok (.ifCond .eq 8, 3) := by decide +kernel
theorem dX0_isBendShared_37 : decode cX0_isBendShared 37 = .ok (.iload 5, 2) := by decide +kernel
theorem dX0_isBendShared_39 : decode cX0_isBendShared 39 = .ok (.goto 11, 3) := by decide +kernel
theorem dX0_isBendShared_42 : decode cX0_isBendShared 42 = .ok (.aload_n 1, 1) := by decide +kernel
theorem dX0_isBendShared_43 : decode cX0_isBendShared 43 = .ok (.getfield 77, 3) := by decide +kernel
theorem dX0_isBendShared_46 : decode cX0_isBendShared 46 = .ok (.iconst 0, 1) := by decide +kernel
theorem dX0_isBendShared_47 : decode cX0_isBendShared 47 = .ok (.aaload, 1) := by decide +kernel
theorem dX0_isBendShared_48 : decode cX0_isBendShared 48 = .ok (.iload_n 2, 1) := by decide +kernel
theorem dX0_isBendShared_49 : decode cX0_isBendShared 49 = .ok (.iaload, 1) := by decide +kernel
theorem dX0_isBendShared_50 : decode cX0_isBendShared 50 = .ok (.istore 7, 2) := by decide +kernel
theorem dX0_isBendShared_52 : decode cX0_isBendShared 52 = .ok (.iload 4, 2) := by decide +kernel
theorem dX0_isBendShared_54 : decode cX0_isBendShared 54 = .ok (.ifCond .eq 14, 3) := by decide +kernel
theorem dX0_isBendShared_57 : decode cX0_isBendShared 57 = .ok (.aload_n 1, 1) := by decide +kernel
theorem dX0_isBendShared_58 : decode cX0_isBendShared 58 = .ok (.getfield 77, 3) := by decide +kernel
theorem dX0_isBendShared_61 : decode cX0_isBendShared 61 = .ok (.iconst 1, 1) := by decide +kernel
theorem dX0_isBendShared_62 : decode cX0_isBendShared 62 = .ok (.aaload, 1) := by decide +kernel
theorem dX0_isBendShared_63 : decode cX0_isBendShared 63 = .ok (.iload_n 2, 1) := by decide +kernel
theorem dX0_isBendShared_64 : decode cX0_isBendShared 64 = .ok (.iaload, 1) := by decide +kernel
theorem dX0_isBendShared_65 : decode cX0_isBendShared 65 = .ok (.goto 5, 3) := by decide +kernel
theorem dX0_isBendShared_68 : decode cX0_isBendShared 68 = .ok (.iload 6, 2) := by decide +kernel
theorem dX0_isBendShared_70 : decode cX0_isBendShared 70 = .ok (.istore 8, 2) := by decide +kernel
theorem dX0_isBendShared_72 : decode cX0_isBendShared 72 = .ok (.iconst 0, 1) := by decide +kernel
theorem dX0_isBendShared_73 : decode cX0_isBendShared 73 = .ok (.istore 9, 2) := by decide +kernel
theorem dX0_isBendShared_75 : decode cX0_isBendShared 75 = .ok (.iload 9, 2) := by decide +kernel
theorem dX0_isBendShared_77 : decode cX0_isBendShared 77 = .ok (.iconst 3, 1) := by decide +kernel
theorem dX0_isBendShared_78 : decode cX0_isBendShared 78 = .ok (.if_icmp .ge 65, 3) := by decide +kernel
theorem dX0_isBendShared_81 : decode cX0_isBendShared 81 = .ok (.aload_n 0, 1) := by decide +kernel
theorem dX0_isBendShared_82 : decode cX0_isBendShared 82 = .ok (.aload_n 1, 1) := by decide +kernel
theorem dX0_isBendShared_83 : decode cX0_isBendShared 83 = .ok (.iload_n 2, 1) := by decide +kernel
theorem dX0_isBendShared_84 : decode cX0_isBendShared 84 = .ok (.iload 5, 2) := by decide +kernel
theorem dX0_isBendShared_86 : decode cX0_isBendShared 86 = .ok (.iload 6, 2) := by decide +kernel
theorem dX0_isBendShared_88 : decode cX0_isBendShared 88 = .ok (.iload 9, 2) := by decide +kernel
theorem dX0_isBendShared_90 : decode cX0_isBendShared 90 = .ok (.invokevirtual 80, 3) := by decide +kernel
theorem dX0_isBendShared_93 : decode cX0_isBendShared 93 = .ok (.aload_n 0, 1) := by decide +kernel
theorem dX0_isBendShared_94 : decode cX0_isBendShared 94 = .ok (.aload_n 1, 1) := by decide +kernel
theorem dX0_isBendShared_95 : decode cX0_isBendShared 95 = .ok (.iload_n 3, 1) := by decide +kernel
theorem dX0_isBendShared_96 : decode cX0_isBendShared 96 = .ok (.iload 5, 2) := by decide +kernel
theorem dX0_isBendShared_98 : decode cX0_isBendShared 98 = .ok (.iload 6, 2) := by decide +kernel
theorem dX0_isBendShared_100 : decode cX0_isBendShared 100 = .ok (.iload 9, 2) := by decide +kernel
theorem dX0_isBendShared_102 : decode cX0_isBendShared 102 = .ok (.invokevirtual 80, 3) := by decide +kernel
theorem dX0_isBendShared_105 : decode cX0_isBendShared 105 = .ok (.if_icmp .ne 30, 3) := by decide +kernel
theorem dX0_isBendShared_108 : decode cX0_isBendShared 108 = .ok (.aload_n 0, 1) := by decide +kernel
theorem dX0_isBendShared_109 : decode cX0_isBendShared 109 = .ok (.aload_n 1, 1) := by decide +kernel
theorem dX0_isBendShared_110 : decode cX0_isBendShared 110 = .ok (.iload_n 2, 1) := by decide +kernel
theorem dX0_isBendShared_111 : decode cX0_isBendShared 111 = .ok (.iload 7, 2) := by decide +kernel
theorem dX0_isBendShared_113 : decode cX0_isBendShared 113 = .ok (.iload 8, 2) := by decide +kernel
theorem dX0_isBendShared_115 : decode cX0_isBendShared 115 = .ok (.iload 9, 2) := by decide +kernel
theorem dX0_isBendShared_117 : decode cX0_isBendShared 117 = .ok (.invokevirtual 80, 3) := by decide +kernel
theorem dX0_isBendShared_120 : decode cX0_isBendShared 120 = .ok (.aload_n 0, 1) := by decide +kernel
theorem dX0_isBendShared_121 : decode cX0_isBendShared 121 = .ok (.aload_n 1, 1) := by decide +kernel
theorem dX0_isBendShared_122 : decode cX0_isBendShared 122 = .ok (.iload_n 3, 1) := by decide +kernel
theorem dX0_isBendShared_123 : decode cX0_isBendShared 123 = .ok (.iload 7, 2) := by decide +kernel
theorem dX0_isBendShared_125 : decode cX0_isBendShared 125 = .ok (.iload 8, 2) := by decide +kernel
theorem dX0_isBendShared_127 : decode cX0_isBendShared 127 = .ok (.iload 9, 2) := by decide +kernel
theorem dX0_isBendShared_129 : decode cX0_isBendShared 129 = .ok (.invokevirtual 80, 3) := by decide +kernel
theorem dX0_isBendShared_132 : decode cX0_isBendShared 132 = .ok (.if_icmp .eq 5, 3) := by decide +kernel
theorem dX0_isBendShared_135 : decode cX0_isBendShared 135 = .ok (.iconst 0, 1) := by decide +kernel
theorem dX0_isBendShared_136 : decode cX0_isBendShared 136 = .ok (.ireturn, 1) := by decide +kernel
theorem dX0_isBendShared_137 : decode cX0_isBendShared 137 = .ok (.iinc 9 1, 3) := by decide +kernel
theorem dX0_isBendShared_140 : decode cX0_isBendShared 140 = .ok (.goto (-65), 3) := by decide +kernel
theorem dX0_isBendShared_143 : decode cX0_isBendShared 143 = .ok (.iconst 1, 1) := by decide +kernel
theorem dX0_isBendShared_144 : decode cX0_isBendShared 144 = .ok (.ireturn, 1) := by decide +kernel
theorem dX1_init_0 : decode cX1_init 0 = .ok (.aload_n 0, 1) := by decide +kernel
theorem dX1_init_1 : decode cX1_init 1 = .ok (.invokespecial 3, 3) := by decide +kernel
theorem dX1_init_4 : decode cX1_init 4 = .ok (.aload_n 0, 1) := by decide +kernel
theorem dX1_init_5 : decode cX1_init 5 = .ok (.iconst 0, 1) := by decide +kernel
theorem dX1_init_6 : decode cX1_init 6 = .ok (.putfield 9, 3) := by decide +kernel
theorem dX1_init_9 : decode cX1_init 9 = .ok (.aload_n 0, 1) := by decide +kernel
theorem dX1_init_10 : decode cX1_init 10 = .ok (.iconst 4, 1) := by decide +kernel
theorem dX1_init_11 : decode cX1_init 11 = .ok (.bipush 13, 2) := by decide +kernel
theorem dX1_init_13 : decode cX1_init 13 = .ok (.multianewarray 15 2, 4) := by decide +kernel
theorem dX1_init_17 : decode cX1_init 17 = .ok (.putfield 17, 3) := by decide +kernel
theorem dX1_init_20 : decode cX1_init 20 = .ok (.aload_n 0, 1) := by decide +kernel
theorem dX1_init_21 : decode cX1_init 21 = .ok (.bipush 13, 2) := by decide +kernel
theorem dX1_init_23 : decode cX1_init 23 = .ok (.newarray .int, 2) := by decide +kernel
theorem dX1_init_25 : decode cX1_init 25 = .ok (.putfield 20, 3) := by decide +kernel
theorem dX1_init_28 : decode cX1_init 28 = .ok (.aload_n 0, 1) := by decide +kernel
theorem dX1_init_29 : decode cX1_init 29 = .ok (.bipush 13, 2) := by decide +kernel
theorem dX1_init_31 : decode cX1_init 31 = .ok (.newarray .int, 2) := by decide +kernel
theorem dX1_init_33 : decode cX1_init 33 = .ok (.putfield 24, 3) := by decide +kernel
theorem dX1_init_36 : decode cX1_init 36 = .ok (.return_, 1) := by decide +kernel
theorem dX1_layOut_0 : decode cX1_layOut 0 = .ok (.aload_n 0, 1) := by decide +kernel
theorem dX1_layOut_1 : decode cX1_layOut 1 = .ok (.aload_n 1, 1) := by decide +kernel
theorem dX1_layOut_2 : decode cX1_layOut 2 = .ok (.getfield 27, 3) := by decide +kernel
theorem dX1_layOut_5 : decode cX1_layOut 5 = .ok (.putfield 9, 3) := by decide +kernel
theorem dX1_layOut_8 : decode cX1_layOut 8 = .ok (.aload_n 0, 1) := by decide +kernel
theorem dX1_layOut_9 : decode cX1_layOut 9 = .ok (.aload_n 1, 1) := by decide +kernel
theorem dX1_layOut_10 : decode cX1_layOut 10 = .ok (.iload_n 2, 1) := by decide +kernel
theorem dX1_layOut_11 : decode cX1_layOut 11 = .ok (.invokevirtual 30, 3) := by decide +kernel
theorem dX1_layOut_14 : decode cX1_layOut 14 = .ok (.iconst 0, 1) := by decide +kernel
theorem dX1_layOut_15 : decode cX1_layOut 15 = .ok (.istore_n 3, 1) := by decide +kernel
theorem dX1_layOut_16 : decode cX1_layOut 16 = .ok (.iload_n 3, 1) := by decide +kernel
theorem dX1_layOut_17 : decode cX1_layOut 17 = .ok (.aload_n 0, 1) := by decide +kernel
theorem dX1_layOut_18 : decode cX1_layOut 18 = .ok (.getfield 9, 3) := by decide +kernel
theorem dX1_layOut_21 : decode cX1_layOut 21 = .ok (.if_icmp .ge 18, 3) := by decide +kernel
theorem dX1_layOut_24 : decode cX1_layOut 24 = .ok (.aload_n 0, 1) := by decide +kernel
theorem dX1_layOut_25 : decode cX1_layOut 25 = .ok (.aload_n 1, 1) := by decide +kernel
theorem dX1_layOut_26 : decode cX1_layOut 26 = .ok (.iload_n 3, 1) := by decide +kernel
theorem dX1_layOut_27 : decode cX1_layOut 27 = .ok (.iload_n 2, 1) := by decide +kernel
theorem dX1_layOut_28 : decode cX1_layOut 28 = .ok (.iconst 2, 1) := by decide +kernel
theorem dX1_layOut_29 : decode cX1_layOut 29 = .ok (.idiv, 1) := by decide +kernel
theorem dX1_layOut_30 : decode cX1_layOut 30 = .ok (.invokevirtual 34, 3) := by decide +kernel
theorem dX1_layOut_33 : decode cX1_layOut 33 = .ok (.iinc 3 1, 3) := by decide +kernel
theorem dX1_layOut_36 : decode cX1_layOut 36 = .ok (.goto (-20), 3) := by decide +kernel
theorem dX1_layOut_39 : decode cX1_layOut 39 = .ok (.aload_n 0, 1) := by decide +kernel
theorem dX1_layOut_40 : decode cX1_layOut 40 = .ok (.iconst 0, 1) := by decide +kernel
theorem dX1_layOut_41 : decode cX1_layOut 41 = .ok (.iconst 2, 1) := by decide +kernel
theorem dX1_layOut_42 : decode cX1_layOut 42 = .ok (.invokevirtual 38, 3) := by decide +kernel
theorem dX1_layOut_45 : decode cX1_layOut 45 = .ok (.aload_n 0, 1) := by decide +kernel
theorem dX1_layOut_46 : decode cX1_layOut 46 = .ok (.iconst 1, 1) := by decide +kernel
theorem dX1_layOut_47 : decode cX1_layOut 47 = .ok (.iconst 3, 1) := by decide +kernel
theorem dX1_layOut_48 : decode cX1_layOut 48 = .ok (.invokevirtual 38, 3) := by decide +kernel
theorem dX1_layOut_51 : decode cX1_layOut 51 = .ok (.return_, 1) := by decide +kernel
theorem dX1_moveTogether_0 : decode cX1_moveTogether 0 = .ok (.aload_n 0, 1) := by decide +kernel
theorem dX1_moveTogether_1 : decode cX1_moveTogether 1 = .ok (.getfield 20, 3) := by decide +kernel
theorem dX1_moveTogether_4 : decode cX1_moveTogether 4 = .ok (.iconst 0, 1) := by decide +kernel
theorem dX1_moveTogether_5 : decode cX1_moveTogether 5 = .ok (.iconst 0, 1) := by decide +kernel
theorem dX1_moveTogether_6 : decode cX1_moveTogether 6 = .ok (.iastore, 1) := by decide +kernel
theorem dX1_moveTogether_7 : decode cX1_moveTogether 7 = .ok (.aload_n 0, 1) := by decide +kernel
theorem dX1_moveTogether_8 : decode cX1_moveTogether 8 = .ok (.getfield 24, 3) := by decide +kernel
theorem dX1_moveTogether_11 : decode cX1_moveTogether 11 = .ok (.iconst 0, 1) := by decide +kernel
theorem dX1_moveTogether_12 : decode cX1_moveTogether 12 = .ok (.iconst 0, 1) := by decide +kernel
theorem dX1_moveTogether_13 : decode cX1_moveTogether 13 = .ok (.iastore, 1) := by decide +kernel
theorem dX1_moveTogether_14 : decode cX1_moveTogether 14 = .ok (.iconst 1, 1) := by decide +kernel
theorem dX1_moveTogether_15 : decode cX1_moveTogether 15 = .ok (.istore_n 3, 1) := by decide +kernel
theorem dX1_moveTogether_16 : decode cX1_moveTogether 16 = .ok (.iload_n 3, 1) := by decide +kernel
theorem dX1_moveTogether_17 : decode cX1_moveTogether 17 = .ok (.aload_n 0, 1) := by decide +kernel
theorem dX1_moveTogether_18 : decode cX1_moveTogether 18 = .ok (.getfield 9, 3) := by decide +kernel
theorem dX1_moveTogether_21 : decode cX1_moveTogether 21 = .ok (.if_icmp .ge 98, 3) := by decide +kernel
theorem dX1_moveTogether_24 : decode cX1_moveTogether 24 = .ok (.aload_n 1, 1) := by decide +kernel
theorem dX1_moveTogether_25 : decode cX1_moveTogether 25 = .ok (.getfield 42, 3) := by decide +kernel
theorem dX1_moveTogether_28 : decode cX1_moveTogether 28 = .ok (.iload_n 3, 1) := by decide +kernel
theorem dX1_moveTogether_29 : decode cX1_moveTogether 29 = .ok (.iaload, 1) := by decide +kernel
theorem dX1_moveTogether_30 : decode cX1_moveTogether 30 = .ok (.istore 4, 2) := by decide +kernel
theorem dX1_moveTogether_32 : decode cX1_moveTogether 32 = .ok (.aload_n 1, 1) := by decide +kernel
theorem dX1_moveTogether_33 : decode cX1_moveTogether 33 = .ok (.getfield 45, 3) := by decide +kernel
theorem dX1_moveTogether_36 : decode cX1_moveTogether 36 = .ok (.iload_n 3, 1) := by decide +kernel
theorem dX1_moveTogether_37 : decode cX1_moveTogether 37 = .ok (.iaload, 1) := by decide +kernel
theorem dX1_moveTogether_38 : decode cX1_moveTogether 38 = .ok (.invokestatic 48, 3) := by decide +kernel
theorem dX1_moveTogether_41 : decode cX1_moveTogether 41 = .ok (.ifCond .eq 8, 3) := by decide +kernel
theorem dX1_moveTogether_44 : decode cX1_moveTogether 44 = .ok (.iload_n 2, 1) := by decide +kernel
theorem dX1_moveTogether_45 : decode cX1_moveTogether 45 = .ok (.ineg, 1) := by decide +kernel
theorem dX1_moveTogether_46 : decode cX1_moveTogether 46 = .ok (.goto 4, 3) := by decide +kernel
theorem dX1_moveTogether_49 : decode cX1_moveTogether 49 = .ok (.iload_n 2, 1) := by decide +kernel
theorem dX1_moveTogether_50 : decode cX1_moveTogether 50 = .ok (.istore 5, 2) := by decide +kernel
theorem dX1_moveTogether_52 : decode cX1_moveTogether 52 = .ok (.aload_n 1, 1) := by decide +kernel
theorem dX1_moveTogether_53 : decode cX1_moveTogether 53 = .ok (.getfield 45, 3) := by decide +kernel
theorem dX1_moveTogether_56 : decode cX1_moveTogether 56 = .ok (.iload_n 3, 1) := by decide +kernel
theorem dX1_moveTogether_57 : decode cX1_moveTogether 57 = .ok (.iaload, 1) := by decide +kernel
theorem dX1_moveTogether_58 : decode cX1_moveTogether 58 = .ok (.invokestatic 52, 3) := by decide +kernel
theorem dX1_moveTogether_61 : decode cX1_moveTogether 61 = .ok (.istore 6, 2) := by decide +kernel
theorem dX1_moveTogether_63 : decode cX1_moveTogether 63 = .ok (.aload_n 0, 1) := by decide +kernel
theorem dX1_moveTogether_64 : decode cX1_moveTogether 64 = .ok (.getfield 20, 3) := by decide +kernel
theorem dX1_moveTogether_67 : decode cX1_moveTogether 67 = .ok (.iload_n 3, 1) := by decide +kernel
theorem dX1_moveTogether_68 : decode cX1_moveTogether 68 = .ok (.aload_n 0, 1) := by decide +kernel
theorem dX1_moveTogether_69 : decode cX1_moveTogether 69 = .ok (.getfield 20, 3) := by decide +kernel
theorem dX1_moveTogether_72 : decode cX1_moveTogether 72 = .ok (.iload 4, 2) := by decide +kernel
theorem dX1_moveTogether_74 : decode cX1_moveTogether 74 = .ok (.iaload, 1) := by decide +kernel
theorem dX1_moveTogether_75 : decode cX1_moveTogether 75 = .ok (.iload 6, 2) := by decide +kernel
theorem dX1_moveTogether_77 : decode cX1_moveTogether 77 = .ok (.ifCond .eq 8, 3) := by decide +kernel
theorem dX1_moveTogether_80 : decode cX1_moveTogether 80 = .ok (.iload 5, 2) := by decide +kernel
theorem dX1_moveTogether_82 : decode cX1_moveTogether 82 = .ok (.goto 4, 3) := by decide +kernel
theorem dX1_moveTogether_85 : decode cX1_moveTogether 85 = .ok (.iconst 0, 1) := by decide +kernel
theorem dX1_moveTogether_86 : decode cX1_moveTogether 86 = .ok (.iadd, 1) := by decide +kernel
theorem dX1_moveTogether_87 : decode cX1_moveTogether 87 = .ok (.iastore, 1) := by decide +kernel
theorem dX1_moveTogether_88 : decode cX1_moveTogether 88 = .ok (.aload_n 0, 1) := by decide +kernel
theorem dX1_moveTogether_89 : decode cX1_moveTogether 89 = .ok (.getfield 24, 3) := by decide +kernel
theorem dX1_moveTogether_92 : decode cX1_moveTogether 92 = .ok (.iload_n 3, 1) := by decide +kernel
theorem dX1_moveTogether_93 : decode cX1_moveTogether 93 = .ok (.aload_n 0, 1) := by decide +kernel
theorem dX1_moveTogether_94 : decode cX1_moveTogether 94 = .ok (.getfield 24, 3) := by decide +kernel
theorem dX1_moveTogether_97 : decode cX1_moveTogether 97 = .ok (.iload 4, 2) := by decide +kernel
theorem dX1_moveTogether_99 : decode cX1_moveTogether 99 = .ok (.iaload, 1) := by decide +kernel
theorem dX1_moveTogether_100 : decode cX1_moveTogether 100 = .ok (.iload 6, 2) := by decide +kernel
theorem dX1_moveTogether_102 : decode cX1_moveTogether 102 = .ok (.ifCond .eq 7, 3) := by decide +kernel
theorem dX1_moveTogether_105 : decode cX1_moveTogether 105 = .ok (.iconst 0, 1) := by decide +kernel
theorem dX1_moveTogether_106 : decode cX1_moveTogether 106 = .ok (.goto 5, 3) := by decide +kernel
theorem dX1_moveTogether_109 : decode cX1_moveTogether 109 = .ok (.iload 5, 2) := by decide +kernel
theorem dX1_moveTogether_111 : decode cX1_moveTogether 111 = .ok (.iadd, 1) := by decide +kernel
theorem dX1_moveTogether_112 : decode cX1_moveTogether 112 = .ok (.iastore, 1) := by decide +kernel
theorem dX1_moveTogether_113 : decode cX1_moveTogether 113 = .ok (.iinc 3 1, 3) := by decide +kernel
theorem dX1_moveTogether_116 : decode cX1_moveTogether 116 = .ok (.goto (-100), 3) := by decide +kernel
theorem dX1_moveTogether_119 : decode cX1_moveTogether 119 = .ok (.return_, 1) := by decide +kernel
theorem dX1_takeOff_0 : decode cX1_takeOff 0 = .ok (.iconst 0, 1) := by decide +kernel
theorem dX1_takeOff_1 : decode cX1_takeOff 1 = .ok (.istore 4, 2) := by decide +kernel
theorem dX1_takeOff_3 : decode cX1_takeOff 3 = .ok (.iload 4, 2) := by decide +kernel
theorem dX1_takeOff_5 : decode cX1_takeOff 5 = .ok (.iconst 4, 1) := by decide +kernel
theorem dX1_takeOff_6 : decode cX1_takeOff 6 = .ok (.if_icmp .ge 88, 3) := by decide +kernel
theorem dX1_takeOff_9 : decode cX1_takeOff 9 = .ok (.aload_n 1, 1) := by decide +kernel
theorem dX1_takeOff_10 : decode cX1_takeOff 10 = .ok (.iload_n 2, 1) := by decide +kernel
theorem dX1_takeOff_11 : decode cX1_takeOff 11 = .ok (.iload 4, 2) := by decide +kernel
theorem dX1_takeOff_13 : decode cX1_takeOff 13 = .ok (.invokevirtual 55, 3) := by decide +kernel
theorem dX1_takeOff_16 : decode cX1_takeOff 16 = .ok (.ifCond .eq 7, 3) := by decide +kernel
theorem dX1_takeOff_19 : decode cX1_takeOff 19 = .ok (.iconst 0, 1) := by decide +kernel
theorem dX1_takeOff_20 : decode cX1_takeOff 20 = .ok (.goto 17, 3) := by decide +kernel
theorem dX1_takeOff_23 : decode cX1_takeOff 23 = .ok (.iload 4, 2) := by decide +kernel
theorem dX1_takeOff_25 : decode cX1_takeOff 25 = .ok (.invokestatic 48, 3) := by decide +kernel
theorem dX1_takeOff_28 : decode cX1_takeOff 28 = .ok (.ifCond .eq 8, 3) := by decide +kernel
theorem dX1_takeOff_31 : decode cX1_takeOff 31 = .ok (.iload_n 3, 1) := by decide +kernel
theorem dX1_takeOff_32 : decode cX1_takeOff 32 = .ok (.ineg, 1) := by decide +kernel
theorem dX1_takeOff_33 : decode cX1_takeOff 33 = .ok (.goto 4, 3) := by decide +kernel
theorem dX1_takeOff_36 : decode cX1_takeOff 36 = .ok (.iload_n 3, 1) := by decide +kernel
theorem dX1_takeOff_37 : decode cX1_takeOff 37 = .ok (.istore 5, 2) := by decide +kernel
theorem dX1_takeOff_39 : decode cX1_takeOff 39 = .ok (.iload 4, 2) := by decide +kernel
theorem dX1_takeOff_41 : decode cX1_takeOff 41 = .ok (.invokestatic 52, 3) := by decide +kernel
theorem dX1_takeOff_44 : decode cX1_takeOff 44 = .ok (.ifCond .eq 12, 3) := by decide +kernel
theorem dX1_takeOff_47 : decode cX1_takeOff 47 = .ok (.aload_n 0, 1) := by decide +kernel
theorem dX1_takeOff_48 : decode cX1_takeOff 48 = .ok (.getfield 20, 3) := by decide +kernel
theorem dX1_takeOff_51 : decode cX1_takeOff 51 = .ok (.iload_n 2, 1) := by decide +kernel
theorem dX1_takeOff_52 : decode cX1_takeOff 52 = .ok (.iaload, 1) := by decide +kernel
theorem dX1_takeOff_53 : decode cX1_takeOff 53 = .ok (.goto 9, 3) := by decide +kernel
theorem dX1_takeOff_56 : decode cX1_takeOff 56 = .ok (.aload_n 0, 1) := by decide +kernel
theorem dX1_takeOff_57 : decode cX1_takeOff 57 = .ok (.getfield 24, 3) := by decide +kernel
theorem dX1_takeOff_60 : decode cX1_takeOff 60 = .ok (.iload_n 2, 1) := by decide +kernel
theorem dX1_takeOff_61 : decode cX1_takeOff 61 = .ok (.iaload, 1) := by decide +kernel
theorem dX1_takeOff_62 : decode cX1_takeOff 62 = .ok (.istore 6, 2) := by decide +kernel
theorem dX1_takeOff_64 : decode cX1_takeOff 64 = .ok (.aload_n 0, 1) := by decide +kernel
theorem dX1_takeOff_65 : decode cX1_takeOff 65 = .ok (.getfield 17, 3) := by decide +kernel
theorem dX1_takeOff_68 : decode cX1_takeOff 68 = .ok (.iload 4, 2) := by decide +kernel
theorem dX1_takeOff_70 : decode cX1_takeOff 70 = .ok (.aaload, 1) := by decide +kernel
theorem dX1_takeOff_71 : decode cX1_takeOff 71 = .ok (.iload_n 2, 1) := by decide +kernel
theorem dX1_takeOff_72 : decode cX1_takeOff 72 = .ok (.aload_n 1, 1) := by decide +kernel
theorem dX1_takeOff_73 : decode cX1_takeOff 73 = .ok (.getfield 59, 3) := by decide +kernel
theorem dX1_takeOff_76 : decode cX1_takeOff 76 = .ok (.iload 4, 2) := by decide +kernel
theorem dX1_takeOff_78 : decode cX1_takeOff 78 = .ok (.aaload, 1) := by decide +kernel
theorem dX1_takeOff_79 : decode cX1_takeOff 79 = .ok (.iload_n 2, 1) := by decide +kernel
theorem dX1_takeOff_80 : decode cX1_takeOff 80 = .ok (.iaload, 1) := by decide +kernel
theorem dX1_takeOff_81 : decode cX1_takeOff 81 = .ok (.iload 5, 2) := by decide +kernel
theorem dX1_takeOff_83 : decode cX1_takeOff 83 = .ok (.iadd, 1) := by decide +kernel
theorem dX1_takeOff_84 : decode cX1_takeOff 84 = .ok (.iload 6, 2) := by decide +kernel
theorem dX1_takeOff_86 : decode cX1_takeOff 86 = .ok (.iadd, 1) := by decide +kernel
theorem dX1_takeOff_87 : decode cX1_takeOff 87 = .ok (.iastore, 1) := by decide +kernel
theorem dX1_takeOff_88 : decode cX1_takeOff 88 = .ok (.iinc 4 1, 3) := by decide +kernel
theorem dX1_takeOff_91 : decode cX1_takeOff 91 = .ok (.goto (-88), 3) := by decide +kernel
theorem dX1_takeOff_94 : decode cX1_takeOff 94 = .ok (.return_, 1) := by decide +kernel
theorem dX1_beginAtZero_0 : decode cX1_beginAtZero 0 = .ok (.aload_n 0, 1) := by decide +kernel
theorem dX1_beginAtZero_1 : decode cX1_beginAtZero 1 = .ok (.getfield 17, 3) := by decide +kernel
theorem dX1_beginAtZero_4 : decode cX1_beginAtZero 4 = .ok (.iload_n 2, 1) := by decide +kernel
theorem dX1_beginAtZero_5 : decode cX1_beginAtZero 5 = .ok (.aaload, 1) := by decide +kernel
theorem dX1_beginAtZero_6 : decode cX1_beginAtZero 6 = .ok (.iconst 0, 1) := by decide +kernel
theorem dX1_beginAtZero_7 : decode cX1_beginAtZero 7 = .ok (.iaload, 1) := by decide +kernel
theorem dX1_beginAtZero_8 : decode cX1_beginAtZero 8 = .ok (.istore_n 3, 1) := by decide +kernel
theorem dX1_beginAtZero_9 : decode cX1_beginAtZero 9 = .ok (.iconst 1, 1) := by decide +kernel
theorem dX1_beginAtZero_10 : decode cX1_beginAtZero 10 = .ok (.istore 4, 2) := by decide +kernel
theorem dX1_beginAtZero_12 : decode cX1_beginAtZero 12 = .ok (.iload 4, 2) := by decide +kernel
theorem dX1_beginAtZero_14 : decode cX1_beginAtZero 14 = .ok (.aload_n 0, 1) := by decide +kernel
theorem dX1_beginAtZero_15 : decode cX1_beginAtZero 15 = .ok (.getfield 9, 3) := by decide +kernel
theorem dX1_beginAtZero_18 : decode cX1_beginAtZero 18 = .ok (.if_icmp .ge 23, 3) := by decide +kernel
theorem dX1_beginAtZero_21 : decode cX1_beginAtZero 21 = .ok (.iload_n 3, 1) := by decide +kernel
theorem dX1_beginAtZero_22 : decode cX1_beginAtZero 22 = .ok (.aload_n 0, 1) := by decide +kernel
theorem dX1_beginAtZero_23 : decode cX1_beginAtZero 23 = .ok (.getfield 17, 3) := by decide +kernel
theorem dX1_beginAtZero_26 : decode cX1_beginAtZero 26 = .ok (.iload_n 2, 1) := by decide +kernel
theorem dX1_beginAtZero_27 : decode cX1_beginAtZero 27 = .ok (.aaload, 1) := by decide +kernel
theorem dX1_beginAtZero_28 : decode cX1_beginAtZero 28 = .ok (.iload 4, 2) := by decide +kernel
theorem dX1_beginAtZero_30 : decode cX1_beginAtZero 30 = .ok (.iaload, 1) := by decide +kernel
theorem dX1_beginAtZero_31 : decode cX1_beginAtZero 31 = .ok (.invokestatic 60, 3) := by decide +kernel
theorem dX1_beginAtZero_34 : decode cX1_beginAtZero 34 = .ok (.istore_n 3, 1) := by decide +kernel
theorem dX1_beginAtZero_35 : decode cX1_beginAtZero 35 = .ok (.iinc 4 1, 3) := by decide +kernel
theorem dX1_beginAtZero_38 : decode cX1_beginAtZero 38 = .ok (.goto (-26), 3) := by decide +kernel
theorem dX1_beginAtZero_41 : decode cX1_beginAtZero 41 = .ok (.iconst 0, 1) := by decide +kernel
theorem dX1_beginAtZero_42 : decode cX1_beginAtZero 42 = .ok (.istore 4, 2) := by decide +kernel
theorem dX1_beginAtZero_44 : decode cX1_beginAtZero 44 = .ok (.iload 4, 2) := by decide +kernel
theorem dX1_beginAtZero_46 : decode cX1_beginAtZero 46 = .ok (.aload_n 0, 1) := by decide +kernel
theorem dX1_beginAtZero_47 : decode cX1_beginAtZero 47 = .ok (.getfield 9, 3) := by decide +kernel
theorem dX1_beginAtZero_50 : decode cX1_beginAtZero 50 = .ok (.if_icmp .ge 35, 3) := by decide +kernel
theorem dX1_beginAtZero_53 : decode cX1_beginAtZero 53 = .ok (.aload_n 0, 1) := by decide +kernel
theorem dX1_beginAtZero_54 : decode cX1_beginAtZero 54 = .ok (.getfield 17, 3) := by decide +kernel
theorem dX1_beginAtZero_57 : decode cX1_beginAtZero 57 = .ok (.iload_n 2, 1) := by decide +kernel
theorem dX1_beginAtZero_58 : decode cX1_beginAtZero 58 = .ok (.aaload, 1) := by decide +kernel
theorem dX1_beginAtZero_59 : decode cX1_beginAtZero 59 = .ok (.iload 4, 2) := by decide +kernel
theorem dX1_beginAtZero_61 : decode cX1_beginAtZero 61 = .ok (.dup2, 1) := by decide +kernel
theorem dX1_beginAtZero_62 : decode cX1_beginAtZero 62 = .ok (.iaload, 1) := by decide +kernel
theorem dX1_beginAtZero_63 : decode cX1_beginAtZero 63 = .ok (.iload_n 3, 1) := by decide +kernel
theorem dX1_beginAtZero_64 : decode cX1_beginAtZero 64 = .ok (.isub, 1) := by decide +kernel
theorem dX1_beginAtZero_65 : decode cX1_beginAtZero 65 = .ok (.iastore, 1) := by decide +kernel
theorem dX1_beginAtZero_66 : decode cX1_beginAtZero 66 = .ok (.aload_n 0, 1) := by decide +kernel
theorem dX1_beginAtZero_67 : decode cX1_beginAtZero 67 = .ok (.getfield 17, 3) := by decide +kernel
theorem dX1_beginAtZero_70 : decode cX1_beginAtZero 70 = .ok (.iload_n 1, 1) := by decide +kernel
theorem dX1_beginAtZero_71 : decode cX1_beginAtZero 71 = .ok (.aaload, 1) := by decide +kernel
theorem dX1_beginAtZero_72 : decode cX1_beginAtZero 72 = .ok (.iload 4, 2) := by decide +kernel
theorem dX1_beginAtZero_74 : decode cX1_beginAtZero 74 = .ok (.dup2, 1) := by decide +kernel
theorem dX1_beginAtZero_75 : decode cX1_beginAtZero 75 = .ok (.iaload, 1) := by decide +kernel
theorem dX1_beginAtZero_76 : decode cX1_beginAtZero 76 = .ok (.iload_n 3, 1) := by decide +kernel
theorem dX1_beginAtZero_77 : decode cX1_beginAtZero 77 = .ok (.isub, 1) := by decide +kernel
theorem dX1_beginAtZero_78 : decode cX1_beginAtZero 78 = .ok (.iastore, 1) := by decide +kernel
theorem dX1_beginAtZero_79 : decode cX1_beginAtZero 79 = .ok (.iinc 4 1, 3) := by decide +kernel
theorem dX1_beginAtZero_82 : decode cX1_beginAtZero 82 = .ok (.goto (-38), 3) := by decide +kernel
theorem dX1_beginAtZero_85 : decode cX1_beginAtZero 85 = .ok (.return_, 1) := by decide +kernel
theorem dX1_greatestOf_0 : decode cX1_greatestOf 0 = .ok (.aload_n 0, 1) := by decide +kernel
theorem dX1_greatestOf_1 : decode cX1_greatestOf 1 = .ok (.getfield 17, 3) := by decide +kernel
theorem dX1_greatestOf_4 : decode cX1_greatestOf 4 = .ok (.iload_n 1, 1) := by decide +kernel
theorem dX1_greatestOf_5 : decode cX1_greatestOf 5 = .ok (.aaload, 1) := by decide +kernel
theorem dX1_greatestOf_6 : decode cX1_greatestOf 6 = .ok (.iconst 0, 1) := by decide +kernel
theorem dX1_greatestOf_7 : decode cX1_greatestOf 7 = .ok (.iaload, 1) := by decide +kernel
theorem dX1_greatestOf_8 : decode cX1_greatestOf 8 = .ok (.istore_n 2, 1) := by decide +kernel
theorem dX1_greatestOf_9 : decode cX1_greatestOf 9 = .ok (.iconst 1, 1) := by decide +kernel
theorem dX1_greatestOf_10 : decode cX1_greatestOf 10 = .ok (.istore_n 3, 1) := by decide +kernel
theorem dX1_greatestOf_11 : decode cX1_greatestOf 11 = .ok (.iload_n 3, 1) := by decide +kernel
theorem dX1_greatestOf_12 : decode cX1_greatestOf 12 = .ok (.aload_n 0, 1) := by decide +kernel
theorem dX1_greatestOf_13 : decode cX1_greatestOf 13 = .ok (.getfield 9, 3) := by decide +kernel
theorem dX1_greatestOf_16 : decode cX1_greatestOf 16 = .ok (.if_icmp .ge 22, 3) := by decide +kernel
theorem dX1_greatestOf_19 : decode cX1_greatestOf 19 = .ok (.iload_n 2, 1) := by decide +kernel
theorem dX1_greatestOf_20 : decode cX1_greatestOf 20 = .ok (.aload_n 0, 1) := by decide +kernel
theorem dX1_greatestOf_21 : decode cX1_greatestOf 21 = .ok (.getfield 17, 3) := by decide +kernel
theorem dX1_greatestOf_24 : decode cX1_greatestOf 24 = .ok (.iload_n 1, 1) := by decide +kernel
theorem dX1_greatestOf_25 : decode cX1_greatestOf 25 = .ok (.aaload, 1) := by decide +kernel
theorem dX1_greatestOf_26 : decode cX1_greatestOf 26 = .ok (.iload_n 3, 1) := by decide +kernel
theorem dX1_greatestOf_27 : decode cX1_greatestOf 27 = .ok (.iaload, 1) := by decide +kernel
theorem dX1_greatestOf_28 : decode cX1_greatestOf 28 = .ok (.invokestatic 66, 3) := by decide +kernel
theorem dX1_greatestOf_31 : decode cX1_greatestOf 31 = .ok (.istore_n 2, 1) := by decide +kernel
theorem dX1_greatestOf_32 : decode cX1_greatestOf 32 = .ok (.iinc 3 1, 3) := by decide +kernel
theorem dX1_greatestOf_35 : decode cX1_greatestOf 35 = .ok (.goto (-24), 3) := by decide +kernel
theorem dX1_greatestOf_38 : decode cX1_greatestOf 38 = .ok (.iload_n 2, 1) := by decide +kernel
theorem dX1_greatestOf_39 : decode cX1_greatestOf 39 = .ok (.ireturn, 1) := by decide +kernel
theorem dX1_firstWithoutInside_0 : decode cX1_firstWithoutInside 0 = .ok (.iconst 0, 1) := by decide +kernel
theorem dX1_firstWithoutInside_1 : decode cX1_firstWithoutInside 1 = .ok (.istore_n 1, 1) := by decide +kernel
theorem dX1_firstWithoutInside_2 : decode cX1_firstWithoutInside 2 = .ok (.iload_n 1, 1) := by decide +kernel
theorem dX1_firstWithoutInside_3 : decode cX1_firstWithoutInside 3 = .ok (.aload_n 0, 1) := by decide +kernel
theorem dX1_firstWithoutInside_4 : decode cX1_firstWithoutInside 4 = .ok (.getfield 9, 3) := by decide +kernel
theorem dX1_firstWithoutInside_7 : decode cX1_firstWithoutInside 7 = .ok (.if_icmp .ge 49, 3) := by decide +kernel
theorem dX1_firstWithoutInside_10 : decode cX1_firstWithoutInside 10 = .ok (.aload_n 0, 1) := by decide +kernel
theorem dX1_firstWithoutInside_11 : decode cX1_firstWithoutInside 11 = .ok (.getfield 17, 3) := by decide +kernel
theorem dX1_firstWithoutInside_14 : decode cX1_firstWithoutInside 14 = .ok (.iconst 0, 1) := by decide +kernel
theorem dX1_firstWithoutInside_15 : decode cX1_firstWithoutInside 15 = .ok (.aaload, 1) := by decide +kernel
theorem dX1_firstWithoutInside_16 : decode cX1_firstWithoutInside 16 = .ok (.iload_n 1, 1) := by decide +kernel
theorem dX1_firstWithoutInside_17 : decode cX1_firstWithoutInside 17 = .ok (.iaload, 1) := by decide +kernel
theorem dX1_firstWithoutInside_18 : decode cX1_firstWithoutInside 18 = .ok (.aload_n 0, 1) := by decide +kernel
theorem dX1_firstWithoutInside_19 : decode cX1_firstWithoutInside 19 = .ok (.getfield 17, 3) := by decide +kernel
theorem dX1_firstWithoutInside_22 : decode cX1_firstWithoutInside 22 = .ok (.iconst 2, 1) := by decide +kernel
theorem dX1_firstWithoutInside_23 : decode cX1_firstWithoutInside 23 = .ok (.aaload, 1) := by decide +kernel
theorem dX1_firstWithoutInside_24 : decode cX1_firstWithoutInside 24 = .ok (.iload_n 1, 1) := by decide +kernel
theorem dX1_firstWithoutInside_25 : decode cX1_firstWithoutInside 25 = .ok (.iaload, 1) := by decide +kernel
theorem dX1_firstWithoutInside_26 : decode cX1_firstWithoutInside 26 = .ok (.if_icmp .le 22, 3) := by decide +kernel
theorem dX1_firstWithoutInside_29 : decode cX1_firstWithoutInside 29 = .ok (.aload_n 0, 1) := by decide +kernel
theorem dX1_firstWithoutInside_30 : decode cX1_firstWithoutInside 30 = .ok (.getfield 17, 3) := by decide +kernel
theorem dX1_firstWithoutInside_33 : decode cX1_firstWithoutInside 33 = .ok (.iconst 1, 1) := by decide +kernel
theorem dX1_firstWithoutInside_34 : decode cX1_firstWithoutInside 34 = .ok (.aaload, 1) := by decide +kernel
theorem dX1_firstWithoutInside_35 : decode cX1_firstWithoutInside 35 = .ok (.iload_n 1, 1) := by decide +kernel
theorem dX1_firstWithoutInside_36 : decode cX1_firstWithoutInside 36 = .ok (.iaload, 1) := by decide +kernel
theorem dX1_firstWithoutInside_37 : decode cX1_firstWithoutInside 37 = .ok (.aload_n 0, 1) := by decide +kernel
theorem dX1_firstWithoutInside_38 : decode cX1_firstWithoutInside 38 = .ok (.getfield 17, 3) := by decide +kernel
theorem dX1_firstWithoutInside_41 : decode cX1_firstWithoutInside 41 = .ok (.iconst 3, 1) := by decide +kernel
theorem dX1_firstWithoutInside_42 : decode cX1_firstWithoutInside 42 = .ok (.aaload, 1) := by decide +kernel
theorem dX1_firstWithoutInside_43 : decode cX1_firstWithoutInside 43 = .ok (.iload_n 1, 1) := by decide +kernel
theorem dX1_firstWithoutInside_44 : decode cX1_firstWithoutInside 44 = .ok (.iaload, 1) := by decide +kernel
theorem dX1_firstWithoutInside_45 : decode cX1_firstWithoutInside 45 = .ok (.if_icmp .gt 5, 3) := by decide +kernel
theorem dX1_firstWithoutInside_48 : decode cX1_firstWithoutInside 48 = .ok (.iload_n 1, 1) := by decide +kernel
theorem dX1_firstWithoutInside_49 : decode cX1_firstWithoutInside 49 = .ok (.ireturn, 1) := by decide +kernel
theorem dX1_firstWithoutInside_50 : decode cX1_firstWithoutInside 50 = .ok (.iinc 1 1, 3) := by decide +kernel
theorem dX1_firstWithoutInside_53 : decode cX1_firstWithoutInside 53 = .ok (.goto (-51), 3) := by decide +kernel
theorem dX1_firstWithoutInside_56 : decode cX1_firstWithoutInside 56 = .ok (.iconst (-1), 1) := by decide +kernel
theorem dX1_firstWithoutInside_57 : decode cX1_firstWithoutInside 57 = .ok (.ireturn, 1) := by decide +kernel
theorem dX1_firstOverlap_0 : decode cX1_firstOverlap 0 = .ok (.iload_n 1, 1) := by decide +kernel
theorem dX1_firstOverlap_1 : decode cX1_firstOverlap 1 = .ok (.iconst 1, 1) := by decide +kernel
theorem dX1_firstOverlap_2 : decode cX1_firstOverlap 2 = .ok (.iadd, 1) := by decide +kernel
theorem dX1_firstOverlap_3 : decode cX1_firstOverlap 3 = .ok (.istore_n 2, 1) := by decide +kernel
theorem dX1_firstOverlap_4 : decode cX1_firstOverlap 4 = .ok (.iload_n 2, 1) := by decide +kernel
theorem dX1_firstOverlap_5 : decode cX1_firstOverlap 5 = .ok (.aload_n 0, 1) := by decide +kernel
theorem dX1_firstOverlap_6 : decode cX1_firstOverlap 6 = .ok (.getfield 9, 3) := by decide +kernel
theorem dX1_firstOverlap_9 : decode cX1_firstOverlap 9 = .ok (.if_icmp .ge 87, 3) := by decide +kernel
theorem dX1_firstOverlap_12 : decode cX1_firstOverlap 12 = .ok (.aload_n 0, 1) := by decide +kernel
theorem dX1_firstOverlap_13 : decode cX1_firstOverlap 13 = .ok (.getfield 17, 3) := by decide +kernel
theorem dX1_firstOverlap_16 : decode cX1_firstOverlap 16 = .ok (.iconst 2, 1) := by decide +kernel
theorem dX1_firstOverlap_17 : decode cX1_firstOverlap 17 = .ok (.aaload, 1) := by decide +kernel
theorem dX1_firstOverlap_18 : decode cX1_firstOverlap 18 = .ok (.iload_n 1, 1) := by decide +kernel
theorem dX1_firstOverlap_19 : decode cX1_firstOverlap 19 = .ok (.iaload, 1) := by decide +kernel
theorem dX1_firstOverlap_20 : decode cX1_firstOverlap 20 = .ok (.aload_n 0, 1) := by decide +kernel
theorem dX1_firstOverlap_21 : decode cX1_firstOverlap 21 = .ok (.getfield 17, 3) := by decide +kernel
theorem dX1_firstOverlap_24 : decode cX1_firstOverlap 24 = .ok (.iconst 0, 1) := by decide +kernel
theorem dX1_firstOverlap_25 : decode cX1_firstOverlap 25 = .ok (.aaload, 1) := by decide +kernel
theorem dX1_firstOverlap_26 : decode cX1_firstOverlap 26 = .ok (.iload_n 2, 1) := by decide +kernel
theorem dX1_firstOverlap_27 : decode cX1_firstOverlap 27 = .ok (.iaload, 1) := by decide +kernel
theorem dX1_firstOverlap_28 : decode cX1_firstOverlap 28 = .ok (.if_icmp .ge 62, 3) := by decide +kernel
theorem dX1_firstOverlap_31 : decode cX1_firstOverlap 31 = .ok (.aload_n 0, 1) := by decide +kernel
theorem dX1_firstOverlap_32 : decode cX1_firstOverlap 32 = .ok (.getfield 17, 3) := by decide +kernel
theorem dX1_firstOverlap_35 : decode cX1_firstOverlap 35 = .ok (.iconst 2, 1) := by decide +kernel
theorem dX1_firstOverlap_36 : decode cX1_firstOverlap 36 = .ok (.aaload, 1) := by decide +kernel
theorem dX1_firstOverlap_37 : decode cX1_firstOverlap 37 = .ok (.iload_n 2, 1) := by decide +kernel
theorem dX1_firstOverlap_38 : decode cX1_firstOverlap 38 = .ok (.iaload, 1) := by decide +kernel
theorem dX1_firstOverlap_39 : decode cX1_firstOverlap 39 = .ok (.aload_n 0, 1) := by decide +kernel
theorem dX1_firstOverlap_40 : decode cX1_firstOverlap 40 = .ok (.getfield 17, 3) := by decide +kernel
theorem dX1_firstOverlap_43 : decode cX1_firstOverlap 43 = .ok (.iconst 0, 1) := by decide +kernel
theorem dX1_firstOverlap_44 : decode cX1_firstOverlap 44 = .ok (.aaload, 1) := by decide +kernel
theorem dX1_firstOverlap_45 : decode cX1_firstOverlap 45 = .ok (.iload_n 1, 1) := by decide +kernel
theorem dX1_firstOverlap_46 : decode cX1_firstOverlap 46 = .ok (.iaload, 1) := by decide +kernel
theorem dX1_firstOverlap_47 : decode cX1_firstOverlap 47 = .ok (.if_icmp .ge 43, 3) := by decide +kernel
theorem dX1_firstOverlap_50 : decode cX1_firstOverlap 50 = .ok (.aload_n 0, 1) := by decide +kernel
theorem dX1_firstOverlap_51 : decode cX1_firstOverlap 51 = .ok (.getfield 17, 3) := by decide +kernel
theorem dX1_firstOverlap_54 : decode cX1_firstOverlap 54 = .ok (.iconst 3, 1) := by decide +kernel
theorem dX1_firstOverlap_55 : decode cX1_firstOverlap 55 = .ok (.aaload, 1) := by decide +kernel
theorem dX1_firstOverlap_56 : decode cX1_firstOverlap 56 = .ok (.iload_n 1, 1) := by decide +kernel
theorem dX1_firstOverlap_57 : decode cX1_firstOverlap 57 = .ok (.iaload, 1) := by decide +kernel
theorem dX1_firstOverlap_58 : decode cX1_firstOverlap 58 = .ok (.aload_n 0, 1) := by decide +kernel
theorem dX1_firstOverlap_59 : decode cX1_firstOverlap 59 = .ok (.getfield 17, 3) := by decide +kernel
theorem dX1_firstOverlap_62 : decode cX1_firstOverlap 62 = .ok (.iconst 1, 1) := by decide +kernel
theorem dX1_firstOverlap_63 : decode cX1_firstOverlap 63 = .ok (.aaload, 1) := by decide +kernel
theorem dX1_firstOverlap_64 : decode cX1_firstOverlap 64 = .ok (.iload_n 2, 1) := by decide +kernel
theorem dX1_firstOverlap_65 : decode cX1_firstOverlap 65 = .ok (.iaload, 1) := by decide +kernel
theorem dX1_firstOverlap_66 : decode cX1_firstOverlap 66 = .ok (.if_icmp .ge 24, 3) := by decide +kernel
theorem dX1_firstOverlap_69 : decode cX1_firstOverlap 69 = .ok (.aload_n 0, 1) := by decide +kernel
theorem dX1_firstOverlap_70 : decode cX1_firstOverlap 70 = .ok (.getfield 17, 3) := by decide +kernel
theorem dX1_firstOverlap_73 : decode cX1_firstOverlap 73 = .ok (.iconst 3, 1) := by decide +kernel
theorem dX1_firstOverlap_74 : decode cX1_firstOverlap 74 = .ok (.aaload, 1) := by decide +kernel
theorem dX1_firstOverlap_75 : decode cX1_firstOverlap 75 = .ok (.iload_n 2, 1) := by decide +kernel
theorem dX1_firstOverlap_76 : decode cX1_firstOverlap 76 = .ok (.iaload, 1) := by decide +kernel
theorem dX1_firstOverlap_77 : decode cX1_firstOverlap 77 = .ok (.aload_n 0, 1) := by decide +kernel
theorem dX1_firstOverlap_78 : decode cX1_firstOverlap 78 = .ok (.getfield 17, 3) := by decide +kernel
theorem dX1_firstOverlap_81 : decode cX1_firstOverlap 81 = .ok (.iconst 1, 1) := by decide +kernel
theorem dX1_firstOverlap_82 : decode cX1_firstOverlap 82 = .ok (.aaload, 1) := by decide +kernel
theorem dX1_firstOverlap_83 : decode cX1_firstOverlap 83 = .ok (.iload_n 1, 1) := by decide +kernel
theorem dX1_firstOverlap_84 : decode cX1_firstOverlap 84 = .ok (.iaload, 1) := by decide +kernel
theorem dX1_firstOverlap_85 : decode cX1_firstOverlap 85 = .ok (.if_icmp .ge 5, 3) := by decide +kernel
theorem dX1_firstOverlap_88 : decode cX1_firstOverlap 88 = .ok (.iload_n 2, 1) := by decide +kernel
theorem dX1_firstOverlap_89 : decode cX1_firstOverlap 89 = .ok (.ireturn, 1) := by decide +kernel
theorem dX1_firstOverlap_90 : decode cX1_firstOverlap 90 = .ok (.iinc 2 1, 3) := by decide +kernel
theorem dX1_firstOverlap_93 : decode cX1_firstOverlap 93 = .ok (.goto (-89), 3) := by decide +kernel
theorem dX1_firstOverlap_96 : decode cX1_firstOverlap 96 = .ok (.iconst (-1), 1) := by decide +kernel
theorem dX1_firstOverlap_97 : decode cX1_firstOverlap 97 = .ok (.ireturn, 1) := by decide +kernel
theorem dX2_init_0 : decode cX2_init 0 = .ok (.aload_n 0, 1) := by decide +kernel
theorem dX2_init_1 : decode cX2_init 1 = .ok (.invokespecial 3, 3) := by decide +kernel
theorem dX2_init_4 : decode cX2_init 4 = .ok (.aload_n 0, 1) := by decide +kernel
theorem dX2_init_5 : decode cX2_init 5 = .ok (.iconst 0, 1) := by decide +kernel
theorem dX2_init_6 : decode cX2_init 6 = .ok (.putfield 9, 3) := by decide +kernel
theorem dX2_init_9 : decode cX2_init 9 = .ok (.aload_n 0, 1) := by decide +kernel
theorem dX2_init_10 : decode cX2_init 10 = .ok (.bipush 13, 2) := by decide +kernel
theorem dX2_init_12 : decode cX2_init 12 = .ok (.newarray .int, 2) := by decide +kernel
theorem dX2_init_14 : decode cX2_init 14 = .ok (.putfield 15, 3) := by decide +kernel
theorem dX2_init_17 : decode cX2_init 17 = .ok (.aload_n 0, 1) := by decide +kernel
theorem dX2_init_18 : decode cX2_init 18 = .ok (.bipush 13, 2) := by decide +kernel
theorem dX2_init_20 : decode cX2_init 20 = .ok (.newarray .int, 2) := by decide +kernel
theorem dX2_init_22 : decode cX2_init 22 = .ok (.putfield 19, 3) := by decide +kernel
theorem dX2_init_25 : decode cX2_init 25 = .ok (.aload_n 0, 1) := by decide +kernel
theorem dX2_init_26 : decode cX2_init 26 = .ok (.bipush 13, 2) := by decide +kernel
theorem dX2_init_28 : decode cX2_init 28 = .ok (.newarray .boolean, 2) := by decide +kernel
theorem dX2_init_30 : decode cX2_init 30 = .ok (.putfield 22, 3) := by decide +kernel
theorem dX2_init_33 : decode cX2_init 33 = .ok (.aload_n 0, 1) := by decide +kernel
theorem dX2_init_34 : decode cX2_init 34 = .ok (.bipush 13, 2) := by decide +kernel
theorem dX2_init_36 : decode cX2_init 36 = .ok (.newarray .int, 2) := by decide +kernel
theorem dX2_init_38 : decode cX2_init 38 = .ok (.putfield 26, 3) := by decide +kernel
theorem dX2_init_41 : decode cX2_init 41 = .ok (.aload_n 0, 1) := by decide +kernel
theorem dX2_init_42 : decode cX2_init 42 = .ok (.iconst 4, 1) := by decide +kernel
theorem dX2_init_43 : decode cX2_init 43 = .ok (.bipush 13, 2) := by decide +kernel
theorem dX2_init_45 : decode cX2_init 45 = .ok (.multianewarray 29 2, 4) := by decide +kernel
theorem dX2_init_49 : decode cX2_init 49 = .ok (.putfield 31, 3) := by decide +kernel
theorem dX2_init_52 : decode cX2_init 52 = .ok (.return_, 1) := by decide +kernel
theorem dX2_startAnew_0 : decode cX2_startAnew 0 = .ok (.aload_n 0, 1) := by decide +kernel
theorem dX2_startAnew_1 : decode cX2_startAnew 1 = .ok (.iconst 1, 1) := by decide +kernel
theorem dX2_startAnew_2 : decode cX2_startAnew 2 = .ok (.putfield 9, 3) := by decide +kernel
theorem dX2_startAnew_5 : decode cX2_startAnew 5 = .ok (.aload_n 0, 1) := by decide +kernel
theorem dX2_startAnew_6 : decode cX2_startAnew 6 = .ok (.getfield 15, 3) := by decide +kernel
theorem dX2_startAnew_9 : decode cX2_startAnew 9 = .ok (.iconst 0, 1) := by decide +kernel
