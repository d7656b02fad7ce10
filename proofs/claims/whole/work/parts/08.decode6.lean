theorem dX5_isClear_106 : decode cX5_isClear 106 = .ok (.goto 4, 3) := by decide +kernel
theorem dX5_isClear_109 : decode cX5_isClear 109 = .ok (.iconst 0, 1) := by decide +kernel
theorem dX5_isClear_110 : decode cX5_isClear 110 = .ok (.istore 7, 2) := by decide +kernel
theorem dX5_isClear_112 : decode cX5_isClear 112 = .ok (.iload 6, 2) := by decide +kernel
theorem dX5_isClear_114 : decode cX5_isClear 114 = .ok (.ifCond .eq 23, 3) := by decide +kernel
theorem dX5_isClear_117 : decode cX5_isClear 117 = .ok (.iload 7, 2) := by decide +kernel
theorem dX5_isClear_119 : decode cX5_isClear 119 = .ok (.ifCond .ne 18, 3) := by decide +kernel
theorem dX5_isClear_122 : decode cX5_isClear 122 = .ok (.aload_n 0, 1) := by decide +kernel
theorem dX5_isClear_123 : decode cX5_isClear 123 = .ok (.iload_n 1, 1) := by decide +kernel
theorem dX5_isClear_124 : decode cX5_isClear 124 = .ok (.iload 4, 2) := by decide +kernel
theorem dX5_isClear_126 : decode cX5_isClear 126 = .ok (.iload 5, 2) := by decide +kernel
theorem dX5_isClear_128 : decode cX5_isClear 128 = .ok (.iload_n 3, 1) := by decide +kernel
theorem dX5_isClear_129 : decode cX5_isClear 129 = .ok (.invokevirtual 176, 3) := by decide +kernel
theorem dX5_isClear_132 : decode cX5_isClear 132 = .ok (.ifCond .eq 5, 3) := by decide +kernel
theorem dX5_isClear_135 : decode cX5_isClear 135 = .ok (.iconst 0, 1) := by decide +kernel
theorem dX5_isClear_136 : decode cX5_isClear 136 = .ok (.ireturn, 1) := by decide +kernel
theorem dX5_isClear_137 : decode cX5_isClear 137 = .ok (.iinc 5 1, 3) := by decide +kernel
theorem dX5_isClear_140 : decode cX5_isClear 140 = .ok (.goto (-104), 3) := by decide +kernel
theorem dX5_isClear_143 : decode cX5_isClear 143 = .ok (.iinc 4 1, 3) := by decide +kernel
theorem dX5_isClear_146 : decode cX5_isClear 146 = .ok (.goto (-122), 3) := by decide +kernel
theorem dX5_isClear_149 : decode cX5_isClear 149 = .ok (.iconst 1, 1) := by decide +kernel
theorem dX5_isClear_150 : decode cX5_isClear 150 = .ok (.ireturn, 1) := by decide +kernel
theorem dX5_mayTurn_0 : decode cX5_mayTurn 0 = .ok (.aload_n 0, 1) := by decide +kernel
theorem dX5_mayTurn_1 : decode cX5_mayTurn 1 = .ok (.iload_n 1, 1) := by decide +kernel
theorem dX5_mayTurn_2 : decode cX5_mayTurn 2 = .ok (.invokevirtual 104, 3) := by decide +kernel
theorem dX5_mayTurn_5 : decode cX5_mayTurn 5 = .ok (.ifCond .eq 23, 3) := by decide +kernel
theorem dX5_mayTurn_8 : decode cX5_mayTurn 8 = .ok (.aload_n 0, 1) := by decide +kernel
theorem dX5_mayTurn_9 : decode cX5_mayTurn 9 = .ok (.iload_n 2, 1) := by decide +kernel
theorem dX5_mayTurn_10 : decode cX5_mayTurn 10 = .ok (.invokevirtual 124, 3) := by decide +kernel
theorem dX5_mayTurn_13 : decode cX5_mayTurn 13 = .ok (.ifCond .eq 15, 3) := by decide +kernel
theorem dX5_mayTurn_16 : decode cX5_mayTurn 16 = .ok (.iload_n 1, 1) := by decide +kernel
theorem dX5_mayTurn_17 : decode cX5_mayTurn 17 = .ok (.iload_n 2, 1) := by decide +kernel
theorem dX5_mayTurn_18 : decode cX5_mayTurn 18 = .ok (.ishr, 1) := by decide +kernel
theorem dX5_mayTurn_19 : decode cX5_mayTurn 19 = .ok (.iconst 1, 1) := by decide +kernel
theorem dX5_mayTurn_20 : decode cX5_mayTurn 20 = .ok (.iand, 1) := by decide +kernel
theorem dX5_mayTurn_21 : decode cX5_mayTurn 21 = .ok (.ifCond .ne 7, 3) := by decide +kernel
theorem dX5_mayTurn_24 : decode cX5_mayTurn 24 = .ok (.iconst 1, 1) := by decide +kernel
theorem dX5_mayTurn_25 : decode cX5_mayTurn 25 = .ok (.goto 4, 3) := by decide +kernel
theorem dX5_mayTurn_28 : decode cX5_mayTurn 28 = .ok (.iconst 0, 1) := by decide +kernel
theorem dX5_mayTurn_29 : decode cX5_mayTurn 29 = .ok (.ireturn, 1) := by decide +kernel
theorem dX5_clear_0 : decode cX5_clear 0 = .ok (.aload_n 0, 1) := by decide +kernel
theorem dX5_clear_1 : decode cX5_clear 1 = .ok (.iconst 0, 1) := by decide +kernel
theorem dX5_clear_2 : decode cX5_clear 2 = .ok (.putfield 64, 3) := by decide +kernel
theorem dX5_clear_5 : decode cX5_clear 5 = .ok (.aload_n 0, 1) := by decide +kernel
theorem dX5_clear_6 : decode cX5_clear 6 = .ok (.iload_n 1, 1) := by decide +kernel
theorem dX5_clear_7 : decode cX5_clear 7 = .ok (.iload_n 2, 1) := by decide +kernel
theorem dX5_clear_8 : decode cX5_clear 8 = .ok (.invokevirtual 180, 3) := by decide +kernel
theorem dX5_clear_11 : decode cX5_clear 11 = .ok (.ifCond .ne 5, 3) := by decide +kernel
theorem dX5_clear_14 : decode cX5_clear 14 = .ok (.iconst (-1), 1) := by decide +kernel
theorem dX5_clear_15 : decode cX5_clear 15 = .ok (.ireturn, 1) := by decide +kernel
theorem dX5_clear_16 : decode cX5_clear 16 = .ok (.aload_n 0, 1) := by decide +kernel
theorem dX5_clear_17 : decode cX5_clear 17 = .ok (.iload_n 1, 1) := by decide +kernel
theorem dX5_clear_18 : decode cX5_clear 18 = .ok (.invokevirtual 110, 3) := by decide +kernel
theorem dX5_clear_21 : decode cX5_clear 21 = .ok (.aload_n 0, 1) := by decide +kernel
theorem dX5_clear_22 : decode cX5_clear 22 = .ok (.iload_n 2, 1) := by decide +kernel
theorem dX5_clear_23 : decode cX5_clear 23 = .ok (.invokevirtual 183, 3) := by decide +kernel
theorem dX5_clear_26 : decode cX5_clear 26 = .ok (.ifCond .eq 7, 3) := by decide +kernel
theorem dX5_clear_29 : decode cX5_clear 29 = .ok (.iconst 1, 1) := by decide +kernel
theorem dX5_clear_30 : decode cX5_clear 30 = .ok (.goto 4, 3) := by decide +kernel
theorem dX5_clear_33 : decode cX5_clear 33 = .ok (.iconst 0, 1) := by decide +kernel
theorem dX5_clear_34 : decode cX5_clear 34 = .ok (.ireturn, 1) := by decide +kernel
theorem dX5_edgeOf_0 : decode cX5_edgeOf 0 = .ok (.aload_n 0, 1) := by decide +kernel
theorem dX5_edgeOf_1 : decode cX5_edgeOf 1 = .ok (.iload_n 1, 1) := by decide +kernel
theorem dX5_edgeOf_2 : decode cX5_edgeOf 2 = .ok (.invokevirtual 162, 3) := by decide +kernel
theorem dX5_edgeOf_5 : decode cX5_edgeOf 5 = .ok (.istore_n 2, 1) := by decide +kernel
theorem dX5_edgeOf_6 : decode cX5_edgeOf 6 = .ok (.iconst 0, 1) := by decide +kernel
theorem dX5_edgeOf_7 : decode cX5_edgeOf 7 = .ok (.istore_n 3, 1) := by decide +kernel
theorem dX5_edgeOf_8 : decode cX5_edgeOf 8 = .ok (.iload_n 3, 1) := by decide +kernel
theorem dX5_edgeOf_9 : decode cX5_edgeOf 9 = .ok (.aload_n 0, 1) := by decide +kernel
theorem dX5_edgeOf_10 : decode cX5_edgeOf 10 = .ok (.getfield 73, 3) := by decide +kernel
theorem dX5_edgeOf_13 : decode cX5_edgeOf 13 = .ok (.if_icmp .ge 150, 3) := by decide +kernel
theorem dX5_edgeOf_16 : decode cX5_edgeOf 16 = .ok (.iconst 0, 1) := by decide +kernel
theorem dX5_edgeOf_17 : decode cX5_edgeOf 17 = .ok (.istore 4, 2) := by decide +kernel
theorem dX5_edgeOf_19 : decode cX5_edgeOf 19 = .ok (.iload 4, 2) := by decide +kernel
theorem dX5_edgeOf_21 : decode cX5_edgeOf 21 = .ok (.iconst 4, 1) := by decide +kernel
theorem dX5_edgeOf_22 : decode cX5_edgeOf 22 = .ok (.if_icmp .ge 135, 3) := by decide +kernel
theorem dX5_edgeOf_25 : decode cX5_edgeOf 25 = .ok (.iload 4, 2) := by decide +kernel
theorem dX5_edgeOf_27 : decode cX5_edgeOf 27 = .ok (.iconst 2, 1) := by decide +kernel
theorem dX5_edgeOf_28 : decode cX5_edgeOf 28 = .ok (.irem, 1) := by decide +kernel
theorem dX5_edgeOf_29 : decode cX5_edgeOf 29 = .ok (.ifCond .ne 7, 3) := by decide +kernel
theorem dX5_edgeOf_32 : decode cX5_edgeOf 32 = .ok (.iconst 1, 1) := by decide +kernel
theorem dX5_edgeOf_33 : decode cX5_edgeOf 33 = .ok (.goto 4, 3) := by decide +kernel
theorem dX5_edgeOf_36 : decode cX5_edgeOf 36 = .ok (.iconst 0, 1) := by decide +kernel
theorem dX5_edgeOf_37 : decode cX5_edgeOf 37 = .ok (.istore 5, 2) := by decide +kernel
theorem dX5_edgeOf_39 : decode cX5_edgeOf 39 = .ok (.iload 5, 2) := by decide +kernel
theorem dX5_edgeOf_41 : decode cX5_edgeOf 41 = .ok (.ifCond .eq 27, 3) := by decide +kernel
theorem dX5_edgeOf_44 : decode cX5_edgeOf 44 = .ok (.aload_n 0, 1) := by decide +kernel
theorem dX5_edgeOf_45 : decode cX5_edgeOf 45 = .ok (.getfield 24, 3) := by decide +kernel
theorem dX5_edgeOf_48 : decode cX5_edgeOf 48 = .ok (.iconst 4, 1) := by decide +kernel
theorem dX5_edgeOf_49 : decode cX5_edgeOf 49 = .ok (.iload_n 3, 1) := by decide +kernel
theorem dX5_edgeOf_50 : decode cX5_edgeOf 50 = .ok (.imul, 1) := by decide +kernel
theorem dX5_edgeOf_51 : decode cX5_edgeOf 51 = .ok (.iconst 3, 1) := by decide +kernel
theorem dX5_edgeOf_52 : decode cX5_edgeOf 52 = .ok (.iadd, 1) := by decide +kernel
theorem dX5_edgeOf_53 : decode cX5_edgeOf 53 = .ok (.iaload, 1) := by decide +kernel
theorem dX5_edgeOf_54 : decode cX5_edgeOf 54 = .ok (.aload_n 0, 1) := by decide +kernel
theorem dX5_edgeOf_55 : decode cX5_edgeOf 55 = .ok (.getfield 24, 3) := by decide +kernel
theorem dX5_edgeOf_58 : decode cX5_edgeOf 58 = .ok (.iconst 4, 1) := by decide +kernel
theorem dX5_edgeOf_59 : decode cX5_edgeOf 59 = .ok (.iload_n 3, 1) := by decide +kernel
theorem dX5_edgeOf_60 : decode cX5_edgeOf 60 = .ok (.imul, 1) := by decide +kernel
theorem dX5_edgeOf_61 : decode cX5_edgeOf 61 = .ok (.iconst 1, 1) := by decide +kernel
theorem dX5_edgeOf_62 : decode cX5_edgeOf 62 = .ok (.iadd, 1) := by decide +kernel
theorem dX5_edgeOf_63 : decode cX5_edgeOf 63 = .ok (.iaload, 1) := by decide +kernel
theorem dX5_edgeOf_64 : decode cX5_edgeOf 64 = .ok (.isub, 1) := by decide +kernel
theorem dX5_edgeOf_65 : decode cX5_edgeOf 65 = .ok (.goto 22, 3) := by decide +kernel
theorem dX5_edgeOf_68 : decode cX5_edgeOf 68 = .ok (.aload_n 0, 1) := by decide +kernel
theorem dX5_edgeOf_69 : decode cX5_edgeOf 69 = .ok (.getfield 24, 3) := by decide +kernel
theorem dX5_edgeOf_72 : decode cX5_edgeOf 72 = .ok (.iconst 4, 1) := by decide +kernel
theorem dX5_edgeOf_73 : decode cX5_edgeOf 73 = .ok (.iload_n 3, 1) := by decide +kernel
theorem dX5_edgeOf_74 : decode cX5_edgeOf 74 = .ok (.imul, 1) := by decide +kernel
theorem dX5_edgeOf_75 : decode cX5_edgeOf 75 = .ok (.iconst 2, 1) := by decide +kernel
theorem dX5_edgeOf_76 : decode cX5_edgeOf 76 = .ok (.iadd, 1) := by decide +kernel
theorem dX5_edgeOf_77 : decode cX5_edgeOf 77 = .ok (.iaload, 1) := by decide +kernel
theorem dX5_edgeOf_78 : decode cX5_edgeOf 78 = .ok (.aload_n 0, 1) := by decide +kernel
theorem dX5_edgeOf_79 : decode cX5_edgeOf 79 = .ok (.getfield 24, 3) := by decide +kernel
theorem dX5_edgeOf_82 : decode cX5_edgeOf 82 = .ok (.iconst 4, 1) := by decide +kernel
theorem dX5_edgeOf_83 : decode cX5_edgeOf 83 = .ok (.iload_n 3, 1) := by decide +kernel
theorem dX5_edgeOf_84 : decode cX5_edgeOf 84 = .ok (.imul, 1) := by decide +kernel
theorem dX5_edgeOf_85 : decode cX5_edgeOf 85 = .ok (.iaload, 1) := by decide +kernel
theorem dX5_edgeOf_86 : decode cX5_edgeOf 86 = .ok (.isub, 1) := by decide +kernel
theorem dX5_edgeOf_87 : decode cX5_edgeOf 87 = .ok (.istore 6, 2) := by decide +kernel
theorem dX5_edgeOf_89 : decode cX5_edgeOf 89 = .ok (.iload 5, 2) := by decide +kernel
theorem dX5_edgeOf_91 : decode cX5_edgeOf 91 = .ok (.ifCond .eq 16, 3) := by decide +kernel
theorem dX5_edgeOf_94 : decode cX5_edgeOf 94 = .ok (.aload_n 0, 1) := by decide +kernel
theorem dX5_edgeOf_95 : decode cX5_edgeOf 95 = .ok (.getfield 42, 3) := by decide +kernel
theorem dX5_edgeOf_98 : decode cX5_edgeOf 98 = .ok (.iconst 3, 1) := by decide +kernel
theorem dX5_edgeOf_99 : decode cX5_edgeOf 99 = .ok (.iload_n 3, 1) := by decide +kernel
theorem dX5_edgeOf_100 : decode cX5_edgeOf 100 = .ok (.imul, 1) := by decide +kernel
theorem dX5_edgeOf_101 : decode cX5_edgeOf 101 = .ok (.invokestatic 158, 3) := by decide +kernel
theorem dX5_edgeOf_104 : decode cX5_edgeOf 104 = .ok (.goto 13, 3) := by decide +kernel
theorem dX5_edgeOf_107 : decode cX5_edgeOf 107 = .ok (.aload_n 0, 1) := by decide +kernel
theorem dX5_edgeOf_108 : decode cX5_edgeOf 108 = .ok (.getfield 39, 3) := by decide +kernel
theorem dX5_edgeOf_111 : decode cX5_edgeOf 111 = .ok (.iconst 3, 1) := by decide +kernel
theorem dX5_edgeOf_112 : decode cX5_edgeOf 112 = .ok (.iload_n 3, 1) := by decide +kernel
theorem dX5_edgeOf_113 : decode cX5_edgeOf 113 = .ok (.imul, 1) := by decide +kernel
theorem dX5_edgeOf_114 : decode cX5_edgeOf 114 = .ok (.invokestatic 158, 3) := by decide +kernel
theorem dX5_edgeOf_117 : decode cX5_edgeOf 117 = .ok (.istore 7, 2) := by decide +kernel
theorem dX5_edgeOf_119 : decode cX5_edgeOf 119 = .ok (.aload_n 0, 1) := by decide +kernel
theorem dX5_edgeOf_120 : decode cX5_edgeOf 120 = .ok (.iload_n 3, 1) := by decide +kernel
theorem dX5_edgeOf_121 : decode cX5_edgeOf 121 = .ok (.iload 4, 2) := by decide +kernel
theorem dX5_edgeOf_123 : decode cX5_edgeOf 123 = .ok (.invokevirtual 89, 3) := by decide +kernel
theorem dX5_edgeOf_126 : decode cX5_edgeOf 126 = .ok (.ifCond .ne 25, 3) := by decide +kernel
theorem dX5_edgeOf_129 : decode cX5_edgeOf 129 = .ok (.iload 6, 2) := by decide +kernel
theorem dX5_edgeOf_131 : decode cX5_edgeOf 131 = .ok (.aload_n 0, 1) := by decide +kernel
theorem dX5_edgeOf_132 : decode cX5_edgeOf 132 = .ok (.getfield 7, 3) := by decide +kernel
theorem dX5_edgeOf_135 : decode cX5_edgeOf 135 = .ok (.if_icmp .lt 16, 3) := by decide +kernel
theorem dX5_edgeOf_138 : decode cX5_edgeOf 138 = .ok (.iload 7, 2) := by decide +kernel
theorem dX5_edgeOf_140 : decode cX5_edgeOf 140 = .ok (.iload_n 2, 1) := by decide +kernel
theorem dX5_edgeOf_141 : decode cX5_edgeOf 141 = .ok (.if_icmp .ne 10, 3) := by decide +kernel
theorem dX5_edgeOf_144 : decode cX5_edgeOf 144 = .ok (.iconst 4, 1) := by decide +kernel
theorem dX5_edgeOf_145 : decode cX5_edgeOf 145 = .ok (.iload_n 3, 1) := by decide +kernel
theorem dX5_edgeOf_146 : decode cX5_edgeOf 146 = .ok (.imul, 1) := by decide +kernel
theorem dX5_edgeOf_147 : decode cX5_edgeOf 147 = .ok (.iload 4, 2) := by decide +kernel
theorem dX5_edgeOf_149 : decode cX5_edgeOf 149 = .ok (.iadd, 1) := by decide +kernel
theorem dX5_edgeOf_150 : decode cX5_edgeOf 150 = .ok (.ireturn, 1) := by decide +kernel
theorem dX5_edgeOf_151 : decode cX5_edgeOf 151 = .ok (.iinc 4 1, 3) := by decide +kernel
theorem dX5_edgeOf_154 : decode cX5_edgeOf 154 = .ok (.goto (-135), 3) := by decide +kernel
theorem dX5_edgeOf_157 : decode cX5_edgeOf 157 = .ok (.iinc 3 1, 3) := by decide +kernel
theorem dX5_edgeOf_160 : decode cX5_edgeOf 160 = .ok (.goto (-152), 3) := by decide +kernel
theorem dX5_edgeOf_163 : decode cX5_edgeOf 163 = .ok (.iconst (-1), 1) := by decide +kernel
theorem dX5_edgeOf_164 : decode cX5_edgeOf 164 = .ok (.ireturn, 1) := by decide +kernel
theorem dX5_edge_0 : decode cX5_edge 0 = .ok (.aload_n 0, 1) := by decide +kernel
theorem dX5_edge_1 : decode cX5_edge 1 = .ok (.iconst 0, 1) := by decide +kernel
theorem dX5_edge_2 : decode cX5_edge 2 = .ok (.putfield 64, 3) := by decide +kernel
theorem dX5_edge_5 : decode cX5_edge 5 = .ok (.aload_n 0, 1) := by decide +kernel
theorem dX5_edge_6 : decode cX5_edge 6 = .ok (.iload_n 1, 1) := by decide +kernel
theorem dX5_edge_7 : decode cX5_edge 7 = .ok (.iload_n 2, 1) := by decide +kernel
theorem dX5_edge_8 : decode cX5_edge 8 = .ok (.invokevirtual 180, 3) := by decide +kernel
theorem dX5_edge_11 : decode cX5_edge 11 = .ok (.ifCond .ne 5, 3) := by decide +kernel
theorem dX5_edge_14 : decode cX5_edge 14 = .ok (.iconst (-1), 1) := by decide +kernel
theorem dX5_edge_15 : decode cX5_edge 15 = .ok (.ireturn, 1) := by decide +kernel
theorem dX5_edge_16 : decode cX5_edge 16 = .ok (.aload_n 0, 1) := by decide +kernel
theorem dX5_edge_17 : decode cX5_edge 17 = .ok (.iload_n 1, 1) := by decide +kernel
theorem dX5_edge_18 : decode cX5_edge 18 = .ok (.invokevirtual 110, 3) := by decide +kernel
theorem dX5_edge_21 : decode cX5_edge 21 = .ok (.aload_n 0, 1) := by decide +kernel
theorem dX5_edge_22 : decode cX5_edge 22 = .ok (.iload_n 2, 1) := by decide +kernel
theorem dX5_edge_23 : decode cX5_edge 23 = .ok (.invokevirtual 186, 3) := by decide +kernel
theorem dX5_edge_26 : decode cX5_edge 26 = .ok (.ireturn, 1) := by decide +kernel
theorem dX5_know_0 : decode cX5_know 0 = .ok (.aload_n 0, 1) := by decide +kernel
theorem dX5_know_1 : decode cX5_know 1 = .ok (.getfield 76, 3) := by decide +kernel
theorem dX5_know_4 : decode cX5_know 4 = .ok (.ifCond .eq 4, 3) := by decide +kernel
theorem dX5_know_7 : decode cX5_know 7 = .ok (.return_, 1) := by decide +kernel
theorem dX5_know_8 : decode cX5_know 8 = .ok (.aload_n 0, 1) := by decide +kernel
theorem dX5_know_9 : decode cX5_know 9 = .ok (.iconst 1, 1) := by decide +kernel
theorem dX5_know_10 : decode cX5_know 10 = .ok (.putfield 76, 3) := by decide +kernel
theorem dX5_know_13 : decode cX5_know 13 = .ok (.aload_n 0, 1) := by decide +kernel
theorem dX5_know_14 : decode cX5_know 14 = .ok (.iconst 0, 1) := by decide +kernel
theorem dX5_know_15 : decode cX5_know 15 = .ok (.putfield 189, 3) := by decide +kernel
theorem dX5_know_18 : decode cX5_know 18 = .ok (.iconst 1, 1) := by decide +kernel
theorem dX5_know_19 : decode cX5_know 19 = .ok (.aload_n 0, 1) := by decide +kernel
theorem dX5_know_20 : decode cX5_know 20 = .ok (.getfield 73, 3) := by decide +kernel
theorem dX5_know_23 : decode cX5_know 23 = .ok (.ishl, 1) := by decide +kernel
theorem dX5_know_24 : decode cX5_know 24 = .ok (.iconst 2, 1) := by decide +kernel
theorem dX5_know_25 : decode cX5_know 25 = .ok (.isub, 1) := by decide +kernel
theorem dX5_know_26 : decode cX5_know 26 = .ok (.istore_n 1, 1) := by decide +kernel
theorem dX5_know_27 : decode cX5_know 27 = .ok (.iload_n 1, 1) := by decide +kernel
theorem dX5_know_28 : decode cX5_know 28 = .ok (.istore_n 2, 1) := by decide +kernel
theorem dX5_know_29 : decode cX5_know 29 = .ok (.iload_n 2, 1) := by decide +kernel
theorem dX5_know_30 : decode cX5_know 30 = .ok (.ifCond .lt 128, 3) := by decide +kernel
theorem dX5_know_33 : decode cX5_know 33 = .ok (.iload_n 2, 1) := by decide +kernel
theorem dX5_know_34 : decode cX5_know 34 = .ok (.iload_n 1, 1) := by decide +kernel
theorem dX5_know_35 : decode cX5_know 35 = .ok (.if_icmp .ne 7, 3) := by decide +kernel
theorem dX5_know_38 : decode cX5_know 38 = .ok (.iconst 1, 1) := by decide +kernel
theorem dX5_know_39 : decode cX5_know 39 = .ok (.goto 4, 3) := by decide +kernel
theorem dX5_know_42 : decode cX5_know 42 = .ok (.iconst 0, 1) := by decide +kernel
theorem dX5_know_43 : decode cX5_know 43 = .ok (.istore_n 3, 1) := by decide +kernel
theorem dX5_know_44 : decode cX5_know 44 = .ok (.iload_n 3, 1) := by decide +kernel
theorem dX5_know_45 : decode cX5_know 45 = .ok (.ifCond .ne 8, 3) := by decide +kernel
theorem dX5_know_48 : decode cX5_know 48 = .ok (.aload_n 0, 1) := by decide +kernel
theorem dX5_know_49 : decode cX5_know 49 = .ok (.iload_n 2, 1) := by decide +kernel
theorem dX5_know_50 : decode cX5_know 50 = .ok (.invokevirtual 110, 3) := by decide +kernel
theorem dX5_know_53 : decode cX5_know 53 = .ok (.iconst 1, 1) := by decide +kernel
theorem dX5_know_54 : decode cX5_know 54 = .ok (.istore 4, 2) := by decide +kernel
theorem dX5_know_56 : decode cX5_know 56 = .ok (.iload 4, 2) := by decide +kernel
theorem dX5_know_58 : decode cX5_know 58 = .ok (.aload_n 0, 1) := by decide +kernel
theorem dX5_know_59 : decode cX5_know 59 = .ok (.getfield 73, 3) := by decide +kernel
theorem dX5_know_62 : decode cX5_know 62 = .ok (.if_icmp .ge 63, 3) := by decide +kernel
theorem dX5_know_65 : decode cX5_know 65 = .ok (.iload_n 3, 1) := by decide +kernel
theorem dX5_know_66 : decode cX5_know 66 = .ok (.ifCond .ne 59, 3) := by decide +kernel
theorem dX5_know_69 : decode cX5_know 69 = .ok (.iload_n 2, 1) := by decide +kernel
theorem dX5_know_70 : decode cX5_know 70 = .ok (.iload 4, 2) := by decide +kernel
theorem dX5_know_72 : decode cX5_know 72 = .ok (.ishr, 1) := by decide +kernel
theorem dX5_know_73 : decode cX5_know 73 = .ok (.iconst 1, 1) := by decide +kernel
theorem dX5_know_74 : decode cX5_know 74 = .ok (.iand, 1) := by decide +kernel
theorem dX5_know_75 : decode cX5_know 75 = .ok (.ifCond .ne 42, 3) := by decide +kernel
theorem dX5_know_78 : decode cX5_know 78 = .ok (.aload_n 0, 1) := by decide +kernel
theorem dX5_know_79 : decode cX5_know 79 = .ok (.getfield 51, 3) := by decide +kernel
theorem dX5_know_82 : decode cX5_know 82 = .ok (.iload_n 2, 1) := by decide +kernel
theorem dX5_know_83 : decode cX5_know 83 = .ok (.iconst 1, 1) := by decide +kernel
theorem dX5_know_84 : decode cX5_know 84 = .ok (.iload 4, 2) := by decide +kernel
theorem dX5_know_86 : decode cX5_know 86 = .ok (.ishl, 1) := by decide +kernel
theorem dX5_know_87 : decode cX5_know 87 = .ok (.ior, 1) := by decide +kernel
theorem dX5_know_88 : decode cX5_know 88 = .ok (.iconst 2, 1) := by decide +kernel
theorem dX5_know_89 : decode cX5_know 89 = .ok (.idiv, 1) := by decide +kernel
theorem dX5_know_90 : decode cX5_know 90 = .ok (.baload, 1) := by decide +kernel
theorem dX5_know_91 : decode cX5_know 91 = .ok (.ifCond .eq 26, 3) := by decide +kernel
theorem dX5_know_94 : decode cX5_know 94 = .ok (.aload_n 0, 1) := by decide +kernel
theorem dX5_know_95 : decode cX5_know 95 = .ok (.iload 4, 2) := by decide +kernel
theorem dX5_know_97 : decode cX5_know 97 = .ok (.invokevirtual 183, 3) := by decide +kernel
theorem dX5_know_100 : decode cX5_know 100 = .ok (.ifCond .eq 17, 3) := by decide +kernel
theorem dX5_know_103 : decode cX5_know 103 = .ok (.aload_n 0, 1) := by decide +kernel
theorem dX5_know_104 : decode cX5_know 104 = .ok (.iload 4, 2) := by decide +kernel
theorem dX5_know_106 : decode cX5_know 106 = .ok (.invokevirtual 186, 3) := by decide +kernel
theorem dX5_know_109 : decode cX5_know 109 = .ok (.iconst (-1), 1) := by decide +kernel
theorem dX5_know_110 : decode cX5_know 110 = .ok (.if_icmp .eq 7, 3) := by decide +kernel
theorem dX5_know_113 : decode cX5_know 113 = .ok (.iconst 1, 1) := by decide +kernel
theorem dX5_know_114 : decode cX5_know 114 = .ok (.goto 4, 3) := by decide +kernel
theorem dX5_know_117 : decode cX5_know 117 = .ok (.iconst 0, 1) := by decide +kernel
theorem dX5_know_118 : decode cX5_know 118 = .ok (.istore_n 3, 1) := by decide +kernel
theorem dX5_know_119 : decode cX5_know 119 = .ok (.iinc 4 1, 3) := by decide +kernel
theorem dX5_know_122 : decode cX5_know 122 = .ok (.goto (-66), 3) := by decide +kernel
theorem dX5_know_125 : decode cX5_know 125 = .ok (.aload_n 0, 1) := by decide +kernel
theorem dX5_know_126 : decode cX5_know 126 = .ok (.getfield 51, 3) := by decide +kernel
theorem dX5_know_129 : decode cX5_know 129 = .ok (.iload_n 2, 1) := by decide +kernel
theorem dX5_know_130 : decode cX5_know 130 = .ok (.iconst 2, 1) := by decide +kernel
theorem dX5_know_131 : decode cX5_know 131 = .ok (.idiv, 1) := by decide +kernel
theorem dX5_know_132 : decode cX5_know 132 = .ok (.iload_n 3, 1) := by decide +kernel
theorem dX5_know_133 : decode cX5_know 133 = .ok (.bastore, 1) := by decide +kernel
theorem dX5_know_134 : decode cX5_know 134 = .ok (.aload_n 0, 1) := by decide +kernel
theorem dX5_know_135 : decode cX5_know 135 = .ok (.dup, 1) := by decide +kernel
theorem dX5_know_136 : decode cX5_know 136 = .ok (.getfield 189, 3) := by decide +kernel
theorem dX5_know_139 : decode cX5_know 139 = .ok (.iload_n 3, 1) := by decide +kernel
theorem dX5_know_140 : decode cX5_know 140 = .ok (.ifCond .eq 7, 3) := by decide +kernel
theorem dX5_know_143 : decode cX5_know 143 = .ok (.iconst 1, 1) := by decide +kernel
theorem dX5_know_144 : decode cX5_know 144 = .ok (.goto 4, 3) := by decide +kernel
theorem dX5_know_147 : decode cX5_know 147 = .ok (.iconst 0, 1) := by decide +kernel
theorem dX5_know_148 : decode cX5_know 148 = .ok (.iadd, 1) := by decide +kernel
theorem dX5_know_149 : decode cX5_know 149 = .ok (.putfield 189, 3) := by decide +kernel
theorem dX5_know_152 : decode cX5_know 152 = .ok (.iinc 2 (-2), 3) := by decide +kernel
theorem dX5_know_155 : decode cX5_know 155 = .ok (.goto (-126), 3) := by decide +kernel
theorem dX5_know_158 : decode cX5_know 158 = .ok (.return_, 1) := by decide +kernel
theorem dX5_order_0 : decode cX5_order 0 = .ok (.aload_n 0, 1) := by decide +kernel
theorem dX5_order_1 : decode cX5_order 1 = .ok (.iconst 0, 1) := by decide +kernel
theorem dX5_order_2 : decode cX5_order 2 = .ok (.putfield 64, 3) := by decide +kernel
theorem dX5_order_5 : decode cX5_order 5 = .ok (.aload_n 0, 1) := by decide +kernel
theorem dX5_order_6 : decode cX5_order 6 = .ok (.getfield 73, 3) := by decide +kernel
theorem dX5_order_9 : decode cX5_order 9 = .ok (.ifCond .ne 5, 3) := by decide +kernel
theorem dX5_order_12 : decode cX5_order 12 = .ok (.iconst (-1), 1) := by decide +kernel
theorem dX5_order_13 : decode cX5_order 13 = .ok (.ireturn, 1) := by decide +kernel
theorem dX5_order_14 : decode cX5_order 14 = .ok (.aload_n 0, 1) := by decide +kernel
theorem dX5_order_15 : decode cX5_order 15 = .ok (.invokevirtual 192, 3) := by decide +kernel
theorem dX5_order_18 : decode cX5_order 18 = .ok (.aload_n 0, 1) := by decide +kernel
theorem dX5_order_19 : decode cX5_order 19 = .ok (.getfield 51, 3) := by decide +kernel
theorem dX5_order_22 : decode cX5_order 22 = .ok (.iconst 0, 1) := by decide +kernel
theorem dX5_order_23 : decode cX5_order 23 = .ok (.baload, 1) := by decide +kernel
theorem dX5_order_24 : decode cX5_order 24 = .ok (.ifCond .eq 12, 3) := by decide +kernel
theorem dX5_order_27 : decode cX5_order 27 = .ok (.aload_n 0, 1) := by decide +kernel
theorem dX5_order_28 : decode cX5_order 28 = .ok (.getfield 73, 3) := by decide +kernel
theorem dX5_order_31 : decode cX5_order 31 = .ok (.iconst 1, 1) := by decide +kernel
theorem dX5_order_32 : decode cX5_order 32 = .ok (.isub, 1) := by decide +kernel
theorem dX5_order_33 : decode cX5_order 33 = .ok (.goto 4, 3) := by decide +kernel
theorem dX5_order_36 : decode cX5_order 36 = .ok (.iconst (-1), 1) := by decide +kernel
theorem dX5_order_37 : decode cX5_order 37 = .ok (.ireturn, 1) := by decide +kernel
theorem dX5_step_0 : decode cX5_step 0 = .ok (.aload_n 0, 1) := by decide +kernel
theorem dX5_step_1 : decode cX5_step 1 = .ok (.iconst 0, 1) := by decide +kernel
theorem dX5_step_2 : decode cX5_step 2 = .ok (.putfield 64, 3) := by decide +kernel
theorem dX5_step_5 : decode cX5_step 5 = .ok (.iload_n 1, 1) := by decide +kernel
theorem dX5_step_6 : decode cX5_step 6 = .ok (.i2l, 1) := by decide +kernel
theorem dX5_step_7 : decode cX5_step 7 = .ok (.lconst 0, 1) := by decide +kernel
theorem dX5_step_8 : decode cX5_step 8 = .ok (.aload_n 0, 1) := by decide +kernel
theorem dX5_step_9 : decode cX5_step 9 = .ok (.getfield 73, 3) := by decide +kernel
theorem dX5_step_12 : decode cX5_step 12 = .ok (.i2l, 1) := by decide +kernel
theorem dX5_step_13 : decode cX5_step 13 = .ok (.ldc2_w 195, 3) := by decide +kernel
theorem dX5_step_16 : decode cX5_step 16 = .ok (.lsub, 1) := by decide +kernel
theorem dX5_step_17 : decode cX5_step 17 = .ok (.invokestatic 69, 3) := by decide +kernel
theorem dX5_step_20 : decode cX5_step 20 = .ok (.ifCond .ne 5, 3) := by decide +kernel
theorem dX5_step_23 : decode cX5_step 23 = .ok (.iconst (-1), 1) := by decide +kernel
theorem dX5_step_24 : decode cX5_step 24 = .ok (.ireturn, 1) := by decide +kernel
theorem dX5_step_25 : decode cX5_step 25 = .ok (.aload_n 0, 1) := by decide +kernel
theorem dX5_step_26 : decode cX5_step 26 = .ok (.invokevirtual 192, 3) := by decide +kernel
theorem dX5_step_29 : decode cX5_step 29 = .ok (.aload_n 0, 1) := by decide +kernel
theorem dX5_step_30 : decode cX5_step 30 = .ok (.getfield 51, 3) := by decide +kernel
theorem dX5_step_33 : decode cX5_step 33 = .ok (.iconst 0, 1) := by decide +kernel
theorem dX5_step_34 : decode cX5_step 34 = .ok (.baload, 1) := by decide +kernel
theorem dX5_step_35 : decode cX5_step 35 = .ok (.ifCond .ne 5, 3) := by decide +kernel
theorem dX5_step_38 : decode cX5_step 38 = .ok (.iconst (-1), 1) := by decide +kernel
theorem dX5_step_39 : decode cX5_step 39 = .ok (.ireturn, 1) := by decide +kernel
theorem dX5_step_40 : decode cX5_step 40 = .ok (.iconst 0, 1) := by decide +kernel
theorem dX5_step_41 : decode cX5_step 41 = .ok (.istore_n 2, 1) := by decide +kernel
theorem dX5_step_42 : decode cX5_step 42 = .ok (.iconst (-1), 1) := by decide +kernel
theorem dX5_step_43 : decode cX5_step 43 = .ok (.istore_n 3, 1) := by decide +kernel
theorem dX5_step_44 : decode cX5_step 44 = .ok (.iconst 0, 1) := by decide +kernel
theorem dX5_step_45 : decode cX5_step 45 = .ok (.istore 4, 2) := by decide +kernel
theorem dX5_step_47 : decode cX5_step 47 = .ok (.iload 4, 2) := by decide +kernel
theorem dX5_step_49 : decode cX5_step 49 = .ok (.iload_n 1, 1) := by decide +kernel
theorem dX5_step_50 : decode cX5_step 50 = .ok (.if_icmp .gt 69, 3) := by decide +kernel
theorem dX5_step_53 : decode cX5_step 53 = .ok (.aload_n 0, 1) := by decide +kernel
theorem dX5_step_54 : decode cX5_step 54 = .ok (.iload_n 2, 1) := by decide +kernel
theorem dX5_step_55 : decode cX5_step 55 = .ok (.invokevirtual 110, 3) := by decide +kernel
theorem dX5_step_58 : decode cX5_step 58 = .ok (.iconst 1, 1) := by decide +kernel
theorem dX5_step_59 : decode cX5_step 59 = .ok (.istore_n 3, 1) := by decide +kernel
theorem dX5_step_60 : decode cX5_step 60 = .ok (.iload_n 2, 1) := by decide +kernel
theorem dX5_step_61 : decode cX5_step 61 = .ok (.iload_n 3, 1) := by decide +kernel
theorem dX5_step_62 : decode cX5_step 62 = .ok (.ishr, 1) := by decide +kernel
theorem dX5_step_63 : decode cX5_step 63 = .ok (.iconst 1, 1) := by decide +kernel
theorem dX5_step_64 : decode cX5_step 64 = .ok (.iand, 1) := by decide +kernel
theorem dX5_step_65 : decode cX5_step 65 = .ok (.iconst 1, 1) := by decide +kernel
theorem dX5_step_66 : decode cX5_step 66 = .ok (.if_icmp .eq 35, 3) := by decide +kernel
theorem dX5_step_69 : decode cX5_step 69 = .ok (.aload_n 0, 1) := by decide +kernel
theorem dX5_step_70 : decode cX5_step 70 = .ok (.getfield 51, 3) := by decide +kernel
theorem dX5_step_73 : decode cX5_step 73 = .ok (.iload_n 2, 1) := by decide +kernel
theorem dX5_step_74 : decode cX5_step 74 = .ok (.iconst 1, 1) := by decide +kernel
theorem dX5_step_75 : decode cX5_step 75 = .ok (.iload_n 3, 1) := by decide +kernel
theorem dX5_step_76 : decode cX5_step 76 = .ok (.ishl, 1) := by decide +kernel
theorem dX5_step_77 : decode cX5_step 77 = .ok (.ior, 1) := by decide +kernel
theorem dX5_step_78 : decode cX5_step 78 = .ok (.iconst 2, 1) := by decide +kernel
theorem dX5_step_79 : decode cX5_step 79 = .ok (.idiv, 1) := by decide +kernel
theorem dX5_step_80 : decode cX5_step 80 = .ok (.baload, 1) := by decide +kernel
theorem dX5_step_81 : decode cX5_step 81 = .ok (.ifCond .eq 20, 3) := by decide +kernel
theorem dX5_step_84 : decode cX5_step 84 = .ok (.aload_n 0, 1) := by decide +kernel
theorem dX5_step_85 : decode cX5_step 85 = .ok (.iload_n 3, 1) := by decide +kernel
theorem dX5_step_86 : decode cX5_step 86 = .ok (.invokevirtual 183, 3) := by decide +kernel
theorem dX5_step_89 : decode cX5_step 89 = .ok (.ifCond .eq 12, 3) := by decide +kernel
theorem dX5_step_92 : decode cX5_step 92 = .ok (.aload_n 0, 1) := by decide +kernel
theorem dX5_step_93 : decode cX5_step 93 = .ok (.iload_n 3, 1) := by decide +kernel
theorem dX5_step_94 : decode cX5_step 94 = .ok (.invokevirtual 186, 3) := by decide +kernel
theorem dX5_step_97 : decode cX5_step 97 = .ok (.iconst (-1), 1) := by decide +kernel
theorem dX5_step_98 : decode cX5_step 98 = .ok (.if_icmp .ne 9, 3) := by decide +kernel
theorem dX5_step_101 : decode cX5_step 101 = .ok (.iinc 3 1, 3) := by decide +kernel
theorem dX5_step_104 : decode cX5_step 104 = .ok (.goto (-44), 3) := by decide +kernel
theorem dX5_step_107 : decode cX5_step 107 = .ok (.iload_n 2, 1) := by decide +kernel
theorem dX5_step_108 : decode cX5_step 108 = .ok (.iconst 1, 1) := by decide +kernel
theorem dX5_step_109 : decode cX5_step 109 = .ok (.iload_n 3, 1) := by decide +kernel
theorem dX5_step_110 : decode cX5_step 110 = .ok (.ishl, 1) := by decide +kernel
theorem dX5_step_111 : decode cX5_step 111 = .ok (.ior, 1) := by decide +kernel
theorem dX5_step_112 : decode cX5_step 112 = .ok (.istore_n 2, 1) := by decide +kernel
theorem dX5_step_113 : decode cX5_step 113 = .ok (.iinc 4 1, 3) := by decide +kernel
theorem dX5_step_116 : decode cX5_step 116 = .ok (.goto (-69), 3) := by decide +kernel
theorem dX5_step_119 : decode cX5_step 119 = .ok (.iload_n 3, 1) := by decide +kernel
theorem dX5_step_120 : decode cX5_step 120 = .ok (.ireturn, 1) := by decide +kernel
theorem dX5_count_0 : decode cX5_count 0 = .ok (.aload_n 0, 1) := by decide +kernel
theorem dX5_count_1 : decode cX5_count 1 = .ok (.iconst 0, 1) := by decide +kernel
theorem dX5_count_2 : decode cX5_count 2 = .ok (.putfield 64, 3) := by decide +kernel
theorem dX5_count_5 : decode cX5_count 5 = .ok (.iload_n 1, 1) := by decide +kernel
theorem dX5_count_6 : decode cX5_count 6 = .ok (.iconst 1, 1) := by decide +kernel
theorem dX5_count_7 : decode cX5_count 7 = .ok (.if_icmp .ne 19, 3) := by decide +kernel
theorem dX5_count_10 : decode cX5_count 10 = .ok (.aload_n 0, 1) := by decide +kernel
theorem dX5_count_11 : decode cX5_count 11 = .ok (.getfield 73, 3) := by decide +kernel
theorem dX5_count_14 : decode cX5_count 14 = .ok (.ifCond .le 12, 3) := by decide +kernel
theorem dX5_count_17 : decode cX5_count 17 = .ok (.aload_n 0, 1) := by decide +kernel
theorem dX5_count_18 : decode cX5_count 18 = .ok (.invokevirtual 192, 3) := by decide +kernel
theorem dX5_count_21 : decode cX5_count 21 = .ok (.aload_n 0, 1) := by decide +kernel
theorem dX5_count_22 : decode cX5_count 22 = .ok (.getfield 189, 3) := by decide +kernel
theorem dX5_count_25 : decode cX5_count 25 = .ok (.ireturn, 1) := by decide +kernel
theorem dX5_count_26 : decode cX5_count 26 = .ok (.iload_n 1, 1) := by decide +kernel
theorem dX5_count_27 : decode cX5_count 27 = .ok (.ifCond .ne 10, 3) := by decide +kernel
theorem dX5_count_30 : decode cX5_count 30 = .ok (.aload_n 0, 1) := by decide +kernel
theorem dX5_count_31 : decode cX5_count 31 = .ok (.getfield 73, 3) := by decide +kernel
theorem dX5_count_34 : decode cX5_count 34 = .ok (.goto 13, 3) := by decide +kernel
theorem dX5_count_37 : decode cX5_count 37 = .ok (.iload_n 1, 1) := by decide +kernel
theorem dX5_count_38 : decode cX5_count 38 = .ok (.iconst 1, 1) := by decide +kernel
theorem dX5_count_39 : decode cX5_count 39 = .ok (.if_icmp .ne 7, 3) := by decide +kernel
theorem dX5_count_42 : decode cX5_count 42 = .ok (.iconst 0, 1) := by decide +kernel
theorem dX5_count_43 : decode cX5_count 43 = .ok (.goto 4, 3) := by decide +kernel
theorem dX5_count_46 : decode cX5_count 46 = .ok (.iconst (-1), 1) := by decide +kernel
theorem dX5_count_47 : decode cX5_count 47 = .ok (.ireturn, 1) := by decide +kernel
theorem dX5_check_0 : decode cX5_check 0 = .ok (.aload_n 0, 1) := by decide +kernel
theorem dX5_check_1 : decode cX5_check 1 = .ok (.iconst 0, 1) := by decide +kernel
theorem dX5_check_2 : decode cX5_check 2 = .ok (.putfield 64, 3) := by decide +kernel
theorem dX5_check_5 : decode cX5_check 5 = .ok (.iconst 1, 1) := by decide +kernel
theorem dX5_check_6 : decode cX5_check 6 = .ok (.ireturn, 1) := by decide +kernel
theorem dJ6_bitCount_0f7a4_0 : decode cJ6_bitCount_0f7a4 0 = .ok (.iload_n 0, 1) := by decide +kernel
theorem dJ6_bitCount_0f7a4_1 : decode cJ6_bitCount_0f7a4 1 = .ok (.iload_n 0, 1) := by decide +kernel
theorem dJ6_bitCount_0f7a4_2 : decode cJ6_bitCount_0f7a4 2 = .ok (.iconst 1, 1) := by decide +kernel
theorem dJ6_bitCount_0f7a4_3 : decode cJ6_bitCount_0f7a4 3 = .ok (.iushr, 1) := by decide +kernel
theorem dJ6_bitCount_0f7a4_4 : decode cJ6_bitCount_0f7a4 4 = .ok (.ldc_w 265, 3) := by decide +kernel
theorem dJ6_bitCount_0f7a4_7 : decode cJ6_bitCount_0f7a4 7 = .ok (.iand, 1) := by decide +kernel
theorem dJ6_bitCount_0f7a4_8 : decode cJ6_bitCount_0f7a4 8 = .ok (.isub, 1) := by decide +kernel
theorem dJ6_bitCount_0f7a4_9 : decode cJ6_bitCount_0f7a4 9 = .ok (.istore_n 0, 1) := by decide +kernel
theorem dJ6_bitCount_0f7a4_10 : decode cJ6_bitCount_0f7a4 10 = .ok (.iload_n 0, 1) := by decide +kernel
theorem dJ6_bitCount_0f7a4_11 : decode cJ6_bitCount_0f7a4 11 = .ok (.ldc_w 266, 3) := by decide +kernel
theorem dJ6_bitCount_0f7a4_14 : decode cJ6_bitCount_0f7a4 14 = .ok (.iand, 1) := by decide +kernel
theorem dJ6_bitCount_0f7a4_15 : decode cJ6_bitCount_0f7a4 15 = .ok (.iload_n 0, 1) := by decide +kernel
theorem dJ6_bitCount_0f7a4_16 : decode cJ6_bitCount_0f7a4 16 = .ok (.iconst 2, 1) := by decide +kernel
theorem dJ6_bitCount_0f7a4_17 : decode cJ6_bitCount_0f7a4 17 = .ok (.iushr, 1) := by decide +kernel
theorem dJ6_bitCount_0f7a4_18 : decode cJ6_bitCount_0f7a4 18 = .ok (.ldc_w 266, 3) := by decide +kernel
theorem dJ6_bitCount_0f7a4_21 : decode cJ6_bitCount_0f7a4 21 = .ok (.iand, 1) := by decide +kernel
theorem dJ6_bitCount_0f7a4_22 : decode cJ6_bitCount_0f7a4 22 = .ok (.iadd, 1) := by decide +kernel
theorem dJ6_bitCount_0f7a4_23 : decode cJ6_bitCount_0f7a4 23 = .ok (.istore_n 0, 1) := by decide +kernel
theorem dJ6_bitCount_0f7a4_24 : decode cJ6_bitCount_0f7a4 24 = .ok (.iload_n 0, 1) := by decide +kernel
theorem dJ6_bitCount_0f7a4_25 : decode cJ6_bitCount_0f7a4 25 = .ok (.iload_n 0, 1) := by decide +kernel
theorem dJ6_bitCount_0f7a4_26 : decode cJ6_bitCount_0f7a4 26 = .ok (.iconst 4, 1) := by decide +kernel
theorem dJ6_bitCount_0f7a4_27 : decode cJ6_bitCount_0f7a4 27 = .ok (.iushr, 1) := by decide +kernel
theorem dJ6_bitCount_0f7a4_28 : decode cJ6_bitCount_0f7a4 28 = .ok (.iadd, 1) := by decide +kernel
theorem dJ6_bitCount_0f7a4_29 : decode cJ6_bitCount_0f7a4 29 = .ok (.ldc_w 267, 3) := by decide +kernel
theorem dJ6_bitCount_0f7a4_32 : decode cJ6_bitCount_0f7a4 32 = .ok (.iand, 1) := by decide +kernel
theorem dJ6_bitCount_0f7a4_33 : decode cJ6_bitCount_0f7a4 33 = .ok (.istore_n 0, 1) := by decide +kernel
theorem dJ6_bitCount_0f7a4_34 : decode cJ6_bitCount_0f7a4 34 = .ok (.iload_n 0, 1) := by decide +kernel
theorem dJ6_bitCount_0f7a4_35 : decode cJ6_bitCount_0f7a4 35 = .ok (.iload_n 0, 1) := by decide +kernel
theorem dJ6_bitCount_0f7a4_36 : decode cJ6_bitCount_0f7a4 36 = .ok (.bipush 8, 2) := by decide +kernel
theorem dJ6_bitCount_0f7a4_38 : decode cJ6_bitCount_0f7a4 38 = .ok (.iushr, 1) := by decide +kernel
theorem dJ6_bitCount_0f7a4_39 : decode cJ6_bitCount_0f7a4 39 = .ok (.iadd, 1) := by decide +kernel
theorem dJ6_bitCount_0f7a4_40 : decode cJ6_bitCount_0f7a4 40 = .ok (.istore_n 0, 1) := by decide +kernel
theorem dJ6_bitCount_0f7a4_41 : decode cJ6_bitCount_0f7a4 41 = .ok (.iload_n 0, 1) := by decide +kernel
theorem dJ6_bitCount_0f7a4_42 : decode cJ6_bitCount_0f7a4 42 = .ok (.iload_n 0, 1) := by decide +kernel
theorem dJ6_bitCount_0f7a4_43 : decode cJ6_bitCount_0f7a4 43 = .ok (.bipush 16, 2) := by decide +kernel
theorem dJ6_bitCount_0f7a4_45 : decode cJ6_bitCount_0f7a4 45 = .ok (.iushr, 1) := by decide +kernel
theorem dJ6_bitCount_0f7a4_46 : decode cJ6_bitCount_0f7a4 46 = .ok (.iadd, 1) := by decide +kernel
theorem dJ6_bitCount_0f7a4_47 : decode cJ6_bitCount_0f7a4 47 = .ok (.istore_n 0, 1) := by decide +kernel
theorem dJ6_bitCount_0f7a4_48 : decode cJ6_bitCount_0f7a4 48 = .ok (.iload_n 0, 1) := by decide +kernel
theorem dJ6_bitCount_0f7a4_49 : decode cJ6_bitCount_0f7a4 49 = .ok (.bipush 63, 2) := by decide +kernel
theorem dJ6_bitCount_0f7a4_51 : decode cJ6_bitCount_0f7a4 51 = .ok (.iand, 1) := by decide +kernel
theorem dJ6_bitCount_0f7a4_52 : decode cJ6_bitCount_0f7a4 52 = .ok (.ireturn, 1) := by decide +kernel
theorem dJ9_max_7cf53_0 : decode cJ9_max_7cf53 0 = .ok (.iload_n 0, 1) := by decide +kernel
theorem dJ9_max_7cf53_1 : decode cJ9_max_7cf53 1 = .ok (.iload_n 1, 1) := by decide +kernel
theorem dJ9_max_7cf53_2 : decode cJ9_max_7cf53 2 = .ok (.if_icmp .lt 7, 3) := by decide +kernel
theorem dJ9_max_7cf53_5 : decode cJ9_max_7cf53 5 = .ok (.iload_n 0, 1) := by decide +kernel
theorem dJ9_max_7cf53_6 : decode cJ9_max_7cf53 6 = .ok (.goto 4, 3) := by decide +kernel
theorem dJ9_max_7cf53_9 : decode cJ9_max_7cf53 9 = .ok (.iload_n 1, 1) := by decide +kernel
theorem dJ9_max_7cf53_10 : decode cJ9_max_7cf53 10 = .ok (.ireturn, 1) := by decide +kernel
theorem dJ9_min_7cf53_0 : decode cJ9_min_7cf53 0 = .ok (.iload_n 0, 1) := by decide +kernel
theorem dJ9_min_7cf53_1 : decode cJ9_min_7cf53 1 = .ok (.iload_n 1, 1) := by decide +kernel
theorem dJ9_min_7cf53_2 : decode cJ9_min_7cf53 2 = .ok (.if_icmp .gt 7, 3) := by decide +kernel
theorem dJ9_min_7cf53_5 : decode cJ9_min_7cf53 5 = .ok (.iload_n 0, 1) := by decide +kernel
theorem dJ9_min_7cf53_6 : decode cJ9_min_7cf53 6 = .ok (.goto 4, 3) := by decide +kernel
theorem dJ9_min_7cf53_9 : decode cJ9_min_7cf53 9 = .ok (.iload_n 1, 1) := by decide +kernel
theorem dJ9_min_7cf53_10 : decode cJ9_min_7cf53 10 = .ok (.ireturn, 1) := by decide +kernel
theorem dL_law_0 : decode cL_law 0 = .ok (.new 7, 3) := by decide +kernel
theorem dL_law_3 : decode cL_law 3 = .ok (.dup, 1) := by decide +kernel
theorem dL_law_4 : decode cL_law 4 = .ok (.invokespecial 9, 3) := by decide +kernel
theorem dL_law_7 : decode cL_law 7 = .ok (.astore_n 1, 1) := by decide +kernel
theorem dL_law_8 : decode cL_law 8 = .ok (.new 10, 3) := by decide +kernel
theorem dL_law_11 : decode cL_law 11 = .ok (.dup, 1) := by decide +kernel
theorem dL_law_12 : decode cL_law 12 = .ok (.invokespecial 12, 3) := by decide +kernel
theorem dL_law_15 : decode cL_law 15 = .ok (.astore_n 2, 1) := by decide +kernel
theorem dL_law_16 : decode cL_law 16 = .ok (.iconst 0, 1) := by decide +kernel
theorem dL_law_17 : decode cL_law 17 = .ok (.istore_n 3, 1) := by decide +kernel
theorem dL_law_18 : decode cL_law 18 = .ok (.iload_n 3, 1) := by decide +kernel
theorem dL_law_19 : decode cL_law 19 = .ok (.aload_n 0, 1) := by decide +kernel
theorem dL_law_20 : decode cL_law 20 = .ok (.arraylength, 1) := by decide +kernel
theorem dL_law_21 : decode cL_law 21 = .ok (.bipush 7, 2) := by decide +kernel
theorem dL_law_23 : decode cL_law 23 = .ok (.isub, 1) := by decide +kernel
theorem dL_law_24 : decode cL_law 24 = .ok (.if_icmp .gt 588, 3) := by decide +kernel
theorem dL_law_27 : decode cL_law 27 = .ok (.aload_n 0, 1) := by decide +kernel
theorem dL_law_28 : decode cL_law 28 = .ok (.iload_n 3, 1) := by decide +kernel
theorem dL_law_29 : decode cL_law 29 = .ok (.iaload, 1) := by decide +kernel
theorem dL_law_30 : decode cL_law 30 = .ok (.bipush 31, 2) := by decide +kernel
theorem dL_law_32 : decode cL_law 32 = .ok (.iand, 1) := by decide +kernel
theorem dL_law_33 : decode cL_law 33 = .ok (.tableswitch 573 0 17 #[87, 120, 195, 218, 241, 254, 267, 290, 323, 346, 389, 412, 435, 468, 501, 514, 537, 560], 87) := by decide +kernel
theorem dL_law_120 : decode cL_law 120 = .ok (.aload_n 1, 1) := by decide +kernel
theorem dL_law_121 : decode cL_law 121 = .ok (.aload_n 0, 1) := by decide +kernel
theorem dL_law_122 : decode cL_law 122 = .ok (.iload_n 3, 1) := by decide +kernel
theorem dL_law_123 : decode cL_law 123 = .ok (.iconst 1, 1) := by decide +kernel
theorem dL_law_124 : decode cL_law 124 = .ok (.iadd, 1) := by decide +kernel
theorem dL_law_125 : decode cL_law 125 = .ok (.iaload, 1) := by decide +kernel
theorem dL_law_126 : decode cL_law 126 = .ok (.aload_n 0, 1) := by decide +kernel
theorem dL_law_127 : decode cL_law 127 = .ok (.iload_n 3, 1) := by decide +kernel
theorem dL_law_128 : decode cL_law 128 = .ok (.iconst 2, 1) := by decide +kernel
theorem dL_law_129 : decode cL_law 129 = .ok (.iadd, 1) := by decide +kernel
theorem dL_law_130 : decode cL_law 130 = .ok (.iaload, 1) := by decide +kernel
theorem dL_law_131 : decode cL_law 131 = .ok (.invokevirtual 13, 3) := by decide +kernel
theorem dL_law_134 : decode cL_law 134 = .ok (.aload_n 2, 1) := by decide +kernel
theorem dL_law_135 : decode cL_law 135 = .ok (.aload_n 0, 1) := by decide +kernel
theorem dL_law_136 : decode cL_law 136 = .ok (.iload_n 3, 1) := by decide +kernel
theorem dL_law_137 : decode cL_law 137 = .ok (.iconst 1, 1) := by decide +kernel
theorem dL_law_138 : decode cL_law 138 = .ok (.iadd, 1) := by decide +kernel
theorem dL_law_139 : decode cL_law 139 = .ok (.iaload, 1) := by decide +kernel
theorem dL_law_140 : decode cL_law 140 = .ok (.aload_n 0, 1) := by decide +kernel
theorem dL_law_141 : decode cL_law 141 = .ok (.iload_n 3, 1) := by decide +kernel
theorem dL_law_142 : decode cL_law 142 = .ok (.iconst 2, 1) := by decide +kernel
theorem dL_law_143 : decode cL_law 143 = .ok (.iadd, 1) := by decide +kernel
theorem dL_law_144 : decode cL_law 144 = .ok (.iaload, 1) := by decide +kernel
theorem dL_law_145 : decode cL_law 145 = .ok (.invokevirtual 17, 3) := by decide +kernel
theorem dL_law_148 : decode cL_law 148 = .ok (.if_icmp .eq 458, 3) := by decide +kernel
theorem dL_law_151 : decode cL_law 151 = .ok (.iconst 0, 1) := by decide +kernel
theorem dL_law_152 : decode cL_law 152 = .ok (.ireturn, 1) := by decide +kernel
theorem dL_law_153 : decode cL_law 153 = .ok (.aload_n 1, 1) := by decide +kernel
theorem dL_law_154 : decode cL_law 154 = .ok (.aload_n 0, 1) := by decide +kernel
theorem dL_law_155 : decode cL_law 155 = .ok (.iload_n 3, 1) := by decide +kernel
theorem dL_law_156 : decode cL_law 156 = .ok (.iconst 1, 1) := by decide +kernel
theorem dL_law_157 : decode cL_law 157 = .ok (.iadd, 1) := by decide +kernel
theorem dL_law_158 : decode cL_law 158 = .ok (.iaload, 1) := by decide +kernel
theorem dL_law_159 : decode cL_law 159 = .ok (.aload_n 0, 1) := by decide +kernel
theorem dL_law_160 : decode cL_law 160 = .ok (.iload_n 3, 1) := by decide +kernel
theorem dL_law_161 : decode cL_law 161 = .ok (.iconst 2, 1) := by decide +kernel
theorem dL_law_162 : decode cL_law 162 = .ok (.iadd, 1) := by decide +kernel
theorem dL_law_163 : decode cL_law 163 = .ok (.iaload, 1) := by decide +kernel
theorem dL_law_164 : decode cL_law 164 = .ok (.aload_n 0, 1) := by decide +kernel
theorem dL_law_165 : decode cL_law 165 = .ok (.iload_n 3, 1) := by decide +kernel
theorem dL_law_166 : decode cL_law 166 = .ok (.iconst 3, 1) := by decide +kernel
theorem dL_law_167 : decode cL_law 167 = .ok (.iadd, 1) := by decide +kernel
theorem dL_law_168 : decode cL_law 168 = .ok (.iaload, 1) := by decide +kernel
theorem dL_law_169 : decode cL_law 169 = .ok (.aload_n 0, 1) := by decide +kernel
theorem dL_law_170 : decode cL_law 170 = .ok (.iload_n 3, 1) := by decide +kernel
theorem dL_law_171 : decode cL_law 171 = .ok (.iconst 4, 1) := by decide +kernel
theorem dL_law_172 : decode cL_law 172 = .ok (.iadd, 1) := by decide +kernel
theorem dL_law_173 : decode cL_law 173 = .ok (.iaload, 1) := by decide +kernel
theorem dL_law_174 : decode cL_law 174 = .ok (.aload_n 0, 1) := by decide +kernel
theorem dL_law_175 : decode cL_law 175 = .ok (.iload_n 3, 1) := by decide +kernel
theorem dL_law_176 : decode cL_law 176 = .ok (.iconst 5, 1) := by decide +kernel
theorem dL_law_177 : decode cL_law 177 = .ok (.iadd, 1) := by decide +kernel
theorem dL_law_178 : decode cL_law 178 = .ok (.iaload, 1) := by decide +kernel
theorem dL_law_179 : decode cL_law 179 = .ok (.aload_n 0, 1) := by decide +kernel
theorem dL_law_180 : decode cL_law 180 = .ok (.iload_n 3, 1) := by decide +kernel
theorem dL_law_181 : decode cL_law 181 = .ok (.bipush 6, 2) := by decide +kernel
theorem dL_law_183 : decode cL_law 183 = .ok (.iadd, 1) := by decide +kernel
theorem dL_law_184 : decode cL_law 184 = .ok (.iaload, 1) := by decide +kernel
theorem dL_law_185 : decode cL_law 185 = .ok (.invokevirtual 18, 3) := by decide +kernel
theorem dL_law_188 : decode cL_law 188 = .ok (.aload_n 2, 1) := by decide +kernel
theorem dL_law_189 : decode cL_law 189 = .ok (.aload_n 0, 1) := by decide +kernel
theorem dL_law_190 : decode cL_law 190 = .ok (.iload_n 3, 1) := by decide +kernel
theorem dL_law_191 : decode cL_law 191 = .ok (.iconst 1, 1) := by decide +kernel
theorem dL_law_192 : decode cL_law 192 = .ok (.iadd, 1) := by decide +kernel
theorem dL_law_193 : decode cL_law 193 = .ok (.iaload, 1) := by decide +kernel
theorem dL_law_194 : decode cL_law 194 = .ok (.aload_n 0, 1) := by decide +kernel
theorem dL_law_195 : decode cL_law 195 = .ok (.iload_n 3, 1) := by decide +kernel
theorem dL_law_196 : decode cL_law 196 = .ok (.iconst 2, 1) := by decide +kernel
theorem dL_law_197 : decode cL_law 197 = .ok (.iadd, 1) := by decide +kernel
theorem dL_law_198 : decode cL_law 198 = .ok (.iaload, 1) := by decide +kernel
theorem dL_law_199 : decode cL_law 199 = .ok (.aload_n 0, 1) := by decide +kernel
theorem dL_law_200 : decode cL_law 200 = .ok (.iload_n 3, 1) := by decide +kernel
theorem dL_law_201 : decode cL_law 201 = .ok (.iconst 3, 1) := by decide +kernel
theorem dL_law_202 : decode cL_law 202 = .ok (.iadd, 1) := by decide +kernel
theorem dL_law_203 : decode cL_law 203 = .ok (.iaload, 1) := by decide +kernel
theorem dL_law_204 : decode cL_law 204 = .ok (.aload_n 0, 1) := by decide +kernel
theorem dL_law_205 : decode cL_law 205 = .ok (.iload_n 3, 1) := by decide +kernel
theorem dL_law_206 : decode cL_law 206 = .ok (.iconst 4, 1) := by decide +kernel
theorem dL_law_207 : decode cL_law 207 = .ok (.iadd, 1) := by decide +kernel
theorem dL_law_208 : decode cL_law 208 = .ok (.iaload, 1) := by decide +kernel
theorem dL_law_209 : decode cL_law 209 = .ok (.aload_n 0, 1) := by decide +kernel
theorem dL_law_210 : decode cL_law 210 = .ok (.iload_n 3, 1) := by decide +kernel
theorem dL_law_211 : decode cL_law 211 = .ok (.iconst 5, 1) := by decide +kernel
theorem dL_law_212 : decode cL_law 212 = .ok (.iadd, 1) := by decide +kernel
theorem dL_law_213 : decode cL_law 213 = .ok (.iaload, 1) := by decide +kernel
theorem dL_law_214 : decode cL_law 214 = .ok (.aload_n 0, 1) := by decide +kernel
theorem dL_law_215 : decode cL_law 215 = .ok (.iload_n 3, 1) := by decide +kernel
theorem dL_law_216 : decode cL_law 216 = .ok (.bipush 6, 2) := by decide +kernel
theorem dL_law_218 : decode cL_law 218 = .ok (.iadd, 1) := by decide +kernel
theorem dL_law_219 : decode cL_law 219 = .ok (.iaload, 1) := by decide +kernel
theorem dL_law_220 : decode cL_law 220 = .ok (.invokevirtual 22, 3) := by decide +kernel
theorem dL_law_223 : decode cL_law 223 = .ok (.if_icmp .eq 383, 3) := by decide +kernel
theorem dL_law_226 : decode cL_law 226 = .ok (.iconst 0, 1) := by decide +kernel
theorem dL_law_227 : decode cL_law 227 = .ok (.ireturn, 1) := by decide +kernel
theorem dL_law_228 : decode cL_law 228 = .ok (.aload_n 1, 1) := by decide +kernel
theorem dL_law_229 : decode cL_law 229 = .ok (.aload_n 0, 1) := by decide +kernel
theorem dL_law_230 : decode cL_law 230 = .ok (.iload_n 3, 1) := by decide +kernel
theorem dL_law_231 : decode cL_law 231 = .ok (.iconst 1, 1) := by decide +kernel
theorem dL_law_232 : decode cL_law 232 = .ok (.iadd, 1) := by decide +kernel
theorem dL_law_233 : decode cL_law 233 = .ok (.iaload, 1) := by decide +kernel
theorem dL_law_234 : decode cL_law 234 = .ok (.invokevirtual 23, 3) := by decide +kernel
theorem dL_law_237 : decode cL_law 237 = .ok (.aload_n 2, 1) := by decide +kernel
theorem dL_law_238 : decode cL_law 238 = .ok (.aload_n 0, 1) := by decide +kernel
theorem dL_law_239 : decode cL_law 239 = .ok (.iload_n 3, 1) := by decide +kernel
theorem dL_law_240 : decode cL_law 240 = .ok (.iconst 1, 1) := by decide +kernel
theorem dL_law_241 : decode cL_law 241 = .ok (.iadd, 1) := by decide +kernel
theorem dL_law_242 : decode cL_law 242 = .ok (.iaload, 1) := by decide +kernel
theorem dL_law_243 : decode cL_law 243 = .ok (.invokevirtual 27, 3) := by decide +kernel
theorem dL_law_246 : decode cL_law 246 = .ok (.if_icmp .eq 360, 3) := by decide +kernel
theorem dL_law_249 : decode cL_law 249 = .ok (.iconst 0, 1) := by decide +kernel
theorem dL_law_250 : decode cL_law 250 = .ok (.ireturn, 1) := by decide +kernel
theorem dL_law_251 : decode cL_law 251 = .ok (.aload_n 1, 1) := by decide +kernel
theorem dL_law_252 : decode cL_law 252 = .ok (.aload_n 0, 1) := by decide +kernel
theorem dL_law_253 : decode cL_law 253 = .ok (.iload_n 3, 1) := by decide +kernel
theorem dL_law_254 : decode cL_law 254 = .ok (.iconst 1, 1) := by decide +kernel
theorem dL_law_255 : decode cL_law 255 = .ok (.iadd, 1) := by decide +kernel
theorem dL_law_256 : decode cL_law 256 = .ok (.iaload, 1) := by decide +kernel
theorem dL_law_257 : decode cL_law 257 = .ok (.invokevirtual 28, 3) := by decide +kernel
theorem dL_law_260 : decode cL_law 260 = .ok (.aload_n 2, 1) := by decide +kernel
theorem dL_law_261 : decode cL_law 261 = .ok (.aload_n 0, 1) := by decide +kernel
theorem dL_law_262 : decode cL_law 262 = .ok (.iload_n 3, 1) := by decide +kernel
theorem dL_law_263 : decode cL_law 263 = .ok (.iconst 1, 1) := by decide +kernel
theorem dL_law_264 : decode cL_law 264 = .ok (.iadd, 1) := by decide +kernel
theorem dL_law_265 : decode cL_law 265 = .ok (.iaload, 1) := by decide +kernel
theorem dL_law_266 : decode cL_law 266 = .ok (.invokevirtual 31, 3) := by decide +kernel
theorem dL_law_269 : decode cL_law 269 = .ok (.if_icmp .eq 337, 3) := by decide +kernel
theorem dL_law_272 : decode cL_law 272 = .ok (.iconst 0, 1) := by decide +kernel
theorem dL_law_273 : decode cL_law 273 = .ok (.ireturn, 1) := by decide +kernel
theorem dL_law_274 : decode cL_law 274 = .ok (.aload_n 1, 1) := by decide +kernel
theorem dL_law_275 : decode cL_law 275 = .ok (.invokevirtual 32, 3) := by decide +kernel
theorem dL_law_278 : decode cL_law 278 = .ok (.aload_n 2, 1) := by decide +kernel
theorem dL_law_279 : decode cL_law 279 = .ok (.invokevirtual 36, 3) := by decide +kernel
theorem dL_law_282 : decode cL_law 282 = .ok (.if_icmp .eq 324, 3) := by decide +kernel
theorem dL_law_285 : decode cL_law 285 = .ok (.iconst 0, 1) := by decide +kernel
theorem dL_law_286 : decode cL_law 286 = .ok (.ireturn, 1) := by decide +kernel
theorem dL_law_287 : decode cL_law 287 = .ok (.aload_n 1, 1) := by decide +kernel
theorem dL_law_288 : decode cL_law 288 = .ok (.invokevirtual 37, 3) := by decide +kernel
theorem dL_law_291 : decode cL_law 291 = .ok (.aload_n 2, 1) := by decide +kernel
theorem dL_law_292 : decode cL_law 292 = .ok (.invokevirtual 40, 3) := by decide +kernel
theorem dL_law_295 : decode cL_law 295 = .ok (.if_icmp .eq 311, 3) := by decide +kernel
theorem dL_law_298 : decode cL_law 298 = .ok (.iconst 0, 1) := by decide +kernel
theorem dL_law_299 : decode cL_law 299 = .ok (.ireturn, 1) := by decide +kernel
theorem dL_law_300 : decode cL_law 300 = .ok (.aload_n 1, 1) := by decide +kernel
theorem dL_law_301 : decode cL_law 301 = .ok (.aload_n 0, 1) := by decide +kernel
theorem dL_law_302 : decode cL_law 302 = .ok (.iload_n 3, 1) := by decide +kernel
theorem dL_law_303 : decode cL_law 303 = .ok (.iconst 1, 1) := by decide +kernel
theorem dL_law_304 : decode cL_law 304 = .ok (.iadd, 1) := by decide +kernel
theorem dL_law_305 : decode cL_law 305 = .ok (.iaload, 1) := by decide +kernel
theorem dL_law_306 : decode cL_law 306 = .ok (.invokevirtual 41, 3) := by decide +kernel
theorem dL_law_309 : decode cL_law 309 = .ok (.aload_n 2, 1) := by decide +kernel
theorem dL_law_310 : decode cL_law 310 = .ok (.aload_n 0, 1) := by decide +kernel
theorem dL_law_311 : decode cL_law 311 = .ok (.iload_n 3, 1) := by decide +kernel
theorem dL_law_312 : decode cL_law 312 = .ok (.iconst 1, 1) := by decide +kernel
theorem dL_law_313 : decode cL_law 313 = .ok (.iadd, 1) := by decide +kernel
theorem dL_law_314 : decode cL_law 314 = .ok (.iaload, 1) := by decide +kernel
theorem dL_law_315 : decode cL_law 315 = .ok (.invokevirtual 44, 3) := by decide +kernel
theorem dL_law_318 : decode cL_law 318 = .ok (.if_icmp .eq 288, 3) := by decide +kernel
theorem dL_law_321 : decode cL_law 321 = .ok (.iconst 0, 1) := by decide +kernel
theorem dL_law_322 : decode cL_law 322 = .ok (.ireturn, 1) := by decide +kernel
theorem dL_law_323 : decode cL_law 323 = .ok (.aload_n 1, 1) := by decide +kernel
theorem dL_law_324 : decode cL_law 324 = .ok (.aload_n 0, 1) := by decide +kernel
theorem dL_law_325 : decode cL_law 325 = .ok (.iload_n 3, 1) := by decide +kernel
theorem dL_law_326 : decode cL_law 326 = .ok (.iconst 1, 1) := by decide +kernel
theorem dL_law_327 : decode cL_law 327 = .ok (.iadd, 1) := by decide +kernel
theorem dL_law_328 : decode cL_law 328 = .ok (.iaload, 1) := by decide +kernel
theorem dL_law_329 : decode cL_law 329 = .ok (.aload_n 0, 1) := by decide +kernel
theorem dL_law_330 : decode cL_law 330 = .ok (.iload_n 3, 1) := by decide +kernel
theorem dL_law_331 : decode cL_law 331 = .ok (.iconst 2, 1) := by decide +kernel
theorem dL_law_332 : decode cL_law 332 = .ok (.iadd, 1) := by decide +kernel
theorem dL_law_333 : decode cL_law 333 = .ok (.iaload, 1) := by decide +kernel
theorem dL_law_334 : decode cL_law 334 = .ok (.invokevirtual 45, 3) := by decide +kernel
theorem dL_law_337 : decode cL_law 337 = .ok (.aload_n 2, 1) := by decide +kernel
theorem dL_law_338 : decode cL_law 338 = .ok (.aload_n 0, 1) := by decide +kernel
theorem dL_law_339 : decode cL_law 339 = .ok (.iload_n 3, 1) := by decide +kernel
theorem dL_law_340 : decode cL_law 340 = .ok (.iconst 1, 1) := by decide +kernel
theorem dL_law_341 : decode cL_law 341 = .ok (.iadd, 1) := by decide +kernel
theorem dL_law_342 : decode cL_law 342 = .ok (.iaload, 1) := by decide +kernel
theorem dL_law_343 : decode cL_law 343 = .ok (.aload_n 0, 1) := by decide +kernel
theorem dL_law_344 : decode cL_law 344 = .ok (.iload_n 3, 1) := by decide +kernel
theorem dL_law_345 : decode cL_law 345 = .ok (.iconst 2, 1) := by decide +kernel
theorem dL_law_346 : decode cL_law 346 = .ok (.iadd, 1) := by decide +kernel
theorem dL_law_347 : decode cL_law 347 = .ok (.iaload, 1) := by decide +kernel
theorem dL_law_348 : decode cL_law 348 = .ok (.invokevirtual 48, 3) := by decide +kernel
theorem dL_law_351 : decode cL_law 351 = .ok (.if_icmp .eq 255, 3) := by decide +kernel
theorem dL_law_354 : decode cL_law 354 = .ok (.iconst 0, 1) := by decide +kernel
theorem dL_law_355 : decode cL_law 355 = .ok (.ireturn, 1) := by decide +kernel
theorem dL_law_356 : decode cL_law 356 = .ok (.aload_n 1, 1) := by decide +kernel
theorem dL_law_357 : decode cL_law 357 = .ok (.aload_n 0, 1) := by decide +kernel
theorem dL_law_358 : decode cL_law 358 = .ok (.iload_n 3, 1) := by decide +kernel
theorem dL_law_359 : decode cL_law 359 = .ok (.iconst 1, 1) := by decide +kernel
theorem dL_law_360 : decode cL_law 360 = .ok (.iadd, 1) := by decide +kernel
theorem dL_law_361 : decode cL_law 361 = .ok (.iaload, 1) := by decide +kernel
theorem dL_law_362 : decode cL_law 362 = .ok (.invokevirtual 49, 3) := by decide +kernel
theorem dL_law_365 : decode cL_law 365 = .ok (.aload_n 2, 1) := by decide +kernel
theorem dL_law_366 : decode cL_law 366 = .ok (.aload_n 0, 1) := by decide +kernel
theorem dL_law_367 : decode cL_law 367 = .ok (.iload_n 3, 1) := by decide +kernel
theorem dL_law_368 : decode cL_law 368 = .ok (.iconst 1, 1) := by decide +kernel
theorem dL_law_369 : decode cL_law 369 = .ok (.iadd, 1) := by decide +kernel
theorem dL_law_370 : decode cL_law 370 = .ok (.iaload, 1) := by decide +kernel
theorem dL_law_371 : decode cL_law 371 = .ok (.invokevirtual 52, 3) := by decide +kernel
theorem dL_law_374 : decode cL_law 374 = .ok (.if_icmp .eq 232, 3) := by decide +kernel
theorem dL_law_377 : decode cL_law 377 = .ok (.iconst 0, 1) := by decide +kernel
theorem dL_law_378 : decode cL_law 378 = .ok (.ireturn, 1) := by decide +kernel
theorem dL_law_379 : decode cL_law 379 = .ok (.aload_n 1, 1) := by decide +kernel
theorem dL_law_380 : decode cL_law 380 = .ok (.aload_n 0, 1) := by decide +kernel
theorem dL_law_381 : decode cL_law 381 = .ok (.iload_n 3, 1) := by decide +kernel
theorem dL_law_382 : decode cL_law 382 = .ok (.iconst 1, 1) := by decide +kernel
theorem dL_law_383 : decode cL_law 383 = .ok (.iadd, 1) := by decide +kernel
theorem dL_law_384 : decode cL_law 384 = .ok (.iaload, 1) := by decide +kernel
theorem dL_law_385 : decode cL_law 385 = .ok (.aload_n 0, 1) := by decide +kernel
theorem dL_law_386 : decode cL_law 386 = .ok (.iload_n 3, 1) := by decide +kernel
theorem dL_law_387 : decode cL_law 387 = .ok (.iconst 2, 1) := by decide +kernel
theorem dL_law_388 : decode cL_law 388 = .ok (.iadd, 1) := by decide +kernel
theorem dL_law_389 : decode cL_law 389 = .ok (.iaload, 1) := by decide +kernel
theorem dL_law_390 : decode cL_law 390 = .ok (.aload_n 0, 1) := by decide +kernel
theorem dL_law_391 : decode cL_law 391 = .ok (.iload_n 3, 1) := by decide +kernel
theorem dL_law_392 : decode cL_law 392 = .ok (.iconst 3, 1) := by decide +kernel
theorem dL_law_393 : decode cL_law 393 = .ok (.iadd, 1) := by decide +kernel
theorem dL_law_394 : decode cL_law 394 = .ok (.iaload, 1) := by decide +kernel
theorem dL_law_395 : decode cL_law 395 = .ok (.invokevirtual 53, 3) := by decide +kernel
theorem dL_law_398 : decode cL_law 398 = .ok (.aload_n 2, 1) := by decide +kernel
theorem dL_law_399 : decode cL_law 399 = .ok (.aload_n 0, 1) := by decide +kernel
theorem dL_law_400 : decode cL_law 400 = .ok (.iload_n 3, 1) := by decide +kernel
theorem dL_law_401 : decode cL_law 401 = .ok (.iconst 1, 1) := by decide +kernel
theorem dL_law_402 : decode cL_law 402 = .ok (.iadd, 1) := by decide +kernel
theorem dL_law_403 : decode cL_law 403 = .ok (.iaload, 1) := by decide +kernel
theorem dL_law_404 : decode cL_law 404 = .ok (.aload_n 0, 1) := by decide +kernel
theorem dL_law_405 : decode cL_law 405 = .ok (.iload_n 3, 1) := by decide +kernel
theorem dL_law_406 : decode cL_law 406 = .ok (.iconst 2, 1) := by decide +kernel
theorem dL_law_407 : decode cL_law 407 = .ok (.iadd, 1) := by decide +kernel
theorem dL_law_408 : decode cL_law 408 = .ok (.iaload, 1) := by decide +kernel
theorem dL_law_409 : decode cL_law 409 = .ok (.aload_n 0, 1) := by decide +kernel
theorem dL_law_410 : decode cL_law 410 = .ok (.iload_n 3, 1) := by decide +kernel
theorem dL_law_411 : decode cL_law 411 = .ok (.iconst 3, 1) := by decide +kernel
theorem dL_law_412 : decode cL_law 412 = .ok (.iadd, 1) := by decide +kernel
theorem dL_law_413 : decode cL_law 413 = .ok (.iaload, 1) := by decide +kernel
theorem dL_law_414 : decode cL_law 414 = .ok (.invokevirtual 57, 3) := by decide +kernel
theorem dL_law_417 : decode cL_law 417 = .ok (.if_icmp .eq 189, 3) := by decide +kernel
theorem dL_law_420 : decode cL_law 420 = .ok (.iconst 0, 1) := by decide +kernel
theorem dL_law_421 : decode cL_law 421 = .ok (.ireturn, 1) := by decide +kernel
theorem dL_law_422 : decode cL_law 422 = .ok (.aload_n 1, 1) := by decide +kernel
theorem dL_law_423 : decode cL_law 423 = .ok (.aload_n 0, 1) := by decide +kernel
theorem dL_law_424 : decode cL_law 424 = .ok (.iload_n 3, 1) := by decide +kernel
theorem dL_law_425 : decode cL_law 425 = .ok (.iconst 1, 1) := by decide +kernel
theorem dL_law_426 : decode cL_law 426 = .ok (.iadd, 1) := by decide +kernel
theorem dL_law_427 : decode cL_law 427 = .ok (.iaload, 1) := by decide +kernel
theorem dL_law_428 : decode cL_law 428 = .ok (.invokevirtual 58, 3) := by decide +kernel
theorem dL_law_431 : decode cL_law 431 = .ok (.aload_n 2, 1) := by decide +kernel
theorem dL_law_432 : decode cL_law 432 = .ok (.aload_n 0, 1) := by decide +kernel
theorem dL_law_433 : decode cL_law 433 = .ok (.iload_n 3, 1) := by decide +kernel
theorem dL_law_434 : decode cL_law 434 = .ok (.iconst 1, 1) := by decide +kernel
theorem dL_law_435 : decode cL_law 435 = .ok (.iadd, 1) := by decide +kernel
theorem dL_law_436 : decode cL_law 436 = .ok (.iaload, 1) := by decide +kernel
theorem dL_law_437 : decode cL_law 437 = .ok (.invokevirtual 61, 3) := by decide +kernel
theorem dL_law_440 : decode cL_law 440 = .ok (.if_icmp .eq 166, 3) := by decide +kernel
theorem dL_law_443 : decode cL_law 443 = .ok (.iconst 0, 1) := by decide +kernel
theorem dL_law_444 : decode cL_law 444 = .ok (.ireturn, 1) := by decide +kernel
theorem dL_law_445 : decode cL_law 445 = .ok (.aload_n 1, 1) := by decide +kernel
theorem dL_law_446 : decode cL_law 446 = .ok (.aload_n 0, 1) := by decide +kernel
theorem dL_law_447 : decode cL_law 447 = .ok (.iload_n 3, 1) := by decide +kernel
theorem dL_law_448 : decode cL_law 448 = .ok (.iconst 1, 1) := by decide +kernel
theorem dL_law_449 : decode cL_law 449 = .ok (.iadd, 1) := by decide +kernel
theorem dL_law_450 : decode cL_law 450 = .ok (.iaload, 1) := by decide +kernel
theorem dL_law_451 : decode cL_law 451 = .ok (.invokevirtual 62, 3) := by decide +kernel
theorem dL_law_454 : decode cL_law 454 = .ok (.aload_n 2, 1) := by decide +kernel
theorem dL_law_455 : decode cL_law 455 = .ok (.aload_n 0, 1) := by decide +kernel
theorem dL_law_456 : decode cL_law 456 = .ok (.iload_n 3, 1) := by decide +kernel
theorem dL_law_457 : decode cL_law 457 = .ok (.iconst 1, 1) := by decide +kernel
theorem dL_law_458 : decode cL_law 458 = .ok (.iadd, 1) := by decide +kernel
theorem dL_law_459 : decode cL_law 459 = .ok (.iaload, 1) := by decide +kernel
theorem dL_law_460 : decode cL_law 460 = .ok (.invokevirtual 65, 3) := by decide +kernel
theorem dL_law_463 : decode cL_law 463 = .ok (.if_icmp .eq 143, 3) := by decide +kernel
theorem dL_law_466 : decode cL_law 466 = .ok (.iconst 0, 1) := by decide +kernel
theorem dL_law_467 : decode cL_law 467 = .ok (.ireturn, 1) := by decide +kernel
theorem dL_law_468 : decode cL_law 468 = .ok (.aload_n 1, 1) := by decide +kernel
theorem dL_law_469 : decode cL_law 469 = .ok (.aload_n 0, 1) := by decide +kernel
theorem dL_law_470 : decode cL_law 470 = .ok (.iload_n 3, 1) := by decide +kernel
theorem dL_law_471 : decode cL_law 471 = .ok (.iconst 1, 1) := by decide +kernel
theorem dL_law_472 : decode cL_law 472 = .ok (.iadd, 1) := by decide +kernel
theorem dL_law_473 : decode cL_law 473 = .ok (.iaload, 1) := by decide +kernel
theorem dL_law_474 : decode cL_law 474 = .ok (.aload_n 0, 1) := by decide +kernel
theorem dL_law_475 : decode cL_law 475 = .ok (.iload_n 3, 1) := by decide +kernel
theorem dL_law_476 : decode cL_law 476 = .ok (.iconst 2, 1) := by decide +kernel
theorem dL_law_477 : decode cL_law 477 = .ok (.iadd, 1) := by decide +kernel
theorem dL_law_478 : decode cL_law 478 = .ok (.iaload, 1) := by decide +kernel
theorem dL_law_479 : decode cL_law 479 = .ok (.invokevirtual 66, 3) := by decide +kernel
theorem dL_law_482 : decode cL_law 482 = .ok (.aload_n 2, 1) := by decide +kernel
theorem dL_law_483 : decode cL_law 483 = .ok (.aload_n 0, 1) := by decide +kernel
theorem dL_law_484 : decode cL_law 484 = .ok (.iload_n 3, 1) := by decide +kernel
theorem dL_law_485 : decode cL_law 485 = .ok (.iconst 1, 1) := by decide +kernel
theorem dL_law_486 : decode cL_law 486 = .ok (.iadd, 1) := by decide +kernel
theorem dL_law_487 : decode cL_law 487 = .ok (.iaload, 1) := by decide +kernel
theorem dL_law_488 : decode cL_law 488 = .ok (.aload_n 0, 1) := by decide +kernel
theorem dL_law_489 : decode cL_law 489 = .ok (.iload_n 3, 1) := by decide +kernel
theorem dL_law_490 : decode cL_law 490 = .ok (.iconst 2, 1) := by decide +kernel
theorem dL_law_491 : decode cL_law 491 = .ok (.iadd, 1) := by decide +kernel
theorem dL_law_492 : decode cL_law 492 = .ok (.iaload, 1) := by decide +kernel
theorem dL_law_493 : decode cL_law 493 = .ok (.invokevirtual 69, 3) := by decide +kernel
theorem dL_law_496 : decode cL_law 496 = .ok (.if_icmp .eq 110, 3) := by decide +kernel
theorem dL_law_499 : decode cL_law 499 = .ok (.iconst 0, 1) := by decide +kernel
theorem dL_law_500 : decode cL_law 500 = .ok (.ireturn, 1) := by decide +kernel
theorem dL_law_501 : decode cL_law 501 = .ok (.aload_n 1, 1) := by decide +kernel
theorem dL_law_502 : decode cL_law 502 = .ok (.aload_n 0, 1) := by decide +kernel
theorem dL_law_503 : decode cL_law 503 = .ok (.iload_n 3, 1) := by decide +kernel
theorem dL_law_504 : decode cL_law 504 = .ok (.iconst 1, 1) := by decide +kernel
theorem dL_law_505 : decode cL_law 505 = .ok (.iadd, 1) := by decide +kernel
theorem dL_law_506 : decode cL_law 506 = .ok (.iaload, 1) := by decide +kernel
theorem dL_law_507 : decode cL_law 507 = .ok (.aload_n 0, 1) := by decide +kernel
theorem dL_law_508 : decode cL_law 508 = .ok (.iload_n 3, 1) := by decide +kernel
theorem dL_law_509 : decode cL_law 509 = .ok (.iconst 2, 1) := by decide +kernel
theorem dL_law_510 : decode cL_law 510 = .ok (.iadd, 1) := by decide +kernel
theorem dL_law_511 : decode cL_law 511 = .ok (.iaload, 1) := by decide +kernel
theorem dL_law_512 : decode cL_law 512 = .ok (.invokevirtual 70, 3) := by decide +kernel
theorem dL_law_515 : decode cL_law 515 = .ok (.aload_n 2, 1) := by decide +kernel
theorem dL_law_516 : decode cL_law 516 = .ok (.aload_n 0, 1) := by decide +kernel
theorem dL_law_517 : decode cL_law 517 = .ok (.iload_n 3, 1) := by decide +kernel
theorem dL_law_518 : decode cL_law 518 = .ok (.iconst 1, 1) := by decide +kernel
theorem dL_law_519 : decode cL_law 519 = .ok (.iadd, 1) := by decide +kernel
theorem dL_law_520 : decode cL_law 520 = .ok (.iaload, 1) := by decide +kernel
theorem dL_law_521 : decode cL_law 521 = .ok (.aload_n 0, 1) := by decide +kernel
theorem dL_law_522 : decode cL_law 522 = .ok (.iload_n 3, 1) := by decide +kernel
theorem dL_law_523 : decode cL_law 523 = .ok (.iconst 2, 1) := by decide +kernel
theorem dL_law_524 : decode cL_law 524 = .ok (.iadd, 1) := by decide +kernel
theorem dL_law_525 : decode cL_law 525 = .ok (.iaload, 1) := by decide +kernel
theorem dL_law_526 : decode cL_law 526 = .ok (.invokevirtual 73, 3) := by decide +kernel
theorem dL_law_529 : decode cL_law 529 = .ok (.if_icmp .eq 77, 3) := by decide +kernel
theorem dL_law_532 : decode cL_law 532 = .ok (.iconst 0, 1) := by decide +kernel
theorem dL_law_533 : decode cL_law 533 = .ok (.ireturn, 1) := by decide +kernel
theorem dL_law_534 : decode cL_law 534 = .ok (.aload_n 1, 1) := by decide +kernel
theorem dL_law_535 : decode cL_law 535 = .ok (.invokevirtual 74, 3) := by decide +kernel
theorem dL_law_538 : decode cL_law 538 = .ok (.aload_n 2, 1) := by decide +kernel
theorem dL_law_539 : decode cL_law 539 = .ok (.invokevirtual 77, 3) := by decide +kernel
theorem dL_law_542 : decode cL_law 542 = .ok (.if_icmp .eq 64, 3) := by decide +kernel
theorem dL_law_545 : decode cL_law 545 = .ok (.iconst 0, 1) := by decide +kernel
theorem dL_law_546 : decode cL_law 546 = .ok (.ireturn, 1) := by decide +kernel
theorem dL_law_547 : decode cL_law 547 = .ok (.aload_n 1, 1) := by decide +kernel
theorem dL_law_548 : decode cL_law 548 = .ok (.aload_n 0, 1) := by decide +kernel
theorem dL_law_549 : decode cL_law 549 = .ok (.iload_n 3, 1) := by decide +kernel
theorem dL_law_550 : decode cL_law 550 = .ok (.iconst 1, 1) := by decide +kernel
theorem dL_law_551 : decode cL_law 551 = .ok (.iadd, 1) := by decide +kernel
theorem dL_law_552 : decode cL_law 552 = .ok (.iaload, 1) := by decide +kernel
theorem dL_law_553 : decode cL_law 553 = .ok (.invokevirtual 78, 3) := by decide +kernel
theorem dL_law_556 : decode cL_law 556 = .ok (.aload_n 2, 1) := by decide +kernel
theorem dL_law_557 : decode cL_law 557 = .ok (.aload_n 0, 1) := by decide +kernel
theorem dL_law_558 : decode cL_law 558 = .ok (.iload_n 3, 1) := by decide +kernel
theorem dL_law_559 : decode cL_law 559 = .ok (.iconst 1, 1) := by decide +kernel
theorem dL_law_560 : decode cL_law 560 = .ok (.iadd, 1) := by decide +kernel
theorem dL_law_561 : decode cL_law 561 = .ok (.iaload, 1) := by decide +kernel
theorem dL_law_562 : decode cL_law 562 = .ok (.invokevirtual 81, 3) := by decide +kernel
theorem dL_law_565 : decode cL_law 565 = .ok (.if_icmp .eq 41, 3) := by decide +kernel
theorem dL_law_568 : decode cL_law 568 = .ok (.iconst 0, 1) := by decide +kernel
theorem dL_law_569 : decode cL_law 569 = .ok (.ireturn, 1) := by decide +kernel
theorem dL_law_570 : decode cL_law 570 = .ok (.aload_n 1, 1) := by decide +kernel
theorem dL_law_571 : decode cL_law 571 = .ok (.aload_n 0, 1) := by decide +kernel
theorem dL_law_572 : decode cL_law 572 = .ok (.iload_n 3, 1) := by decide +kernel
theorem dL_law_573 : decode cL_law 573 = .ok (.iconst 1, 1) := by decide +kernel
theorem dL_law_574 : decode cL_law 574 = .ok (.iadd, 1) := by decide +kernel
theorem dL_law_575 : decode cL_law 575 = .ok (.iaload, 1) := by decide +kernel
theorem dL_law_576 : decode cL_law 576 = .ok (.invokevirtual 82, 3) := by decide +kernel
theorem dL_law_579 : decode cL_law 579 = .ok (.aload_n 2, 1) := by decide +kernel
theorem dL_law_580 : decode cL_law 580 = .ok (.aload_n 0, 1) := by decide +kernel
theorem dL_law_581 : decode cL_law 581 = .ok (.iload_n 3, 1) := by decide +kernel
theorem dL_law_582 : decode cL_law 582 = .ok (.iconst 1, 1) := by decide +kernel
theorem dL_law_583 : decode cL_law 583 = .ok (.iadd, 1) := by decide +kernel
theorem dL_law_584 : decode cL_law 584 = .ok (.iaload, 1) := by decide +kernel
theorem dL_law_585 : decode cL_law 585 = .ok (.invokevirtual 85, 3) := by decide +kernel
theorem dL_law_588 : decode cL_law 588 = .ok (.if_icmp .eq 18, 3) := by decide +kernel
theorem dL_law_591 : decode cL_law 591 = .ok (.iconst 0, 1) := by decide +kernel
theorem dL_law_592 : decode cL_law 592 = .ok (.ireturn, 1) := by decide +kernel
theorem dL_law_593 : decode cL_law 593 = .ok (.aload_n 1, 1) := by decide +kernel
theorem dL_law_594 : decode cL_law 594 = .ok (.invokevirtual 86, 3) := by decide +kernel
theorem dL_law_597 : decode cL_law 597 = .ok (.aload_n 2, 1) := by decide +kernel
theorem dL_law_598 : decode cL_law 598 = .ok (.invokevirtual 89, 3) := by decide +kernel
theorem dL_law_601 : decode cL_law 601 = .ok (.if_icmp .eq 5, 3) := by decide +kernel
theorem dL_law_604 : decode cL_law 604 = .ok (.iconst 0, 1) := by decide +kernel
theorem dL_law_605 : decode cL_law 605 = .ok (.ireturn, 1) := by decide +kernel
theorem dL_law_606 : decode cL_law 606 = .ok (.iinc 3 7, 3) := by decide +kernel
theorem dL_law_609 : decode cL_law 609 = .ok (.goto (-591), 3) := by decide +kernel
theorem dL_law_612 : decode cL_law 612 = .ok (.iconst 1, 1) := by decide +kernel
theorem dL_law_613 : decode cL_law 613 = .ok (.ireturn, 1) := by decide +kernel
