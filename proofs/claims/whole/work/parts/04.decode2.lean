theorem dX2_startAnew_10 : decode cX2_startAnew 10 = .ok (.iconst (-1), 1) := by decide +kernel
theorem dX2_startAnew_11 : decode cX2_startAnew 11 = .ok (.iastore, 1) := by decide +kernel
theorem dX2_startAnew_12 : decode cX2_startAnew 12 = .ok (.aload_n 0, 1) := by decide +kernel
theorem dX2_startAnew_13 : decode cX2_startAnew 13 = .ok (.getfield 19, 3) := by decide +kernel
theorem dX2_startAnew_16 : decode cX2_startAnew 16 = .ok (.iconst 0, 1) := by decide +kernel
theorem dX2_startAnew_17 : decode cX2_startAnew 17 = .ok (.iconst (-1), 1) := by decide +kernel
theorem dX2_startAnew_18 : decode cX2_startAnew 18 = .ok (.iastore, 1) := by decide +kernel
theorem dX2_startAnew_19 : decode cX2_startAnew 19 = .ok (.aload_n 0, 1) := by decide +kernel
theorem dX2_startAnew_20 : decode cX2_startAnew 20 = .ok (.getfield 22, 3) := by decide +kernel
theorem dX2_startAnew_23 : decode cX2_startAnew 23 = .ok (.iconst 0, 1) := by decide +kernel
theorem dX2_startAnew_24 : decode cX2_startAnew 24 = .ok (.iconst 0, 1) := by decide +kernel
theorem dX2_startAnew_25 : decode cX2_startAnew 25 = .ok (.bastore, 1) := by decide +kernel
theorem dX2_startAnew_26 : decode cX2_startAnew 26 = .ok (.aload_n 0, 1) := by decide +kernel
theorem dX2_startAnew_27 : decode cX2_startAnew 27 = .ok (.getfield 26, 3) := by decide +kernel
theorem dX2_startAnew_30 : decode cX2_startAnew 30 = .ok (.iconst 0, 1) := by decide +kernel
theorem dX2_startAnew_31 : decode cX2_startAnew 31 = .ok (.iconst 0, 1) := by decide +kernel
theorem dX2_startAnew_32 : decode cX2_startAnew 32 = .ok (.iastore, 1) := by decide +kernel
theorem dX2_startAnew_33 : decode cX2_startAnew 33 = .ok (.aload_n 0, 1) := by decide +kernel
theorem dX2_startAnew_34 : decode cX2_startAnew 34 = .ok (.getfield 31, 3) := by decide +kernel
theorem dX2_startAnew_37 : decode cX2_startAnew 37 = .ok (.iconst 0, 1) := by decide +kernel
theorem dX2_startAnew_38 : decode cX2_startAnew 38 = .ok (.aaload, 1) := by decide +kernel
theorem dX2_startAnew_39 : decode cX2_startAnew 39 = .ok (.iconst 0, 1) := by decide +kernel
theorem dX2_startAnew_40 : decode cX2_startAnew 40 = .ok (.iload_n 1, 1) := by decide +kernel
theorem dX2_startAnew_41 : decode cX2_startAnew 41 = .ok (.iastore, 1) := by decide +kernel
theorem dX2_startAnew_42 : decode cX2_startAnew 42 = .ok (.aload_n 0, 1) := by decide +kernel
theorem dX2_startAnew_43 : decode cX2_startAnew 43 = .ok (.getfield 31, 3) := by decide +kernel
theorem dX2_startAnew_46 : decode cX2_startAnew 46 = .ok (.iconst 1, 1) := by decide +kernel
theorem dX2_startAnew_47 : decode cX2_startAnew 47 = .ok (.aaload, 1) := by decide +kernel
theorem dX2_startAnew_48 : decode cX2_startAnew 48 = .ok (.iconst 0, 1) := by decide +kernel
theorem dX2_startAnew_49 : decode cX2_startAnew 49 = .ok (.iload_n 2, 1) := by decide +kernel
theorem dX2_startAnew_50 : decode cX2_startAnew 50 = .ok (.iastore, 1) := by decide +kernel
theorem dX2_startAnew_51 : decode cX2_startAnew 51 = .ok (.aload_n 0, 1) := by decide +kernel
theorem dX2_startAnew_52 : decode cX2_startAnew 52 = .ok (.getfield 31, 3) := by decide +kernel
theorem dX2_startAnew_55 : decode cX2_startAnew 55 = .ok (.iconst 2, 1) := by decide +kernel
theorem dX2_startAnew_56 : decode cX2_startAnew 56 = .ok (.aaload, 1) := by decide +kernel
theorem dX2_startAnew_57 : decode cX2_startAnew 57 = .ok (.iconst 0, 1) := by decide +kernel
theorem dX2_startAnew_58 : decode cX2_startAnew 58 = .ok (.iconst 0, 1) := by decide +kernel
theorem dX2_startAnew_59 : decode cX2_startAnew 59 = .ok (.iastore, 1) := by decide +kernel
theorem dX2_startAnew_60 : decode cX2_startAnew 60 = .ok (.aload_n 0, 1) := by decide +kernel
theorem dX2_startAnew_61 : decode cX2_startAnew 61 = .ok (.getfield 31, 3) := by decide +kernel
theorem dX2_startAnew_64 : decode cX2_startAnew 64 = .ok (.iconst 3, 1) := by decide +kernel
theorem dX2_startAnew_65 : decode cX2_startAnew 65 = .ok (.aaload, 1) := by decide +kernel
theorem dX2_startAnew_66 : decode cX2_startAnew 66 = .ok (.iconst 0, 1) := by decide +kernel
theorem dX2_startAnew_67 : decode cX2_startAnew 67 = .ok (.iconst 0, 1) := by decide +kernel
theorem dX2_startAnew_68 : decode cX2_startAnew 68 = .ok (.iastore, 1) := by decide +kernel
theorem dX2_startAnew_69 : decode cX2_startAnew 69 = .ok (.return_, 1) := by decide +kernel
theorem dX2_hasPanel_0 : decode cX2_hasPanel 0 = .ok (.iload_n 1, 1) := by decide +kernel
theorem dX2_hasPanel_1 : decode cX2_hasPanel 1 = .ok (.ifCond .lt 15, 3) := by decide +kernel
theorem dX2_hasPanel_4 : decode cX2_hasPanel 4 = .ok (.iload_n 1, 1) := by decide +kernel
theorem dX2_hasPanel_5 : decode cX2_hasPanel 5 = .ok (.aload_n 0, 1) := by decide +kernel
theorem dX2_hasPanel_6 : decode cX2_hasPanel 6 = .ok (.getfield 9, 3) := by decide +kernel
theorem dX2_hasPanel_9 : decode cX2_hasPanel 9 = .ok (.if_icmp .ge 7, 3) := by decide +kernel
theorem dX2_hasPanel_12 : decode cX2_hasPanel 12 = .ok (.iconst 1, 1) := by decide +kernel
theorem dX2_hasPanel_13 : decode cX2_hasPanel 13 = .ok (.goto 4, 3) := by decide +kernel
theorem dX2_hasPanel_16 : decode cX2_hasPanel 16 = .ok (.iconst 0, 1) := by decide +kernel
theorem dX2_hasPanel_17 : decode cX2_hasPanel 17 = .ok (.ireturn, 1) := by decide +kernel
theorem dX2_hasBend_0 : decode cX2_hasBend 0 = .ok (.iload_n 1, 1) := by decide +kernel
theorem dX2_hasBend_1 : decode cX2_hasBend 1 = .ok (.iconst 1, 1) := by decide +kernel
theorem dX2_hasBend_2 : decode cX2_hasBend 2 = .ok (.if_icmp .lt 15, 3) := by decide +kernel
theorem dX2_hasBend_5 : decode cX2_hasBend 5 = .ok (.iload_n 1, 1) := by decide +kernel
theorem dX2_hasBend_6 : decode cX2_hasBend 6 = .ok (.aload_n 0, 1) := by decide +kernel
theorem dX2_hasBend_7 : decode cX2_hasBend 7 = .ok (.getfield 9, 3) := by decide +kernel
theorem dX2_hasBend_10 : decode cX2_hasBend 10 = .ok (.if_icmp .ge 7, 3) := by decide +kernel
theorem dX2_hasBend_13 : decode cX2_hasBend 13 = .ok (.iconst 1, 1) := by decide +kernel
theorem dX2_hasBend_14 : decode cX2_hasBend 14 = .ok (.goto 4, 3) := by decide +kernel
theorem dX2_hasBend_17 : decode cX2_hasBend 17 = .ok (.iconst 0, 1) := by decide +kernel
theorem dX2_hasBend_18 : decode cX2_hasBend 18 = .ok (.ireturn, 1) := by decide +kernel
theorem dX2_allBends_0 : decode cX2_allBends 0 = .ok (.aload_n 0, 1) := by decide +kernel
theorem dX2_allBends_1 : decode cX2_allBends 1 = .ok (.getfield 9, 3) := by decide +kernel
theorem dX2_allBends_4 : decode cX2_allBends 4 = .ok (.ifCond .ne 7, 3) := by decide +kernel
theorem dX2_allBends_7 : decode cX2_allBends 7 = .ok (.iconst 0, 1) := by decide +kernel
theorem dX2_allBends_8 : decode cX2_allBends 8 = .ok (.goto 11, 3) := by decide +kernel
theorem dX2_allBends_11 : decode cX2_allBends 11 = .ok (.iconst 1, 1) := by decide +kernel
theorem dX2_allBends_12 : decode cX2_allBends 12 = .ok (.aload_n 0, 1) := by decide +kernel
theorem dX2_allBends_13 : decode cX2_allBends 13 = .ok (.getfield 9, 3) := by decide +kernel
theorem dX2_allBends_16 : decode cX2_allBends 16 = .ok (.ishl, 1) := by decide +kernel
theorem dX2_allBends_17 : decode cX2_allBends 17 = .ok (.iconst 2, 1) := by decide +kernel
theorem dX2_allBends_18 : decode cX2_allBends 18 = .ok (.isub, 1) := by decide +kernel
theorem dX2_allBends_19 : decode cX2_allBends 19 = .ok (.ireturn, 1) := by decide +kernel
theorem dX2_areBends_0 : decode cX2_areBends 0 = .ok (.iload_n 1, 1) := by decide +kernel
theorem dX2_areBends_1 : decode cX2_areBends 1 = .ok (.aload_n 0, 1) := by decide +kernel
theorem dX2_areBends_2 : decode cX2_areBends 2 = .ok (.invokevirtual 34, 3) := by decide +kernel
theorem dX2_areBends_5 : decode cX2_areBends 5 = .ok (.iconst (-1), 1) := by decide +kernel
theorem dX2_areBends_6 : decode cX2_areBends 6 = .ok (.ixor, 1) := by decide +kernel
theorem dX2_areBends_7 : decode cX2_areBends 7 = .ok (.iand, 1) := by decide +kernel
theorem dX2_areBends_8 : decode cX2_areBends 8 = .ok (.ifCond .ne 7, 3) := by decide +kernel
theorem dX2_areBends_11 : decode cX2_areBends 11 = .ok (.iconst 1, 1) := by decide +kernel
theorem dX2_areBends_12 : decode cX2_areBends 12 = .ok (.goto 4, 3) := by decide +kernel
theorem dX2_areBends_15 : decode cX2_areBends 15 = .ok (.iconst 0, 1) := by decide +kernel
theorem dX2_areBends_16 : decode cX2_areBends 16 = .ok (.ireturn, 1) := by decide +kernel
theorem dX2_width_0 : decode cX2_width 0 = .ok (.aload_n 0, 1) := by decide +kernel
theorem dX2_width_1 : decode cX2_width 1 = .ok (.getfield 31, 3) := by decide +kernel
theorem dX2_width_4 : decode cX2_width 4 = .ok (.iconst 0, 1) := by decide +kernel
theorem dX2_width_5 : decode cX2_width 5 = .ok (.aaload, 1) := by decide +kernel
theorem dX2_width_6 : decode cX2_width 6 = .ok (.iload_n 1, 1) := by decide +kernel
theorem dX2_width_7 : decode cX2_width 7 = .ok (.iaload, 1) := by decide +kernel
theorem dX2_width_8 : decode cX2_width 8 = .ok (.aload_n 0, 1) := by decide +kernel
theorem dX2_width_9 : decode cX2_width 9 = .ok (.getfield 31, 3) := by decide +kernel
theorem dX2_width_12 : decode cX2_width 12 = .ok (.iconst 2, 1) := by decide +kernel
theorem dX2_width_13 : decode cX2_width 13 = .ok (.aaload, 1) := by decide +kernel
theorem dX2_width_14 : decode cX2_width 14 = .ok (.iload_n 1, 1) := by decide +kernel
theorem dX2_width_15 : decode cX2_width 15 = .ok (.iaload, 1) := by decide +kernel
theorem dX2_width_16 : decode cX2_width 16 = .ok (.isub, 1) := by decide +kernel
theorem dX2_width_17 : decode cX2_width 17 = .ok (.ireturn, 1) := by decide +kernel
theorem dX2_height_0 : decode cX2_height 0 = .ok (.aload_n 0, 1) := by decide +kernel
theorem dX2_height_1 : decode cX2_height 1 = .ok (.getfield 31, 3) := by decide +kernel
theorem dX2_height_4 : decode cX2_height 4 = .ok (.iconst 1, 1) := by decide +kernel
theorem dX2_height_5 : decode cX2_height 5 = .ok (.aaload, 1) := by decide +kernel
theorem dX2_height_6 : decode cX2_height 6 = .ok (.iload_n 1, 1) := by decide +kernel
theorem dX2_height_7 : decode cX2_height 7 = .ok (.iaload, 1) := by decide +kernel
theorem dX2_height_8 : decode cX2_height 8 = .ok (.aload_n 0, 1) := by decide +kernel
theorem dX2_height_9 : decode cX2_height 9 = .ok (.getfield 31, 3) := by decide +kernel
theorem dX2_height_12 : decode cX2_height 12 = .ok (.iconst 3, 1) := by decide +kernel
theorem dX2_height_13 : decode cX2_height 13 = .ok (.aaload, 1) := by decide +kernel
theorem dX2_height_14 : decode cX2_height 14 = .ok (.iload_n 1, 1) := by decide +kernel
theorem dX2_height_15 : decode cX2_height 15 = .ok (.iaload, 1) := by decide +kernel
theorem dX2_height_16 : decode cX2_height 16 = .ok (.isub, 1) := by decide +kernel
theorem dX2_height_17 : decode cX2_height 17 = .ok (.ireturn, 1) := by decide +kernel
theorem dX2_lengthOf_0 : decode cX2_lengthOf 0 = .ok (.iload_n 2, 1) := by decide +kernel
theorem dX2_lengthOf_1 : decode cX2_lengthOf 1 = .ok (.invokestatic 38, 3) := by decide +kernel
theorem dX2_lengthOf_4 : decode cX2_lengthOf 4 = .ok (.ifCond .eq 11, 3) := by decide +kernel
theorem dX2_lengthOf_7 : decode cX2_lengthOf 7 = .ok (.aload_n 0, 1) := by decide +kernel
theorem dX2_lengthOf_8 : decode cX2_lengthOf 8 = .ok (.iload_n 1, 1) := by decide +kernel
theorem dX2_lengthOf_9 : decode cX2_lengthOf 9 = .ok (.invokevirtual 42, 3) := by decide +kernel
theorem dX2_lengthOf_12 : decode cX2_lengthOf 12 = .ok (.goto 8, 3) := by decide +kernel
theorem dX2_lengthOf_15 : decode cX2_lengthOf 15 = .ok (.aload_n 0, 1) := by decide +kernel
theorem dX2_lengthOf_16 : decode cX2_lengthOf 16 = .ok (.iload_n 1, 1) := by decide +kernel
theorem dX2_lengthOf_17 : decode cX2_lengthOf 17 = .ok (.invokevirtual 46, 3) := by decide +kernel
theorem dX2_lengthOf_20 : decode cX2_lengthOf 20 = .ok (.ireturn, 1) := by decide +kernel
theorem dX2_isFreeSide_0 : decode cX2_isFreeSide 0 = .ok (.aload_n 0, 1) := by decide +kernel
theorem dX2_isFreeSide_1 : decode cX2_isFreeSide 1 = .ok (.getfield 26, 3) := by decide +kernel
theorem dX2_isFreeSide_4 : decode cX2_isFreeSide 4 = .ok (.iload_n 1, 1) := by decide +kernel
theorem dX2_isFreeSide_5 : decode cX2_isFreeSide 5 = .ok (.iaload, 1) := by decide +kernel
theorem dX2_isFreeSide_6 : decode cX2_isFreeSide 6 = .ok (.iload_n 2, 1) := by decide +kernel
theorem dX2_isFreeSide_7 : decode cX2_isFreeSide 7 = .ok (.ishr, 1) := by decide +kernel
theorem dX2_isFreeSide_8 : decode cX2_isFreeSide 8 = .ok (.iconst 1, 1) := by decide +kernel
theorem dX2_isFreeSide_9 : decode cX2_isFreeSide 9 = .ok (.iand, 1) := by decide +kernel
theorem dX2_isFreeSide_10 : decode cX2_isFreeSide 10 = .ok (.ifCond .ne 7, 3) := by decide +kernel
theorem dX2_isFreeSide_13 : decode cX2_isFreeSide 13 = .ok (.iconst 1, 1) := by decide +kernel
theorem dX2_isFreeSide_14 : decode cX2_isFreeSide 14 = .ok (.goto 4, 3) := by decide +kernel
theorem dX2_isFreeSide_17 : decode cX2_isFreeSide 17 = .ok (.iconst 0, 1) := by decide +kernel
theorem dX2_isFreeSide_18 : decode cX2_isFreeSide 18 = .ok (.ireturn, 1) := by decide +kernel
theorem dX2_canBeJoined_0 : decode cX2_canBeJoined 0 = .ok (.aload_n 0, 1) := by decide +kernel
theorem dX2_canBeJoined_1 : decode cX2_canBeJoined 1 = .ok (.iload_n 1, 1) := by decide +kernel
theorem dX2_canBeJoined_2 : decode cX2_canBeJoined 2 = .ok (.invokevirtual 49, 3) := by decide +kernel
theorem dX2_canBeJoined_5 : decode cX2_canBeJoined 5 = .ok (.ifCond .eq 12, 3) := by decide +kernel
theorem dX2_canBeJoined_8 : decode cX2_canBeJoined 8 = .ok (.iload_n 2, 1) := by decide +kernel
theorem dX2_canBeJoined_9 : decode cX2_canBeJoined 9 = .ok (.iconst 0, 1) := by decide +kernel
theorem dX2_canBeJoined_10 : decode cX2_canBeJoined 10 = .ok (.iconst 3, 1) := by decide +kernel
theorem dX2_canBeJoined_11 : decode cX2_canBeJoined 11 = .ok (.invokestatic 52, 3) := by decide +kernel
theorem dX2_canBeJoined_14 : decode cX2_canBeJoined 14 = .ok (.ifCond .ne 5, 3) := by decide +kernel
theorem dX2_canBeJoined_17 : decode cX2_canBeJoined 17 = .ok (.iconst 0, 1) := by decide +kernel
theorem dX2_canBeJoined_18 : decode cX2_canBeJoined 18 = .ok (.ireturn, 1) := by decide +kernel
theorem dX2_canBeJoined_19 : decode cX2_canBeJoined 19 = .ok (.iload_n 1, 1) := by decide +kernel
theorem dX2_canBeJoined_20 : decode cX2_canBeJoined 20 = .ok (.ifCond .eq 16, 3) := by decide +kernel
theorem dX2_canBeJoined_23 : decode cX2_canBeJoined 23 = .ok (.iload_n 2, 1) := by decide +kernel
theorem dX2_canBeJoined_24 : decode cX2_canBeJoined 24 = .ok (.aload_n 0, 1) := by decide +kernel
theorem dX2_canBeJoined_25 : decode cX2_canBeJoined 25 = .ok (.getfield 19, 3) := by decide +kernel
theorem dX2_canBeJoined_28 : decode cX2_canBeJoined 28 = .ok (.iload_n 1, 1) := by decide +kernel
theorem dX2_canBeJoined_29 : decode cX2_canBeJoined 29 = .ok (.iaload, 1) := by decide +kernel
theorem dX2_canBeJoined_30 : decode cX2_canBeJoined 30 = .ok (.invokestatic 56, 3) := by decide +kernel
theorem dX2_canBeJoined_33 : decode cX2_canBeJoined 33 = .ok (.if_icmp .eq 7, 3) := by decide +kernel
theorem dX2_canBeJoined_36 : decode cX2_canBeJoined 36 = .ok (.iconst 1, 1) := by decide +kernel
theorem dX2_canBeJoined_37 : decode cX2_canBeJoined 37 = .ok (.goto 4, 3) := by decide +kernel
theorem dX2_canBeJoined_40 : decode cX2_canBeJoined 40 = .ok (.iconst 0, 1) := by decide +kernel
theorem dX2_canBeJoined_41 : decode cX2_canBeJoined 41 = .ok (.ireturn, 1) := by decide +kernel
theorem dX2_join_0 : decode cX2_join 0 = .ok (.aload_n 0, 1) := by decide +kernel
theorem dX2_join_1 : decode cX2_join 1 = .ok (.getfield 9, 3) := by decide +kernel
theorem dX2_join_4 : decode cX2_join 4 = .ok (.istore 7, 2) := by decide +kernel
theorem dX2_join_6 : decode cX2_join 6 = .ok (.iload_n 2, 1) := by decide +kernel
theorem dX2_join_7 : decode cX2_join 7 = .ok (.invokestatic 56, 3) := by decide +kernel
theorem dX2_join_10 : decode cX2_join 10 = .ok (.istore 8, 2) := by decide +kernel
theorem dX2_join_12 : decode cX2_join 12 = .ok (.iload_n 2, 1) := by decide +kernel
theorem dX2_join_13 : decode cX2_join 13 = .ok (.invokestatic 38, 3) := by decide +kernel
theorem dX2_join_16 : decode cX2_join 16 = .ok (.ifCond .eq 7, 3) := by decide +kernel
theorem dX2_join_19 : decode cX2_join 19 = .ok (.iconst 3, 1) := by decide +kernel
theorem dX2_join_20 : decode cX2_join 20 = .ok (.goto 4, 3) := by decide +kernel
theorem dX2_join_23 : decode cX2_join 23 = .ok (.iconst 2, 1) := by decide +kernel
theorem dX2_join_24 : decode cX2_join 24 = .ok (.istore 9, 2) := by decide +kernel
theorem dX2_join_26 : decode cX2_join 26 = .ok (.aload_n 0, 1) := by decide +kernel
theorem dX2_join_27 : decode cX2_join 27 = .ok (.dup, 1) := by decide +kernel
theorem dX2_join_28 : decode cX2_join 28 = .ok (.getfield 9, 3) := by decide +kernel
theorem dX2_join_31 : decode cX2_join 31 = .ok (.iconst 1, 1) := by decide +kernel
theorem dX2_join_32 : decode cX2_join 32 = .ok (.iadd, 1) := by decide +kernel
theorem dX2_join_33 : decode cX2_join 33 = .ok (.putfield 9, 3) := by decide +kernel
theorem dX2_join_36 : decode cX2_join 36 = .ok (.aload_n 0, 1) := by decide +kernel
theorem dX2_join_37 : decode cX2_join 37 = .ok (.getfield 15, 3) := by decide +kernel
theorem dX2_join_40 : decode cX2_join 40 = .ok (.iload 7, 2) := by decide +kernel
theorem dX2_join_42 : decode cX2_join 42 = .ok (.iload_n 1, 1) := by decide +kernel
theorem dX2_join_43 : decode cX2_join 43 = .ok (.iastore, 1) := by decide +kernel
theorem dX2_join_44 : decode cX2_join 44 = .ok (.aload_n 0, 1) := by decide +kernel
theorem dX2_join_45 : decode cX2_join 45 = .ok (.getfield 19, 3) := by decide +kernel
theorem dX2_join_48 : decode cX2_join 48 = .ok (.iload 7, 2) := by decide +kernel
theorem dX2_join_50 : decode cX2_join 50 = .ok (.iload_n 2, 1) := by decide +kernel
theorem dX2_join_51 : decode cX2_join 51 = .ok (.iastore, 1) := by decide +kernel
theorem dX2_join_52 : decode cX2_join 52 = .ok (.aload_n 0, 1) := by decide +kernel
theorem dX2_join_53 : decode cX2_join 53 = .ok (.getfield 22, 3) := by decide +kernel
theorem dX2_join_56 : decode cX2_join 56 = .ok (.iload 7, 2) := by decide +kernel
theorem dX2_join_58 : decode cX2_join 58 = .ok (.iload 6, 2) := by decide +kernel
theorem dX2_join_60 : decode cX2_join 60 = .ok (.bastore, 1) := by decide +kernel
theorem dX2_join_61 : decode cX2_join 61 = .ok (.aload_n 0, 1) := by decide +kernel
theorem dX2_join_62 : decode cX2_join 62 = .ok (.getfield 26, 3) := by decide +kernel
theorem dX2_join_65 : decode cX2_join 65 = .ok (.iload 7, 2) := by decide +kernel
theorem dX2_join_67 : decode cX2_join 67 = .ok (.iconst 1, 1) := by decide +kernel
theorem dX2_join_68 : decode cX2_join 68 = .ok (.iload 8, 2) := by decide +kernel
theorem dX2_join_70 : decode cX2_join 70 = .ok (.ishl, 1) := by decide +kernel
theorem dX2_join_71 : decode cX2_join 71 = .ok (.iastore, 1) := by decide +kernel
theorem dX2_join_72 : decode cX2_join 72 = .ok (.aload_n 0, 1) := by decide +kernel
theorem dX2_join_73 : decode cX2_join 73 = .ok (.getfield 26, 3) := by decide +kernel
theorem dX2_join_76 : decode cX2_join 76 = .ok (.iload_n 1, 1) := by decide +kernel
theorem dX2_join_77 : decode cX2_join 77 = .ok (.dup2, 1) := by decide +kernel
theorem dX2_join_78 : decode cX2_join 78 = .ok (.iaload, 1) := by decide +kernel
theorem dX2_join_79 : decode cX2_join 79 = .ok (.iconst 1, 1) := by decide +kernel
theorem dX2_join_80 : decode cX2_join 80 = .ok (.iload_n 2, 1) := by decide +kernel
theorem dX2_join_81 : decode cX2_join 81 = .ok (.ishl, 1) := by decide +kernel
theorem dX2_join_82 : decode cX2_join 82 = .ok (.ior, 1) := by decide +kernel
theorem dX2_join_83 : decode cX2_join 83 = .ok (.iastore, 1) := by decide +kernel
theorem dX2_join_84 : decode cX2_join 84 = .ok (.aload_n 0, 1) := by decide +kernel
theorem dX2_join_85 : decode cX2_join 85 = .ok (.getfield 31, 3) := by decide +kernel
theorem dX2_join_88 : decode cX2_join 88 = .ok (.iload 8, 2) := by decide +kernel
theorem dX2_join_90 : decode cX2_join 90 = .ok (.aaload, 1) := by decide +kernel
theorem dX2_join_91 : decode cX2_join 91 = .ok (.iload 7, 2) := by decide +kernel
theorem dX2_join_93 : decode cX2_join 93 = .ok (.aload_n 0, 1) := by decide +kernel
theorem dX2_join_94 : decode cX2_join 94 = .ok (.getfield 31, 3) := by decide +kernel
theorem dX2_join_97 : decode cX2_join 97 = .ok (.iload_n 2, 1) := by decide +kernel
theorem dX2_join_98 : decode cX2_join 98 = .ok (.aaload, 1) := by decide +kernel
theorem dX2_join_99 : decode cX2_join 99 = .ok (.iload_n 1, 1) := by decide +kernel
theorem dX2_join_100 : decode cX2_join 100 = .ok (.iaload, 1) := by decide +kernel
theorem dX2_join_101 : decode cX2_join 101 = .ok (.iastore, 1) := by decide +kernel
theorem dX2_join_102 : decode cX2_join 102 = .ok (.aload_n 0, 1) := by decide +kernel
theorem dX2_join_103 : decode cX2_join 103 = .ok (.getfield 31, 3) := by decide +kernel
theorem dX2_join_106 : decode cX2_join 106 = .ok (.iload_n 2, 1) := by decide +kernel
theorem dX2_join_107 : decode cX2_join 107 = .ok (.aaload, 1) := by decide +kernel
theorem dX2_join_108 : decode cX2_join 108 = .ok (.iload 7, 2) := by decide +kernel
theorem dX2_join_110 : decode cX2_join 110 = .ok (.aload_n 0, 1) := by decide +kernel
theorem dX2_join_111 : decode cX2_join 111 = .ok (.getfield 31, 3) := by decide +kernel
theorem dX2_join_114 : decode cX2_join 114 = .ok (.iload_n 2, 1) := by decide +kernel
theorem dX2_join_115 : decode cX2_join 115 = .ok (.aaload, 1) := by decide +kernel
theorem dX2_join_116 : decode cX2_join 116 = .ok (.iload_n 1, 1) := by decide +kernel
theorem dX2_join_117 : decode cX2_join 117 = .ok (.iaload, 1) := by decide +kernel
theorem dX2_join_118 : decode cX2_join 118 = .ok (.iload_n 2, 1) := by decide +kernel
theorem dX2_join_119 : decode cX2_join 119 = .ok (.invokestatic 59, 3) := by decide +kernel
theorem dX2_join_122 : decode cX2_join 122 = .ok (.ifCond .eq 8, 3) := by decide +kernel
theorem dX2_join_125 : decode cX2_join 125 = .ok (.iload 5, 2) := by decide +kernel
theorem dX2_join_127 : decode cX2_join 127 = .ok (.goto 6, 3) := by decide +kernel
theorem dX2_join_130 : decode cX2_join 130 = .ok (.iload 5, 2) := by decide +kernel
theorem dX2_join_132 : decode cX2_join 132 = .ok (.ineg, 1) := by decide +kernel
theorem dX2_join_133 : decode cX2_join 133 = .ok (.iadd, 1) := by decide +kernel
theorem dX2_join_134 : decode cX2_join 134 = .ok (.iastore, 1) := by decide +kernel
theorem dX2_join_135 : decode cX2_join 135 = .ok (.aload_n 0, 1) := by decide +kernel
theorem dX2_join_136 : decode cX2_join 136 = .ok (.getfield 31, 3) := by decide +kernel
theorem dX2_join_139 : decode cX2_join 139 = .ok (.iload 9, 2) := by decide +kernel
theorem dX2_join_141 : decode cX2_join 141 = .ok (.aaload, 1) := by decide +kernel
theorem dX2_join_142 : decode cX2_join 142 = .ok (.iload 7, 2) := by decide +kernel
theorem dX2_join_144 : decode cX2_join 144 = .ok (.aload_n 0, 1) := by decide +kernel
theorem dX2_join_145 : decode cX2_join 145 = .ok (.getfield 31, 3) := by decide +kernel
theorem dX2_join_148 : decode cX2_join 148 = .ok (.iload 9, 2) := by decide +kernel
theorem dX2_join_150 : decode cX2_join 150 = .ok (.aaload, 1) := by decide +kernel
theorem dX2_join_151 : decode cX2_join 151 = .ok (.iload_n 1, 1) := by decide +kernel
theorem dX2_join_152 : decode cX2_join 152 = .ok (.iaload, 1) := by decide +kernel
theorem dX2_join_153 : decode cX2_join 153 = .ok (.iload_n 3, 1) := by decide +kernel
theorem dX2_join_154 : decode cX2_join 154 = .ok (.iadd, 1) := by decide +kernel
theorem dX2_join_155 : decode cX2_join 155 = .ok (.iastore, 1) := by decide +kernel
theorem dX2_join_156 : decode cX2_join 156 = .ok (.aload_n 0, 1) := by decide +kernel
theorem dX2_join_157 : decode cX2_join 157 = .ok (.getfield 31, 3) := by decide +kernel
theorem dX2_join_160 : decode cX2_join 160 = .ok (.iload 9, 2) := by decide +kernel
theorem dX2_join_162 : decode cX2_join 162 = .ok (.invokestatic 56, 3) := by decide +kernel
theorem dX2_join_165 : decode cX2_join 165 = .ok (.aaload, 1) := by decide +kernel
theorem dX2_join_166 : decode cX2_join 166 = .ok (.iload 7, 2) := by decide +kernel
theorem dX2_join_168 : decode cX2_join 168 = .ok (.aload_n 0, 1) := by decide +kernel
theorem dX2_join_169 : decode cX2_join 169 = .ok (.getfield 31, 3) := by decide +kernel
theorem dX2_join_172 : decode cX2_join 172 = .ok (.iload 9, 2) := by decide +kernel
theorem dX2_join_174 : decode cX2_join 174 = .ok (.aaload, 1) := by decide +kernel
theorem dX2_join_175 : decode cX2_join 175 = .ok (.iload 7, 2) := by decide +kernel
theorem dX2_join_177 : decode cX2_join 177 = .ok (.iaload, 1) := by decide +kernel
theorem dX2_join_178 : decode cX2_join 178 = .ok (.iload 4, 2) := by decide +kernel
theorem dX2_join_180 : decode cX2_join 180 = .ok (.iadd, 1) := by decide +kernel
theorem dX2_join_181 : decode cX2_join 181 = .ok (.iastore, 1) := by decide +kernel
theorem dX2_join_182 : decode cX2_join 182 = .ok (.iload 7, 2) := by decide +kernel
theorem dX2_join_184 : decode cX2_join 184 = .ok (.ireturn, 1) := by decide +kernel
theorem dX2_bendX_0 : decode cX2_bendX 0 = .ok (.aload_n 0, 1) := by decide +kernel
theorem dX2_bendX_1 : decode cX2_bendX 1 = .ok (.getfield 31, 3) := by decide +kernel
theorem dX2_bendX_4 : decode cX2_bendX 4 = .ok (.aload_n 0, 1) := by decide +kernel
theorem dX2_bendX_5 : decode cX2_bendX 5 = .ok (.getfield 19, 3) := by decide +kernel
theorem dX2_bendX_8 : decode cX2_bendX 8 = .ok (.iload_n 1, 1) := by decide +kernel
theorem dX2_bendX_9 : decode cX2_bendX 9 = .ok (.iaload, 1) := by decide +kernel
theorem dX2_bendX_10 : decode cX2_bendX 10 = .ok (.iconst 2, 1) := by decide +kernel
theorem dX2_bendX_11 : decode cX2_bendX 11 = .ok (.if_icmp .ne 7, 3) := by decide +kernel
theorem dX2_bendX_14 : decode cX2_bendX 14 = .ok (.iconst 0, 1) := by decide +kernel
theorem dX2_bendX_15 : decode cX2_bendX 15 = .ok (.goto 4, 3) := by decide +kernel
theorem dX2_bendX_18 : decode cX2_bendX 18 = .ok (.iconst 2, 1) := by decide +kernel
theorem dX2_bendX_19 : decode cX2_bendX 19 = .ok (.aaload, 1) := by decide +kernel
theorem dX2_bendX_20 : decode cX2_bendX 20 = .ok (.iload_n 1, 1) := by decide +kernel
theorem dX2_bendX_21 : decode cX2_bendX 21 = .ok (.iaload, 1) := by decide +kernel
theorem dX2_bendX_22 : decode cX2_bendX 22 = .ok (.ireturn, 1) := by decide +kernel
theorem dX2_bendY_0 : decode cX2_bendY 0 = .ok (.aload_n 0, 1) := by decide +kernel
theorem dX2_bendY_1 : decode cX2_bendY 1 = .ok (.getfield 31, 3) := by decide +kernel
theorem dX2_bendY_4 : decode cX2_bendY 4 = .ok (.aload_n 0, 1) := by decide +kernel
theorem dX2_bendY_5 : decode cX2_bendY 5 = .ok (.getfield 19, 3) := by decide +kernel
theorem dX2_bendY_8 : decode cX2_bendY 8 = .ok (.iload_n 1, 1) := by decide +kernel
theorem dX2_bendY_9 : decode cX2_bendY 9 = .ok (.iaload, 1) := by decide +kernel
theorem dX2_bendY_10 : decode cX2_bendY 10 = .ok (.iconst 3, 1) := by decide +kernel
theorem dX2_bendY_11 : decode cX2_bendY 11 = .ok (.if_icmp .ne 7, 3) := by decide +kernel
theorem dX2_bendY_14 : decode cX2_bendY 14 = .ok (.iconst 1, 1) := by decide +kernel
theorem dX2_bendY_15 : decode cX2_bendY 15 = .ok (.goto 4, 3) := by decide +kernel
theorem dX2_bendY_18 : decode cX2_bendY 18 = .ok (.iconst 3, 1) := by decide +kernel
theorem dX2_bendY_19 : decode cX2_bendY 19 = .ok (.aaload, 1) := by decide +kernel
theorem dX2_bendY_20 : decode cX2_bendY 20 = .ok (.iload_n 1, 1) := by decide +kernel
theorem dX2_bendY_21 : decode cX2_bendY 21 = .ok (.iaload, 1) := by decide +kernel
theorem dX2_bendY_22 : decode cX2_bendY 22 = .ok (.ireturn, 1) := by decide +kernel
theorem dX2_turnOver_0 : decode cX2_turnOver 0 = .ok (.aload_n 0, 1) := by decide +kernel
theorem dX2_turnOver_1 : decode cX2_turnOver 1 = .ok (.getfield 31, 3) := by decide +kernel
theorem dX2_turnOver_4 : decode cX2_turnOver 4 = .ok (.iconst 0, 1) := by decide +kernel
theorem dX2_turnOver_5 : decode cX2_turnOver 5 = .ok (.aaload, 1) := by decide +kernel
theorem dX2_turnOver_6 : decode cX2_turnOver 6 = .ok (.iconst 0, 1) := by decide +kernel
theorem dX2_turnOver_7 : decode cX2_turnOver 7 = .ok (.iaload, 1) := by decide +kernel
theorem dX2_turnOver_8 : decode cX2_turnOver 8 = .ok (.istore_n 1, 1) := by decide +kernel
theorem dX2_turnOver_9 : decode cX2_turnOver 9 = .ok (.iconst 0, 1) := by decide +kernel
theorem dX2_turnOver_10 : decode cX2_turnOver 10 = .ok (.istore_n 2, 1) := by decide +kernel
theorem dX2_turnOver_11 : decode cX2_turnOver 11 = .ok (.iload_n 2, 1) := by decide +kernel
theorem dX2_turnOver_12 : decode cX2_turnOver 12 = .ok (.aload_n 0, 1) := by decide +kernel
theorem dX2_turnOver_13 : decode cX2_turnOver 13 = .ok (.getfield 9, 3) := by decide +kernel
theorem dX2_turnOver_16 : decode cX2_turnOver 16 = .ok (.if_icmp .ge 148, 3) := by decide +kernel
theorem dX2_turnOver_19 : decode cX2_turnOver 19 = .ok (.aload_n 0, 1) := by decide +kernel
theorem dX2_turnOver_20 : decode cX2_turnOver 20 = .ok (.getfield 31, 3) := by decide +kernel
theorem dX2_turnOver_23 : decode cX2_turnOver 23 = .ok (.iconst 0, 1) := by decide +kernel
theorem dX2_turnOver_24 : decode cX2_turnOver 24 = .ok (.aaload, 1) := by decide +kernel
theorem dX2_turnOver_25 : decode cX2_turnOver 25 = .ok (.iload_n 2, 1) := by decide +kernel
theorem dX2_turnOver_26 : decode cX2_turnOver 26 = .ok (.iaload, 1) := by decide +kernel
theorem dX2_turnOver_27 : decode cX2_turnOver 27 = .ok (.istore_n 3, 1) := by decide +kernel
theorem dX2_turnOver_28 : decode cX2_turnOver 28 = .ok (.aload_n 0, 1) := by decide +kernel
theorem dX2_turnOver_29 : decode cX2_turnOver 29 = .ok (.getfield 31, 3) := by decide +kernel
theorem dX2_turnOver_32 : decode cX2_turnOver 32 = .ok (.iconst 0, 1) := by decide +kernel
theorem dX2_turnOver_33 : decode cX2_turnOver 33 = .ok (.aaload, 1) := by decide +kernel
theorem dX2_turnOver_34 : decode cX2_turnOver 34 = .ok (.iload_n 2, 1) := by decide +kernel
theorem dX2_turnOver_35 : decode cX2_turnOver 35 = .ok (.iload_n 1, 1) := by decide +kernel
theorem dX2_turnOver_36 : decode cX2_turnOver 36 = .ok (.aload_n 0, 1) := by decide +kernel
theorem dX2_turnOver_37 : decode cX2_turnOver 37 = .ok (.getfield 31, 3) := by decide +kernel
theorem dX2_turnOver_40 : decode cX2_turnOver 40 = .ok (.iconst 2, 1) := by decide +kernel
theorem dX2_turnOver_41 : decode cX2_turnOver 41 = .ok (.aaload, 1) := by decide +kernel
theorem dX2_turnOver_42 : decode cX2_turnOver 42 = .ok (.iload_n 2, 1) := by decide +kernel
theorem dX2_turnOver_43 : decode cX2_turnOver 43 = .ok (.iaload, 1) := by decide +kernel
theorem dX2_turnOver_44 : decode cX2_turnOver 44 = .ok (.isub, 1) := by decide +kernel
theorem dX2_turnOver_45 : decode cX2_turnOver 45 = .ok (.iastore, 1) := by decide +kernel
theorem dX2_turnOver_46 : decode cX2_turnOver 46 = .ok (.aload_n 0, 1) := by decide +kernel
theorem dX2_turnOver_47 : decode cX2_turnOver 47 = .ok (.getfield 31, 3) := by decide +kernel
theorem dX2_turnOver_50 : decode cX2_turnOver 50 = .ok (.iconst 2, 1) := by decide +kernel
theorem dX2_turnOver_51 : decode cX2_turnOver 51 = .ok (.aaload, 1) := by decide +kernel
theorem dX2_turnOver_52 : decode cX2_turnOver 52 = .ok (.iload_n 2, 1) := by decide +kernel
theorem dX2_turnOver_53 : decode cX2_turnOver 53 = .ok (.iload_n 1, 1) := by decide +kernel
theorem dX2_turnOver_54 : decode cX2_turnOver 54 = .ok (.iload_n 3, 1) := by decide +kernel
theorem dX2_turnOver_55 : decode cX2_turnOver 55 = .ok (.isub, 1) := by decide +kernel
theorem dX2_turnOver_56 : decode cX2_turnOver 56 = .ok (.iastore, 1) := by decide +kernel
theorem dX2_turnOver_57 : decode cX2_turnOver 57 = .ok (.aload_n 0, 1) := by decide +kernel
theorem dX2_turnOver_58 : decode cX2_turnOver 58 = .ok (.getfield 26, 3) := by decide +kernel
theorem dX2_turnOver_61 : decode cX2_turnOver 61 = .ok (.iload_n 2, 1) := by decide +kernel
theorem dX2_turnOver_62 : decode cX2_turnOver 62 = .ok (.aload_n 0, 1) := by decide +kernel
theorem dX2_turnOver_63 : decode cX2_turnOver 63 = .ok (.getfield 26, 3) := by decide +kernel
theorem dX2_turnOver_66 : decode cX2_turnOver 66 = .ok (.iload_n 2, 1) := by decide +kernel
theorem dX2_turnOver_67 : decode cX2_turnOver 67 = .ok (.iaload, 1) := by decide +kernel
theorem dX2_turnOver_68 : decode cX2_turnOver 68 = .ok (.bipush 10, 2) := by decide +kernel
theorem dX2_turnOver_70 : decode cX2_turnOver 70 = .ok (.iand, 1) := by decide +kernel
theorem dX2_turnOver_71 : decode cX2_turnOver 71 = .ok (.aload_n 0, 1) := by decide +kernel
theorem dX2_turnOver_72 : decode cX2_turnOver 72 = .ok (.getfield 26, 3) := by decide +kernel
theorem dX2_turnOver_75 : decode cX2_turnOver 75 = .ok (.iload_n 2, 1) := by decide +kernel
theorem dX2_turnOver_76 : decode cX2_turnOver 76 = .ok (.iaload, 1) := by decide +kernel
theorem dX2_turnOver_77 : decode cX2_turnOver 77 = .ok (.iconst 2, 1) := by decide +kernel
theorem dX2_turnOver_78 : decode cX2_turnOver 78 = .ok (.ishr, 1) := by decide +kernel
theorem dX2_turnOver_79 : decode cX2_turnOver 79 = .ok (.iconst 1, 1) := by decide +kernel
theorem dX2_turnOver_80 : decode cX2_turnOver 80 = .ok (.iand, 1) := by decide +kernel
theorem dX2_turnOver_81 : decode cX2_turnOver 81 = .ok (.iconst 0, 1) := by decide +kernel
theorem dX2_turnOver_82 : decode cX2_turnOver 82 = .ok (.ishl, 1) := by decide +kernel
theorem dX2_turnOver_83 : decode cX2_turnOver 83 = .ok (.ior, 1) := by decide +kernel
theorem dX2_turnOver_84 : decode cX2_turnOver 84 = .ok (.aload_n 0, 1) := by decide +kernel
theorem dX2_turnOver_85 : decode cX2_turnOver 85 = .ok (.getfield 26, 3) := by decide +kernel
theorem dX2_turnOver_88 : decode cX2_turnOver 88 = .ok (.iload_n 2, 1) := by decide +kernel
theorem dX2_turnOver_89 : decode cX2_turnOver 89 = .ok (.iaload, 1) := by decide +kernel
theorem dX2_turnOver_90 : decode cX2_turnOver 90 = .ok (.iconst 0, 1) := by decide +kernel
theorem dX2_turnOver_91 : decode cX2_turnOver 91 = .ok (.ishr, 1) := by decide +kernel
theorem dX2_turnOver_92 : decode cX2_turnOver 92 = .ok (.iconst 1, 1) := by decide +kernel
theorem dX2_turnOver_93 : decode cX2_turnOver 93 = .ok (.iand, 1) := by decide +kernel
theorem dX2_turnOver_94 : decode cX2_turnOver 94 = .ok (.iconst 2, 1) := by decide +kernel
theorem dX2_turnOver_95 : decode cX2_turnOver 95 = .ok (.ishl, 1) := by decide +kernel
theorem dX2_turnOver_96 : decode cX2_turnOver 96 = .ok (.ior, 1) := by decide +kernel
theorem dX2_turnOver_97 : decode cX2_turnOver 97 = .ok (.iastore, 1) := by decide +kernel
theorem dX2_turnOver_98 : decode cX2_turnOver 98 = .ok (.iload_n 2, 1) := by decide +kernel
theorem dX2_turnOver_99 : decode cX2_turnOver 99 = .ok (.ifCond .le 59, 3) := by decide +kernel
theorem dX2_turnOver_102 : decode cX2_turnOver 102 = .ok (.aload_n 0, 1) := by decide +kernel
theorem dX2_turnOver_103 : decode cX2_turnOver 103 = .ok (.getfield 19, 3) := by decide +kernel
theorem dX2_turnOver_106 : decode cX2_turnOver 106 = .ok (.iload_n 2, 1) := by decide +kernel
theorem dX2_turnOver_107 : decode cX2_turnOver 107 = .ok (.aload_n 0, 1) := by decide +kernel
theorem dX2_turnOver_108 : decode cX2_turnOver 108 = .ok (.getfield 19, 3) := by decide +kernel
theorem dX2_turnOver_111 : decode cX2_turnOver 111 = .ok (.iload_n 2, 1) := by decide +kernel
theorem dX2_turnOver_112 : decode cX2_turnOver 112 = .ok (.iaload, 1) := by decide +kernel
theorem dX2_turnOver_113 : decode cX2_turnOver 113 = .ok (.invokestatic 38, 3) := by decide +kernel
theorem dX2_turnOver_116 : decode cX2_turnOver 116 = .ok (.ifCond .eq 15, 3) := by decide +kernel
theorem dX2_turnOver_119 : decode cX2_turnOver 119 = .ok (.aload_n 0, 1) := by decide +kernel
theorem dX2_turnOver_120 : decode cX2_turnOver 120 = .ok (.getfield 19, 3) := by decide +kernel
theorem dX2_turnOver_123 : decode cX2_turnOver 123 = .ok (.iload_n 2, 1) := by decide +kernel
theorem dX2_turnOver_124 : decode cX2_turnOver 124 = .ok (.iaload, 1) := by decide +kernel
theorem dX2_turnOver_125 : decode cX2_turnOver 125 = .ok (.invokestatic 56, 3) := by decide +kernel
theorem dX2_turnOver_128 : decode cX2_turnOver 128 = .ok (.goto 9, 3) := by decide +kernel
theorem dX2_turnOver_131 : decode cX2_turnOver 131 = .ok (.aload_n 0, 1) := by decide +kernel
theorem dX2_turnOver_132 : decode cX2_turnOver 132 = .ok (.getfield 19, 3) := by decide +kernel
theorem dX2_turnOver_135 : decode cX2_turnOver 135 = .ok (.iload_n 2, 1) := by decide +kernel
theorem dX2_turnOver_136 : decode cX2_turnOver 136 = .ok (.iaload, 1) := by decide +kernel
theorem dX2_turnOver_137 : decode cX2_turnOver 137 = .ok (.iastore, 1) := by decide +kernel
theorem dX2_turnOver_138 : decode cX2_turnOver 138 = .ok (.aload_n 0, 1) := by decide +kernel
theorem dX2_turnOver_139 : decode cX2_turnOver 139 = .ok (.getfield 22, 3) := by decide +kernel
theorem dX2_turnOver_142 : decode cX2_turnOver 142 = .ok (.iload_n 2, 1) := by decide +kernel
theorem dX2_turnOver_143 : decode cX2_turnOver 143 = .ok (.aload_n 0, 1) := by decide +kernel
theorem dX2_turnOver_144 : decode cX2_turnOver 144 = .ok (.getfield 22, 3) := by decide +kernel
theorem dX2_turnOver_147 : decode cX2_turnOver 147 = .ok (.iload_n 2, 1) := by decide +kernel
theorem dX2_turnOver_148 : decode cX2_turnOver 148 = .ok (.baload, 1) := by decide +kernel
theorem dX2_turnOver_149 : decode cX2_turnOver 149 = .ok (.ifCond .ne 7, 3) := by decide +kernel
theorem dX2_turnOver_152 : decode cX2_turnOver 152 = .ok (.iconst 1, 1) := by decide +kernel
theorem dX2_turnOver_153 : decode cX2_turnOver 153 = .ok (.goto 4, 3) := by decide +kernel
theorem dX2_turnOver_156 : decode cX2_turnOver 156 = .ok (.iconst 0, 1) := by decide +kernel
theorem dX2_turnOver_157 : decode cX2_turnOver 157 = .ok (.bastore, 1) := by decide +kernel
theorem dX2_turnOver_158 : decode cX2_turnOver 158 = .ok (.iinc 2 1, 3) := by decide +kernel
theorem dX2_turnOver_161 : decode cX2_turnOver 161 = .ok (.goto (-150), 3) := by decide +kernel
theorem dX2_turnOver_164 : decode cX2_turnOver 164 = .ok (.return_, 1) := by decide +kernel
theorem dX2_branchOf_0 : decode cX2_branchOf 0 = .ok (.iconst 1, 1) := by decide +kernel
theorem dX2_branchOf_1 : decode cX2_branchOf 1 = .ok (.iload_n 1, 1) := by decide +kernel
theorem dX2_branchOf_2 : decode cX2_branchOf 2 = .ok (.ishl, 1) := by decide +kernel
theorem dX2_branchOf_3 : decode cX2_branchOf 3 = .ok (.istore_n 2, 1) := by decide +kernel
theorem dX2_branchOf_4 : decode cX2_branchOf 4 = .ok (.iload_n 1, 1) := by decide +kernel
theorem dX2_branchOf_5 : decode cX2_branchOf 5 = .ok (.iconst 1, 1) := by decide +kernel
theorem dX2_branchOf_6 : decode cX2_branchOf 6 = .ok (.iadd, 1) := by decide +kernel
theorem dX2_branchOf_7 : decode cX2_branchOf 7 = .ok (.istore_n 3, 1) := by decide +kernel
theorem dX2_branchOf_8 : decode cX2_branchOf 8 = .ok (.iload_n 3, 1) := by decide +kernel
theorem dX2_branchOf_9 : decode cX2_branchOf 9 = .ok (.aload_n 0, 1) := by decide +kernel
theorem dX2_branchOf_10 : decode cX2_branchOf 10 = .ok (.getfield 9, 3) := by decide +kernel
theorem dX2_branchOf_13 : decode cX2_branchOf 13 = .ok (.if_icmp .ge 29, 3) := by decide +kernel
theorem dX2_branchOf_16 : decode cX2_branchOf 16 = .ok (.iload_n 2, 1) := by decide +kernel
theorem dX2_branchOf_17 : decode cX2_branchOf 17 = .ok (.aload_n 0, 1) := by decide +kernel
theorem dX2_branchOf_18 : decode cX2_branchOf 18 = .ok (.getfield 15, 3) := by decide +kernel
theorem dX2_branchOf_21 : decode cX2_branchOf 21 = .ok (.iload_n 3, 1) := by decide +kernel
theorem dX2_branchOf_22 : decode cX2_branchOf 22 = .ok (.iaload, 1) := by decide +kernel
theorem dX2_branchOf_23 : decode cX2_branchOf 23 = .ok (.ishr, 1) := by decide +kernel
theorem dX2_branchOf_24 : decode cX2_branchOf 24 = .ok (.iconst 1, 1) := by decide +kernel
theorem dX2_branchOf_25 : decode cX2_branchOf 25 = .ok (.iand, 1) := by decide +kernel
theorem dX2_branchOf_26 : decode cX2_branchOf 26 = .ok (.iconst 1, 1) := by decide +kernel
theorem dX2_branchOf_27 : decode cX2_branchOf 27 = .ok (.if_icmp .ne 9, 3) := by decide +kernel
theorem dX2_branchOf_30 : decode cX2_branchOf 30 = .ok (.iload_n 2, 1) := by decide +kernel
theorem dX2_branchOf_31 : decode cX2_branchOf 31 = .ok (.iconst 1, 1) := by decide +kernel
theorem dX2_branchOf_32 : decode cX2_branchOf 32 = .ok (.iload_n 3, 1) := by decide +kernel
theorem dX2_branchOf_33 : decode cX2_branchOf 33 = .ok (.ishl, 1) := by decide +kernel
theorem dX2_branchOf_34 : decode cX2_branchOf 34 = .ok (.ior, 1) := by decide +kernel
theorem dX2_branchOf_35 : decode cX2_branchOf 35 = .ok (.istore_n 2, 1) := by decide +kernel
theorem dX2_branchOf_36 : decode cX2_branchOf 36 = .ok (.iinc 3 1, 3) := by decide +kernel
theorem dX2_branchOf_39 : decode cX2_branchOf 39 = .ok (.goto (-31), 3) := by decide +kernel
theorem dX2_branchOf_42 : decode cX2_branchOf 42 = .ok (.iload_n 2, 1) := by decide +kernel
theorem dX2_branchOf_43 : decode cX2_branchOf 43 = .ok (.ireturn, 1) := by decide +kernel
theorem dX2_movingWith_0 : decode cX2_movingWith 0 = .ok (.aload_n 0, 1) := by decide +kernel
theorem dX2_movingWith_1 : decode cX2_movingWith 1 = .ok (.iload_n 1, 1) := by decide +kernel
theorem dX2_movingWith_2 : decode cX2_movingWith 2 = .ok (.invokevirtual 62, 3) := by decide +kernel
theorem dX2_movingWith_5 : decode cX2_movingWith 5 = .ok (.istore_n 2, 1) := by decide +kernel
theorem dX2_movingWith_6 : decode cX2_movingWith 6 = .ok (.iload_n 2, 1) := by decide +kernel
theorem dX2_movingWith_7 : decode cX2_movingWith 7 = .ok (.invokestatic 65, 3) := by decide +kernel
theorem dX2_movingWith_10 : decode cX2_movingWith 10 = .ok (.istore_n 3, 1) := by decide +kernel
theorem dX2_movingWith_11 : decode cX2_movingWith 11 = .ok (.iload_n 3, 1) := by decide +kernel
theorem dX2_movingWith_12 : decode cX2_movingWith 12 = .ok (.aload_n 0, 1) := by decide +kernel
theorem dX2_movingWith_13 : decode cX2_movingWith 13 = .ok (.getfield 9, 3) := by decide +kernel
theorem dX2_movingWith_16 : decode cX2_movingWith 16 = .ok (.iload_n 3, 1) := by decide +kernel
theorem dX2_movingWith_17 : decode cX2_movingWith 17 = .ok (.isub, 1) := by decide +kernel
theorem dX2_movingWith_18 : decode cX2_movingWith 18 = .ok (.if_icmp .gt 7, 3) := by decide +kernel
theorem dX2_movingWith_21 : decode cX2_movingWith 21 = .ok (.iload_n 2, 1) := by decide +kernel
theorem dX2_movingWith_22 : decode cX2_movingWith 22 = .ok (.goto 15, 3) := by decide +kernel
theorem dX2_movingWith_25 : decode cX2_movingWith 25 = .ok (.iconst 1, 1) := by decide +kernel
theorem dX2_movingWith_26 : decode cX2_movingWith 26 = .ok (.aload_n 0, 1) := by decide +kernel
theorem dX2_movingWith_27 : decode cX2_movingWith 27 = .ok (.getfield 9, 3) := by decide +kernel
theorem dX2_movingWith_30 : decode cX2_movingWith 30 = .ok (.ishl, 1) := by decide +kernel
theorem dX2_movingWith_31 : decode cX2_movingWith 31 = .ok (.iconst 1, 1) := by decide +kernel
theorem dX2_movingWith_32 : decode cX2_movingWith 32 = .ok (.isub, 1) := by decide +kernel
theorem dX2_movingWith_33 : decode cX2_movingWith 33 = .ok (.iload_n 2, 1) := by decide +kernel
theorem dX2_movingWith_34 : decode cX2_movingWith 34 = .ok (.iconst (-1), 1) := by decide +kernel
theorem dX2_movingWith_35 : decode cX2_movingWith 35 = .ok (.ixor, 1) := by decide +kernel
theorem dX2_movingWith_36 : decode cX2_movingWith 36 = .ok (.iand, 1) := by decide +kernel
theorem dX2_movingWith_37 : decode cX2_movingWith 37 = .ok (.ireturn, 1) := by decide +kernel
theorem dX3_init_0 : decode cX3_init 0 = .ok (.aload_n 0, 1) := by decide +kernel
theorem dX3_init_1 : decode cX3_init 1 = .ok (.invokespecial 3, 3) := by decide +kernel
theorem dX3_init_4 : decode cX3_init 4 = .ok (.aload_n 0, 1) := by decide +kernel
theorem dX3_init_5 : decode cX3_init 5 = .ok (.iconst 4, 1) := by decide +kernel
theorem dX3_init_6 : decode cX3_init 6 = .ok (.newarray .int, 2) := by decide +kernel
theorem dX3_init_8 : decode cX3_init 8 = .ok (.putfield 9, 3) := by decide +kernel
theorem dX3_init_11 : decode cX3_init 11 = .ok (.aload_n 0, 1) := by decide +kernel
theorem dX3_init_12 : decode cX3_init 12 = .ok (.iconst 0, 1) := by decide +kernel
theorem dX3_init_13 : decode cX3_init 13 = .ok (.putfield 15, 3) := by decide +kernel
theorem dX3_init_16 : decode cX3_init 16 = .ok (.aload_n 0, 1) := by decide +kernel
theorem dX3_init_17 : decode cX3_init 17 = .ok (.iconst 4, 1) := by decide +kernel
theorem dX3_init_18 : decode cX3_init 18 = .ok (.newarray .int, 2) := by decide +kernel
theorem dX3_init_20 : decode cX3_init 20 = .ok (.putfield 19, 3) := by decide +kernel
theorem dX3_init_23 : decode cX3_init 23 = .ok (.aload_n 0, 1) := by decide +kernel
theorem dX3_init_24 : decode cX3_init 24 = .ok (.iconst 4, 1) := by decide +kernel
theorem dX3_init_25 : decode cX3_init 25 = .ok (.bipush 13, 2) := by decide +kernel
theorem dX3_init_27 : decode cX3_init 27 = .ok (.multianewarray 22 2, 4) := by decide +kernel
theorem dX3_init_31 : decode cX3_init 31 = .ok (.putfield 24, 3) := by decide +kernel
theorem dX3_init_34 : decode cX3_init 34 = .ok (.aload_n 0, 1) := by decide +kernel
theorem dX3_init_35 : decode cX3_init 35 = .ok (.iconst 4, 1) := by decide +kernel
theorem dX3_init_36 : decode cX3_init 36 = .ok (.bipush 13, 2) := by decide +kernel
theorem dX3_init_38 : decode cX3_init 38 = .ok (.multianewarray 22 2, 4) := by decide +kernel
theorem dX3_init_42 : decode cX3_init 42 = .ok (.putfield 27, 3) := by decide +kernel
theorem dX3_init_45 : decode cX3_init 45 = .ok (.return_, 1) := by decide +kernel
theorem dX3_isFree_0 : decode cX3_isFree 0 = .ok (.aload_n 0, 1) := by decide +kernel
theorem dX3_isFree_1 : decode cX3_isFree 1 = .ok (.aload_n 1, 1) := by decide +kernel
theorem dX3_isFree_2 : decode cX3_isFree 2 = .ok (.aload_n 2, 1) := by decide +kernel
theorem dX3_isFree_3 : decode cX3_isFree 3 = .ok (.iload_n 3, 1) := by decide +kernel
theorem dX3_isFree_4 : decode cX3_isFree 4 = .ok (.invokevirtual 30, 3) := by decide +kernel
theorem dX3_isFree_7 : decode cX3_isFree 7 = .ok (.iconst 0, 1) := by decide +kernel
theorem dX3_isFree_8 : decode cX3_isFree 8 = .ok (.istore 4, 2) := by decide +kernel
theorem dX3_isFree_10 : decode cX3_isFree 10 = .ok (.iload 4, 2) := by decide +kernel
theorem dX3_isFree_12 : decode cX3_isFree 12 = .ok (.aload_n 1, 1) := by decide +kernel
theorem dX3_isFree_13 : decode cX3_isFree 13 = .ok (.getfield 34, 3) := by decide +kernel
theorem dX3_isFree_16 : decode cX3_isFree 16 = .ok (.if_icmp .ge 22, 3) := by decide +kernel
theorem dX3_isFree_19 : decode cX3_isFree 19 = .ok (.aload_n 0, 1) := by decide +kernel
theorem dX3_isFree_20 : decode cX3_isFree 20 = .ok (.aload_n 2, 1) := by decide +kernel
theorem dX3_isFree_21 : decode cX3_isFree 21 = .ok (.aload_n 1, 1) := by decide +kernel
theorem dX3_isFree_22 : decode cX3_isFree 22 = .ok (.getfield 39, 3) := by decide +kernel
theorem dX3_isFree_25 : decode cX3_isFree 25 = .ok (.iload_n 3, 1) := by decide +kernel
theorem dX3_isFree_26 : decode cX3_isFree 26 = .ok (.iaload, 1) := by decide +kernel
theorem dX3_isFree_27 : decode cX3_isFree 27 = .ok (.iload 4, 2) := by decide +kernel
theorem dX3_isFree_29 : decode cX3_isFree 29 = .ok (.invokevirtual 42, 3) := by decide +kernel
theorem dX3_isFree_32 : decode cX3_isFree 32 = .ok (.iinc 4 1, 3) := by decide +kernel
theorem dX3_isFree_35 : decode cX3_isFree 35 = .ok (.goto (-25), 3) := by decide +kernel
theorem dX3_isFree_38 : decode cX3_isFree 38 = .ok (.aload_n 1, 1) := by decide +kernel
theorem dX3_isFree_39 : decode cX3_isFree 39 = .ok (.iload_n 3, 1) := by decide +kernel
theorem dX3_isFree_40 : decode cX3_isFree 40 = .ok (.invokevirtual 46, 3) := by decide +kernel
theorem dX3_isFree_43 : decode cX3_isFree 43 = .ok (.istore 4, 2) := by decide +kernel
theorem dX3_isFree_45 : decode cX3_isFree 45 = .ok (.iload 4, 2) := by decide +kernel
theorem dX3_isFree_47 : decode cX3_isFree 47 = .ok (.iload_n 3, 1) := by decide +kernel
theorem dX3_isFree_48 : decode cX3_isFree 48 = .ok (.ishr, 1) := by decide +kernel
theorem dX3_isFree_49 : decode cX3_isFree 49 = .ok (.iconst 1, 1) := by decide +kernel
theorem dX3_isFree_50 : decode cX3_isFree 50 = .ok (.iand, 1) := by decide +kernel
theorem dX3_isFree_51 : decode cX3_isFree 51 = .ok (.iconst 1, 1) := by decide +kernel
theorem dX3_isFree_52 : decode cX3_isFree 52 = .ok (.if_icmp .ne 7, 3) := by decide +kernel
theorem dX3_isFree_55 : decode cX3_isFree 55 = .ok (.iconst 1, 1) := by decide +kernel
theorem dX3_isFree_56 : decode cX3_isFree 56 = .ok (.goto 4, 3) := by decide +kernel
theorem dX3_isFree_59 : decode cX3_isFree 59 = .ok (.iconst 3, 1) := by decide +kernel
theorem dX3_isFree_60 : decode cX3_isFree 60 = .ok (.istore 5, 2) := by decide +kernel
theorem dX3_isFree_62 : decode cX3_isFree 62 = .ok (.iconst 0, 1) := by decide +kernel
theorem dX3_isFree_63 : decode cX3_isFree 63 = .ok (.istore 6, 2) := by decide +kernel
theorem dX3_isFree_65 : decode cX3_isFree 65 = .ok (.iload 6, 2) := by decide +kernel
theorem dX3_isFree_67 : decode cX3_isFree 67 = .ok (.aload_n 1, 1) := by decide +kernel
theorem dX3_isFree_68 : decode cX3_isFree 68 = .ok (.getfield 34, 3) := by decide +kernel
theorem dX3_isFree_71 : decode cX3_isFree 71 = .ok (.if_icmp .ge 38, 3) := by decide +kernel
theorem dX3_isFree_74 : decode cX3_isFree 74 = .ok (.iload 4, 2) := by decide +kernel
theorem dX3_isFree_76 : decode cX3_isFree 76 = .ok (.iload 6, 2) := by decide +kernel
theorem dX3_isFree_78 : decode cX3_isFree 78 = .ok (.ishr, 1) := by decide +kernel
theorem dX3_isFree_79 : decode cX3_isFree 79 = .ok (.iconst 1, 1) := by decide +kernel
theorem dX3_isFree_80 : decode cX3_isFree 80 = .ok (.iand, 1) := by decide +kernel
theorem dX3_isFree_81 : decode cX3_isFree 81 = .ok (.iconst 1, 1) := by decide +kernel
theorem dX3_isFree_82 : decode cX3_isFree 82 = .ok (.if_icmp .ne 21, 3) := by decide +kernel
theorem dX3_isFree_85 : decode cX3_isFree 85 = .ok (.aload_n 0, 1) := by decide +kernel
theorem dX3_isFree_86 : decode cX3_isFree 86 = .ok (.aload_n 1, 1) := by decide +kernel
theorem dX3_isFree_87 : decode cX3_isFree 87 = .ok (.aload_n 2, 1) := by decide +kernel
theorem dX3_isFree_88 : decode cX3_isFree 88 = .ok (.iload_n 3, 1) := by decide +kernel
theorem dX3_isFree_89 : decode cX3_isFree 89 = .ok (.iload 4, 2) := by decide +kernel
theorem dX3_isFree_91 : decode cX3_isFree 91 = .ok (.iload 6, 2) := by decide +kernel
theorem dX3_isFree_93 : decode cX3_isFree 93 = .ok (.iload 5, 2) := by decide +kernel
theorem dX3_isFree_95 : decode cX3_isFree 95 = .ok (.invokevirtual 50, 3) := by decide +kernel
theorem dX3_isFree_98 : decode cX3_isFree 98 = .ok (.ifCond .eq 5, 3) := by decide +kernel
theorem dX3_isFree_101 : decode cX3_isFree 101 = .ok (.iconst 0, 1) := by decide +kernel
theorem dX3_isFree_102 : decode cX3_isFree 102 = .ok (.ireturn, 1) := by decide +kernel
theorem dX3_isFree_103 : decode cX3_isFree 103 = .ok (.iinc 6 1, 3) := by decide +kernel
theorem dX3_isFree_106 : decode cX3_isFree 106 = .ok (.goto (-41), 3) := by decide +kernel
theorem dX3_isFree_109 : decode cX3_isFree 109 = .ok (.iconst 1, 1) := by decide +kernel
theorem dX3_isFree_110 : decode cX3_isFree 110 = .ok (.ireturn, 1) := by decide +kernel
theorem dX3_setDirections_0 : decode cX3_setDirections 0 = .ok (.aload_n 1, 1) := by decide +kernel
theorem dX3_setDirections_1 : decode cX3_setDirections 1 = .ok (.getfield 39, 3) := by decide +kernel
theorem dX3_setDirections_4 : decode cX3_setDirections 4 = .ok (.iload_n 3, 1) := by decide +kernel
theorem dX3_setDirections_5 : decode cX3_setDirections 5 = .ok (.iaload, 1) := by decide +kernel
theorem dX3_setDirections_6 : decode cX3_setDirections 6 = .ok (.istore 4, 2) := by decide +kernel
theorem dX3_setDirections_8 : decode cX3_setDirections 8 = .ok (.aload_n 2, 1) := by decide +kernel
theorem dX3_setDirections_9 : decode cX3_setDirections 9 = .ok (.iload 4, 2) := by decide +kernel
theorem dX3_setDirections_11 : decode cX3_setDirections 11 = .ok (.aload_n 1, 1) := by decide +kernel
theorem dX3_setDirections_12 : decode cX3_setDirections 12 = .ok (.getfield 54, 3) := by decide +kernel
theorem dX3_setDirections_15 : decode cX3_setDirections 15 = .ok (.iload_n 3, 1) := by decide +kernel
theorem dX3_setDirections_16 : decode cX3_setDirections 16 = .ok (.iaload, 1) := by decide +kernel
theorem dX3_setDirections_17 : decode cX3_setDirections 17 = .ok (.invokevirtual 57, 3) := by decide +kernel
theorem dX3_setDirections_20 : decode cX3_setDirections 20 = .ok (.istore 5, 2) := by decide +kernel
theorem dX3_setDirections_22 : decode cX3_setDirections 22 = .ok (.aload_n 1, 1) := by decide +kernel
theorem dX3_setDirections_23 : decode cX3_setDirections 23 = .ok (.getfield 63, 3) := by decide +kernel
theorem dX3_setDirections_26 : decode cX3_setDirections 26 = .ok (.iload_n 3, 1) := by decide +kernel
theorem dX3_setDirections_27 : decode cX3_setDirections 27 = .ok (.baload, 1) := by decide +kernel
theorem dX3_setDirections_28 : decode cX3_setDirections 28 = .ok (.ifCond .eq 13, 3) := by decide +kernel
theorem dX3_setDirections_31 : decode cX3_setDirections 31 = .ok (.aload_n 2, 1) := by decide +kernel
theorem dX3_setDirections_32 : decode cX3_setDirections 32 = .ok (.getfield 67, 3) := by decide +kernel
theorem dX3_setDirections_35 : decode cX3_setDirections 35 = .ok (.iload 4, 2) := by decide +kernel
theorem dX3_setDirections_37 : decode cX3_setDirections 37 = .ok (.iaload, 1) := by decide +kernel
theorem dX3_setDirections_38 : decode cX3_setDirections 38 = .ok (.goto 11, 3) := by decide +kernel
theorem dX3_setDirections_41 : decode cX3_setDirections 41 = .ok (.aload_n 2, 1) := by decide +kernel
theorem dX3_setDirections_42 : decode cX3_setDirections 42 = .ok (.getfield 67, 3) := by decide +kernel
theorem dX3_setDirections_45 : decode cX3_setDirections 45 = .ok (.iload 4, 2) := by decide +kernel
theorem dX3_setDirections_47 : decode cX3_setDirections 47 = .ok (.iaload, 1) := by decide +kernel
theorem dX3_setDirections_48 : decode cX3_setDirections 48 = .ok (.ineg, 1) := by decide +kernel
theorem dX3_setDirections_49 : decode cX3_setDirections 49 = .ok (.istore 6, 2) := by decide +kernel
theorem dX3_setDirections_51 : decode cX3_setDirections 51 = .ok (.aload_n 0, 1) := by decide +kernel
theorem dX3_setDirections_52 : decode cX3_setDirections 52 = .ok (.getfield 9, 3) := by decide +kernel
theorem dX3_setDirections_55 : decode cX3_setDirections 55 = .ok (.iconst 0, 1) := by decide +kernel
theorem dX3_setDirections_56 : decode cX3_setDirections 56 = .ok (.iload 5, 2) := by decide +kernel
theorem dX3_setDirections_58 : decode cX3_setDirections 58 = .ok (.iastore, 1) := by decide +kernel
theorem dX3_setDirections_59 : decode cX3_setDirections 59 = .ok (.aload_n 0, 1) := by decide +kernel
theorem dX3_setDirections_60 : decode cX3_setDirections 60 = .ok (.getfield 9, 3) := by decide +kernel
theorem dX3_setDirections_63 : decode cX3_setDirections 63 = .ok (.iconst 1, 1) := by decide +kernel
theorem dX3_setDirections_64 : decode cX3_setDirections 64 = .ok (.iload 6, 2) := by decide +kernel
theorem dX3_setDirections_66 : decode cX3_setDirections 66 = .ok (.iastore, 1) := by decide +kernel
theorem dX3_setDirections_67 : decode cX3_setDirections 67 = .ok (.aload_n 0, 1) := by decide +kernel
theorem dX3_setDirections_68 : decode cX3_setDirections 68 = .ok (.getfield 9, 3) := by decide +kernel
theorem dX3_setDirections_71 : decode cX3_setDirections 71 = .ok (.iconst 2, 1) := by decide +kernel
theorem dX3_setDirections_72 : decode cX3_setDirections 72 = .ok (.iload 5, 2) := by decide +kernel
theorem dX3_setDirections_74 : decode cX3_setDirections 74 = .ok (.ineg, 1) := by decide +kernel
theorem dX3_setDirections_75 : decode cX3_setDirections 75 = .ok (.iastore, 1) := by decide +kernel
theorem dX3_setDirections_76 : decode cX3_setDirections 76 = .ok (.aload_n 0, 1) := by decide +kernel
theorem dX3_setDirections_77 : decode cX3_setDirections 77 = .ok (.getfield 9, 3) := by decide +kernel
theorem dX3_setDirections_80 : decode cX3_setDirections 80 = .ok (.iconst 3, 1) := by decide +kernel
theorem dX3_setDirections_81 : decode cX3_setDirections 81 = .ok (.iload 6, 2) := by decide +kernel
theorem dX3_setDirections_83 : decode cX3_setDirections 83 = .ok (.ineg, 1) := by decide +kernel
theorem dX3_setDirections_84 : decode cX3_setDirections 84 = .ok (.iastore, 1) := by decide +kernel
theorem dX3_setDirections_85 : decode cX3_setDirections 85 = .ok (.aload_n 0, 1) := by decide +kernel
theorem dX3_setDirections_86 : decode cX3_setDirections 86 = .ok (.aload_n 2, 1) := by decide +kernel
theorem dX3_setDirections_87 : decode cX3_setDirections 87 = .ok (.iload 4, 2) := by decide +kernel
theorem dX3_setDirections_89 : decode cX3_setDirections 89 = .ok (.aload_n 1, 1) := by decide +kernel
theorem dX3_setDirections_90 : decode cX3_setDirections 90 = .ok (.getfield 54, 3) := by decide +kernel
theorem dX3_setDirections_93 : decode cX3_setDirections 93 = .ok (.iload_n 3, 1) := by decide +kernel
theorem dX3_setDirections_94 : decode cX3_setDirections 94 = .ok (.iaload, 1) := by decide +kernel
theorem dX3_setDirections_95 : decode cX3_setDirections 95 = .ok (.invokevirtual 70, 3) := by decide +kernel
theorem dX3_setDirections_98 : decode cX3_setDirections 98 = .ok (.putfield 15, 3) := by decide +kernel
theorem dX3_setDirections_101 : decode cX3_setDirections 101 = .ok (.return_, 1) := by decide +kernel
theorem dX3_setBands_0 : decode cX3_setBands 0 = .ok (.aload_n 1, 1) := by decide +kernel
theorem dX3_setBands_1 : decode cX3_setBands 1 = .ok (.iload_n 2, 1) := by decide +kernel
theorem dX3_setBands_2 : decode cX3_setBands 2 = .ok (.aload_n 0, 1) := by decide +kernel
theorem dX3_setBands_3 : decode cX3_setBands 3 = .ok (.getfield 9, 3) := by decide +kernel
theorem dX3_setBands_6 : decode cX3_setBands 6 = .ok (.iconst 0, 1) := by decide +kernel
theorem dX3_setBands_7 : decode cX3_setBands 7 = .ok (.iaload, 1) := by decide +kernel
theorem dX3_setBands_8 : decode cX3_setBands 8 = .ok (.invokevirtual 73, 3) := by decide +kernel
theorem dX3_setBands_11 : decode cX3_setBands 11 = .ok (.istore 4, 2) := by decide +kernel
theorem dX3_setBands_13 : decode cX3_setBands 13 = .ok (.aload_n 1, 1) := by decide +kernel
theorem dX3_setBands_14 : decode cX3_setBands 14 = .ok (.iload_n 2, 1) := by decide +kernel
theorem dX3_setBands_15 : decode cX3_setBands 15 = .ok (.aload_n 0, 1) := by decide +kernel
theorem dX3_setBands_16 : decode cX3_setBands 16 = .ok (.getfield 9, 3) := by decide +kernel
theorem dX3_setBands_19 : decode cX3_setBands 19 = .ok (.iconst 1, 1) := by decide +kernel
theorem dX3_setBands_20 : decode cX3_setBands 20 = .ok (.iaload, 1) := by decide +kernel
theorem dX3_setBands_21 : decode cX3_setBands 21 = .ok (.invokevirtual 73, 3) := by decide +kernel
theorem dX3_setBands_24 : decode cX3_setBands 24 = .ok (.istore 5, 2) := by decide +kernel
theorem dX3_setBands_26 : decode cX3_setBands 26 = .ok (.aload_n 0, 1) := by decide +kernel
theorem dX3_setBands_27 : decode cX3_setBands 27 = .ok (.getfield 19, 3) := by decide +kernel
theorem dX3_setBands_30 : decode cX3_setBands 30 = .ok (.iconst 0, 1) := by decide +kernel
theorem dX3_setBands_31 : decode cX3_setBands 31 = .ok (.aload_n 1, 1) := by decide +kernel
theorem dX3_setBands_32 : decode cX3_setBands 32 = .ok (.iload_n 3, 1) := by decide +kernel
theorem dX3_setBands_33 : decode cX3_setBands 33 = .ok (.aload_n 0, 1) := by decide +kernel
theorem dX3_setBands_34 : decode cX3_setBands 34 = .ok (.getfield 9, 3) := by decide +kernel
theorem dX3_setBands_37 : decode cX3_setBands 37 = .ok (.iconst 0, 1) := by decide +kernel
theorem dX3_setBands_38 : decode cX3_setBands 38 = .ok (.iaload, 1) := by decide +kernel
theorem dX3_setBands_39 : decode cX3_setBands 39 = .ok (.invokevirtual 73, 3) := by decide +kernel
theorem dX3_setBands_42 : decode cX3_setBands 42 = .ok (.iload 4, 2) := by decide +kernel
theorem dX3_setBands_44 : decode cX3_setBands 44 = .ok (.isub, 1) := by decide +kernel
theorem dX3_setBands_45 : decode cX3_setBands 45 = .ok (.iastore, 1) := by decide +kernel
theorem dX3_setBands_46 : decode cX3_setBands 46 = .ok (.aload_n 0, 1) := by decide +kernel
theorem dX3_setBands_47 : decode cX3_setBands 47 = .ok (.getfield 19, 3) := by decide +kernel
theorem dX3_setBands_50 : decode cX3_setBands 50 = .ok (.iconst 1, 1) := by decide +kernel
theorem dX3_setBands_51 : decode cX3_setBands 51 = .ok (.aload_n 1, 1) := by decide +kernel
theorem dX3_setBands_52 : decode cX3_setBands 52 = .ok (.iload_n 3, 1) := by decide +kernel
theorem dX3_setBands_53 : decode cX3_setBands 53 = .ok (.aload_n 0, 1) := by decide +kernel
theorem dX3_setBands_54 : decode cX3_setBands 54 = .ok (.getfield 9, 3) := by decide +kernel
theorem dX3_setBands_57 : decode cX3_setBands 57 = .ok (.iconst 1, 1) := by decide +kernel
theorem dX3_setBands_58 : decode cX3_setBands 58 = .ok (.iaload, 1) := by decide +kernel
theorem dX3_setBands_59 : decode cX3_setBands 59 = .ok (.invokevirtual 73, 3) := by decide +kernel
theorem dX3_setBands_62 : decode cX3_setBands 62 = .ok (.iload 5, 2) := by decide +kernel
theorem dX3_setBands_64 : decode cX3_setBands 64 = .ok (.isub, 1) := by decide +kernel
theorem dX3_setBands_65 : decode cX3_setBands 65 = .ok (.iastore, 1) := by decide +kernel
theorem dX3_setBands_66 : decode cX3_setBands 66 = .ok (.aload_n 0, 1) := by decide +kernel
theorem dX3_setBands_67 : decode cX3_setBands 67 = .ok (.getfield 19, 3) := by decide +kernel
theorem dX3_setBands_70 : decode cX3_setBands 70 = .ok (.iconst 2, 1) := by decide +kernel
theorem dX3_setBands_71 : decode cX3_setBands 71 = .ok (.aload_n 1, 1) := by decide +kernel
theorem dX3_setBands_72 : decode cX3_setBands 72 = .ok (.iload_n 3, 1) := by decide +kernel
theorem dX3_setBands_73 : decode cX3_setBands 73 = .ok (.aload_n 0, 1) := by decide +kernel
theorem dX3_setBands_74 : decode cX3_setBands 74 = .ok (.getfield 9, 3) := by decide +kernel
theorem dX3_setBands_77 : decode cX3_setBands 77 = .ok (.iconst 2, 1) := by decide +kernel
theorem dX3_setBands_78 : decode cX3_setBands 78 = .ok (.iaload, 1) := by decide +kernel
theorem dX3_setBands_79 : decode cX3_setBands 79 = .ok (.invokevirtual 73, 3) := by decide +kernel
theorem dX3_setBands_82 : decode cX3_setBands 82 = .ok (.iload 4, 2) := by decide +kernel
theorem dX3_setBands_84 : decode cX3_setBands 84 = .ok (.iadd, 1) := by decide +kernel
theorem dX3_setBands_85 : decode cX3_setBands 85 = .ok (.iastore, 1) := by decide +kernel
theorem dX3_setBands_86 : decode cX3_setBands 86 = .ok (.aload_n 0, 1) := by decide +kernel
theorem dX3_setBands_87 : decode cX3_setBands 87 = .ok (.getfield 19, 3) := by decide +kernel
theorem dX3_setBands_90 : decode cX3_setBands 90 = .ok (.iconst 3, 1) := by decide +kernel
theorem dX3_setBands_91 : decode cX3_setBands 91 = .ok (.aload_n 1, 1) := by decide +kernel
theorem dX3_setBands_92 : decode cX3_setBands 92 = .ok (.iload_n 3, 1) := by decide +kernel
theorem dX3_setBands_93 : decode cX3_setBands 93 = .ok (.aload_n 0, 1) := by decide +kernel
theorem dX3_setBands_94 : decode cX3_setBands 94 = .ok (.getfield 9, 3) := by decide +kernel
theorem dX3_setBands_97 : decode cX3_setBands 97 = .ok (.iconst 3, 1) := by decide +kernel
theorem dX3_setBands_98 : decode cX3_setBands 98 = .ok (.iaload, 1) := by decide +kernel
theorem dX3_setBands_99 : decode cX3_setBands 99 = .ok (.invokevirtual 73, 3) := by decide +kernel
theorem dX3_setBands_102 : decode cX3_setBands 102 = .ok (.iload 5, 2) := by decide +kernel
theorem dX3_setBands_104 : decode cX3_setBands 104 = .ok (.iadd, 1) := by decide +kernel
theorem dX3_setBands_105 : decode cX3_setBands 105 = .ok (.iastore, 1) := by decide +kernel
theorem dX3_setBands_106 : decode cX3_setBands 106 = .ok (.iconst 0, 1) := by decide +kernel
theorem dX3_setBands_107 : decode cX3_setBands 107 = .ok (.istore 6, 2) := by decide +kernel
theorem dX3_setBands_109 : decode cX3_setBands 109 = .ok (.iload 6, 2) := by decide +kernel
theorem dX3_setBands_111 : decode cX3_setBands 111 = .ok (.iconst 4, 1) := by decide +kernel
theorem dX3_setBands_112 : decode cX3_setBands 112 = .ok (.if_icmp .ge 142, 3) := by decide +kernel
theorem dX3_setBands_115 : decode cX3_setBands 115 = .ok (.aload_n 0, 1) := by decide +kernel
theorem dX3_setBands_116 : decode cX3_setBands 116 = .ok (.getfield 19, 3) := by decide +kernel
theorem dX3_setBands_119 : decode cX3_setBands 119 = .ok (.iload 6, 2) := by decide +kernel
theorem dX3_setBands_121 : decode cX3_setBands 121 = .ok (.iaload, 1) := by decide +kernel
theorem dX3_setBands_122 : decode cX3_setBands 122 = .ok (.istore 7, 2) := by decide +kernel
theorem dX3_setBands_124 : decode cX3_setBands 124 = .ok (.aload_n 0, 1) := by decide +kernel
theorem dX3_setBands_125 : decode cX3_setBands 125 = .ok (.getfield 19, 3) := by decide +kernel
theorem dX3_setBands_128 : decode cX3_setBands 128 = .ok (.iload 6, 2) := by decide +kernel
theorem dX3_setBands_130 : decode cX3_setBands 130 = .ok (.iconst 1, 1) := by decide +kernel
theorem dX3_setBands_131 : decode cX3_setBands 131 = .ok (.iadd, 1) := by decide +kernel
theorem dX3_setBands_132 : decode cX3_setBands 132 = .ok (.iconst 3, 1) := by decide +kernel
theorem dX3_setBands_133 : decode cX3_setBands 133 = .ok (.iand, 1) := by decide +kernel
theorem dX3_setBands_134 : decode cX3_setBands 134 = .ok (.iaload, 1) := by decide +kernel
theorem dX3_setBands_135 : decode cX3_setBands 135 = .ok (.istore 8, 2) := by decide +kernel
theorem dX3_setBands_137 : decode cX3_setBands 137 = .ok (.iload 7, 2) := by decide +kernel
theorem dX3_setBands_139 : decode cX3_setBands 139 = .ok (.ifCond .le 12, 3) := by decide +kernel
theorem dX3_setBands_142 : decode cX3_setBands 142 = .ok (.iload 8, 2) := by decide +kernel
theorem dX3_setBands_144 : decode cX3_setBands 144 = .ok (.ifCond .lt 7, 3) := by decide +kernel
theorem dX3_setBands_147 : decode cX3_setBands 147 = .ok (.iconst 1, 1) := by decide +kernel
theorem dX3_setBands_148 : decode cX3_setBands 148 = .ok (.goto 4, 3) := by decide +kernel
theorem dX3_setBands_151 : decode cX3_setBands 151 = .ok (.iconst 0, 1) := by decide +kernel
theorem dX3_setBands_152 : decode cX3_setBands 152 = .ok (.istore 9, 2) := by decide +kernel
theorem dX3_setBands_154 : decode cX3_setBands 154 = .ok (.iconst 0, 1) := by decide +kernel
theorem dX3_setBands_155 : decode cX3_setBands 155 = .ok (.aload_n 0, 1) := by decide +kernel
theorem dX3_setBands_156 : decode cX3_setBands 156 = .ok (.getfield 19, 3) := by decide +kernel
theorem dX3_setBands_159 : decode cX3_setBands 159 = .ok (.iload 6, 2) := by decide +kernel
theorem dX3_setBands_161 : decode cX3_setBands 161 = .ok (.iconst 2, 1) := by decide +kernel
theorem dX3_setBands_162 : decode cX3_setBands 162 = .ok (.iadd, 1) := by decide +kernel
theorem dX3_setBands_163 : decode cX3_setBands 163 = .ok (.iconst 3, 1) := by decide +kernel
theorem dX3_setBands_164 : decode cX3_setBands 164 = .ok (.iand, 1) := by decide +kernel
theorem dX3_setBands_165 : decode cX3_setBands 165 = .ok (.iaload, 1) := by decide +kernel
theorem dX3_setBands_166 : decode cX3_setBands 166 = .ok (.ineg, 1) := by decide +kernel
theorem dX3_setBands_167 : decode cX3_setBands 167 = .ok (.invokestatic 76, 3) := by decide +kernel
theorem dX3_setBands_170 : decode cX3_setBands 170 = .ok (.istore 10, 2) := by decide +kernel
theorem dX3_setBands_172 : decode cX3_setBands 172 = .ok (.iconst 0, 1) := by decide +kernel
theorem dX3_setBands_173 : decode cX3_setBands 173 = .ok (.aload_n 0, 1) := by decide +kernel
theorem dX3_setBands_174 : decode cX3_setBands 174 = .ok (.getfield 19, 3) := by decide +kernel
theorem dX3_setBands_177 : decode cX3_setBands 177 = .ok (.iload 6, 2) := by decide +kernel
theorem dX3_setBands_179 : decode cX3_setBands 179 = .ok (.iconst 3, 1) := by decide +kernel
theorem dX3_setBands_180 : decode cX3_setBands 180 = .ok (.iadd, 1) := by decide +kernel
theorem dX3_setBands_181 : decode cX3_setBands 181 = .ok (.iconst 3, 1) := by decide +kernel
theorem dX3_setBands_182 : decode cX3_setBands 182 = .ok (.iand, 1) := by decide +kernel
theorem dX3_setBands_183 : decode cX3_setBands 183 = .ok (.iaload, 1) := by decide +kernel
theorem dX3_setBands_184 : decode cX3_setBands 184 = .ok (.ineg, 1) := by decide +kernel
theorem dX3_setBands_185 : decode cX3_setBands 185 = .ok (.invokestatic 76, 3) := by decide +kernel
theorem dX3_setBands_188 : decode cX3_setBands 188 = .ok (.istore 11, 2) := by decide +kernel
theorem dX3_setBands_190 : decode cX3_setBands 190 = .ok (.aload_n 0, 1) := by decide +kernel
theorem dX3_setBands_191 : decode cX3_setBands 191 = .ok (.getfield 24, 3) := by decide +kernel
theorem dX3_setBands_194 : decode cX3_setBands 194 = .ok (.iload 6, 2) := by decide +kernel
theorem dX3_setBands_196 : decode cX3_setBands 196 = .ok (.aaload, 1) := by decide +kernel
theorem dX3_setBands_197 : decode cX3_setBands 197 = .ok (.iload_n 3, 1) := by decide +kernel
theorem dX3_setBands_198 : decode cX3_setBands 198 = .ok (.iload 9, 2) := by decide +kernel
theorem dX3_setBands_200 : decode cX3_setBands 200 = .ok (.ifCond .eq 17, 3) := by decide +kernel
theorem dX3_setBands_203 : decode cX3_setBands 203 = .ok (.iload 10, 2) := by decide +kernel
theorem dX3_setBands_205 : decode cX3_setBands 205 = .ok (.iload 10, 2) := by decide +kernel
theorem dX3_setBands_207 : decode cX3_setBands 207 = .ok (.imul, 1) := by decide +kernel
theorem dX3_setBands_208 : decode cX3_setBands 208 = .ok (.iload 11, 2) := by decide +kernel
theorem dX3_setBands_210 : decode cX3_setBands 210 = .ok (.iload 11, 2) := by decide +kernel
theorem dX3_setBands_212 : decode cX3_setBands 212 = .ok (.imul, 1) := by decide +kernel
theorem dX3_setBands_213 : decode cX3_setBands 213 = .ok (.iadd, 1) := by decide +kernel
theorem dX3_setBands_214 : decode cX3_setBands 214 = .ok (.goto 4, 3) := by decide +kernel
theorem dX3_setBands_217 : decode cX3_setBands 217 = .ok (.iconst 0, 1) := by decide +kernel
theorem dX3_setBands_218 : decode cX3_setBands 218 = .ok (.iastore, 1) := by decide +kernel
theorem dX3_setBands_219 : decode cX3_setBands 219 = .ok (.aload_n 0, 1) := by decide +kernel
theorem dX3_setBands_220 : decode cX3_setBands 220 = .ok (.getfield 27, 3) := by decide +kernel
theorem dX3_setBands_223 : decode cX3_setBands 223 = .ok (.iload 6, 2) := by decide +kernel
theorem dX3_setBands_225 : decode cX3_setBands 225 = .ok (.aaload, 1) := by decide +kernel
theorem dX3_setBands_226 : decode cX3_setBands 226 = .ok (.iload_n 3, 1) := by decide +kernel
theorem dX3_setBands_227 : decode cX3_setBands 227 = .ok (.iload 9, 2) := by decide +kernel
theorem dX3_setBands_229 : decode cX3_setBands 229 = .ok (.ifCond .eq 17, 3) := by decide +kernel
theorem dX3_setBands_232 : decode cX3_setBands 232 = .ok (.iload 7, 2) := by decide +kernel
theorem dX3_setBands_234 : decode cX3_setBands 234 = .ok (.iload 7, 2) := by decide +kernel
theorem dX3_setBands_236 : decode cX3_setBands 236 = .ok (.imul, 1) := by decide +kernel
theorem dX3_setBands_237 : decode cX3_setBands 237 = .ok (.iload 8, 2) := by decide +kernel
theorem dX3_setBands_239 : decode cX3_setBands 239 = .ok (.iload 8, 2) := by decide +kernel
theorem dX3_setBands_241 : decode cX3_setBands 241 = .ok (.imul, 1) := by decide +kernel
theorem dX3_setBands_242 : decode cX3_setBands 242 = .ok (.iadd, 1) := by decide +kernel
theorem dX3_setBands_243 : decode cX3_setBands 243 = .ok (.goto 4, 3) := by decide +kernel
theorem dX3_setBands_246 : decode cX3_setBands 246 = .ok (.iconst 0, 1) := by decide +kernel
theorem dX3_setBands_247 : decode cX3_setBands 247 = .ok (.iastore, 1) := by decide +kernel
theorem dX3_setBands_248 : decode cX3_setBands 248 = .ok (.iinc 6 1, 3) := by decide +kernel
theorem dX3_setBands_251 : decode cX3_setBands 251 = .ok (.goto (-142), 3) := by decide +kernel
theorem dX3_setBands_254 : decode cX3_setBands 254 = .ok (.return_, 1) := by decide +kernel
theorem dX3_hitsFixed_0 : decode cX3_hitsFixed 0 = .ok (.iconst 0, 1) := by decide +kernel
theorem dX3_hitsFixed_1 : decode cX3_hitsFixed 1 = .ok (.istore 7, 2) := by decide +kernel
theorem dX3_hitsFixed_3 : decode cX3_hitsFixed 3 = .ok (.iload 7, 2) := by decide +kernel
theorem dX3_hitsFixed_5 : decode cX3_hitsFixed 5 = .ok (.aload_n 1, 1) := by decide +kernel
theorem dX3_hitsFixed_6 : decode cX3_hitsFixed 6 = .ok (.getfield 34, 3) := by decide +kernel
theorem dX3_hitsFixed_9 : decode cX3_hitsFixed 9 = .ok (.if_icmp .ge 92, 3) := by decide +kernel
theorem dX3_hitsFixed_12 : decode cX3_hitsFixed 12 = .ok (.iload 5, 2) := by decide +kernel
theorem dX3_hitsFixed_14 : decode cX3_hitsFixed 14 = .ok (.iload_n 3, 1) := by decide +kernel
theorem dX3_hitsFixed_15 : decode cX3_hitsFixed 15 = .ok (.if_icmp .ne 14, 3) := by decide +kernel
theorem dX3_hitsFixed_18 : decode cX3_hitsFixed 18 = .ok (.iload 7, 2) := by decide +kernel
theorem dX3_hitsFixed_20 : decode cX3_hitsFixed 20 = .ok (.aload_n 1, 1) := by decide +kernel
theorem dX3_hitsFixed_21 : decode cX3_hitsFixed 21 = .ok (.getfield 39, 3) := by decide +kernel
theorem dX3_hitsFixed_24 : decode cX3_hitsFixed 24 = .ok (.iload_n 3, 1) := by decide +kernel
theorem dX3_hitsFixed_25 : decode cX3_hitsFixed 25 = .ok (.iaload, 1) := by decide +kernel
theorem dX3_hitsFixed_26 : decode cX3_hitsFixed 26 = .ok (.if_icmp .eq 20, 3) := by decide +kernel
theorem dX3_hitsFixed_29 : decode cX3_hitsFixed 29 = .ok (.iload 7, 2) := by decide +kernel
theorem dX3_hitsFixed_31 : decode cX3_hitsFixed 31 = .ok (.iload_n 3, 1) := by decide +kernel
theorem dX3_hitsFixed_32 : decode cX3_hitsFixed 32 = .ok (.if_icmp .ne 18, 3) := by decide +kernel
theorem dX3_hitsFixed_35 : decode cX3_hitsFixed 35 = .ok (.iload 5, 2) := by decide +kernel
theorem dX3_hitsFixed_37 : decode cX3_hitsFixed 37 = .ok (.aload_n 1, 1) := by decide +kernel
theorem dX3_hitsFixed_38 : decode cX3_hitsFixed 38 = .ok (.getfield 39, 3) := by decide +kernel
theorem dX3_hitsFixed_41 : decode cX3_hitsFixed 41 = .ok (.iload_n 3, 1) := by decide +kernel
theorem dX3_hitsFixed_42 : decode cX3_hitsFixed 42 = .ok (.iaload, 1) := by decide +kernel
theorem dX3_hitsFixed_43 : decode cX3_hitsFixed 43 = .ok (.if_icmp .ne 7, 3) := by decide +kernel
theorem dX3_hitsFixed_46 : decode cX3_hitsFixed 46 = .ok (.iconst 1, 1) := by decide +kernel
theorem dX3_hitsFixed_47 : decode cX3_hitsFixed 47 = .ok (.goto 4, 3) := by decide +kernel
theorem dX3_hitsFixed_50 : decode cX3_hitsFixed 50 = .ok (.iconst 0, 1) := by decide +kernel
theorem dX3_hitsFixed_51 : decode cX3_hitsFixed 51 = .ok (.istore 8, 2) := by decide +kernel
theorem dX3_hitsFixed_53 : decode cX3_hitsFixed 53 = .ok (.iload 4, 2) := by decide +kernel
theorem dX3_hitsFixed_55 : decode cX3_hitsFixed 55 = .ok (.iload 7, 2) := by decide +kernel
theorem dX3_hitsFixed_57 : decode cX3_hitsFixed 57 = .ok (.ishr, 1) := by decide +kernel
theorem dX3_hitsFixed_58 : decode cX3_hitsFixed 58 = .ok (.iconst 1, 1) := by decide +kernel
theorem dX3_hitsFixed_59 : decode cX3_hitsFixed 59 = .ok (.iand, 1) := by decide +kernel
theorem dX3_hitsFixed_60 : decode cX3_hitsFixed 60 = .ok (.ifCond .ne 35, 3) := by decide +kernel
theorem dX3_hitsFixed_63 : decode cX3_hitsFixed 63 = .ok (.iload 8, 2) := by decide +kernel
theorem dX3_hitsFixed_65 : decode cX3_hitsFixed 65 = .ok (.ifCond .ne 30, 3) := by decide +kernel
theorem dX3_hitsFixed_68 : decode cX3_hitsFixed 68 = .ok (.aload_n 0, 1) := by decide +kernel
theorem dX3_hitsFixed_69 : decode cX3_hitsFixed 69 = .ok (.aload_n 2, 1) := by decide +kernel
theorem dX3_hitsFixed_70 : decode cX3_hitsFixed 70 = .ok (.iload 5, 2) := by decide +kernel
theorem dX3_hitsFixed_72 : decode cX3_hitsFixed 72 = .ok (.iload 7, 2) := by decide +kernel
theorem dX3_hitsFixed_74 : decode cX3_hitsFixed 74 = .ok (.invokevirtual 81, 3) := by decide +kernel
theorem dX3_hitsFixed_77 : decode cX3_hitsFixed 77 = .ok (.ifCond .eq 18, 3) := by decide +kernel
theorem dX3_hitsFixed_80 : decode cX3_hitsFixed 80 = .ok (.aload_n 0, 1) := by decide +kernel
theorem dX3_hitsFixed_81 : decode cX3_hitsFixed 81 = .ok (.iload 5, 2) := by decide +kernel
theorem dX3_hitsFixed_83 : decode cX3_hitsFixed 83 = .ok (.iload 7, 2) := by decide +kernel
theorem dX3_hitsFixed_85 : decode cX3_hitsFixed 85 = .ok (.iload 6, 2) := by decide +kernel
theorem dX3_hitsFixed_87 : decode cX3_hitsFixed 87 = .ok (.invokevirtual 85, 3) := by decide +kernel
theorem dX3_hitsFixed_90 : decode cX3_hitsFixed 90 = .ok (.ifCond .eq 5, 3) := by decide +kernel
theorem dX3_hitsFixed_93 : decode cX3_hitsFixed 93 = .ok (.iconst 1, 1) := by decide +kernel
theorem dX3_hitsFixed_94 : decode cX3_hitsFixed 94 = .ok (.ireturn, 1) := by decide +kernel
theorem dX3_hitsFixed_95 : decode cX3_hitsFixed 95 = .ok (.iinc 7 1, 3) := by decide +kernel
theorem dX3_hitsFixed_98 : decode cX3_hitsFixed 98 = .ok (.goto (-95), 3) := by decide +kernel
theorem dX3_hitsFixed_101 : decode cX3_hitsFixed 101 = .ok (.iconst 0, 1) := by decide +kernel
theorem dX3_hitsFixed_102 : decode cX3_hitsFixed 102 = .ok (.ireturn, 1) := by decide +kernel
theorem dX3_isBeside_0 : decode cX3_isBeside 0 = .ok (.aload_n 1, 1) := by decide +kernel
theorem dX3_isBeside_1 : decode cX3_isBeside 1 = .ok (.getfield 89, 3) := by decide +kernel
theorem dX3_isBeside_4 : decode cX3_isBeside 4 = .ok (.aload_n 0, 1) := by decide +kernel
theorem dX3_isBeside_5 : decode cX3_isBeside 5 = .ok (.getfield 15, 3) := by decide +kernel
theorem dX3_isBeside_8 : decode cX3_isBeside 8 = .ok (.aaload, 1) := by decide +kernel
theorem dX3_isBeside_9 : decode cX3_isBeside 9 = .ok (.iload_n 2, 1) := by decide +kernel
theorem dX3_isBeside_10 : decode cX3_isBeside 10 = .ok (.iaload, 1) := by decide +kernel
theorem dX3_isBeside_11 : decode cX3_isBeside 11 = .ok (.istore 4, 2) := by decide +kernel
theorem dX3_isBeside_13 : decode cX3_isBeside 13 = .ok (.aload_n 1, 1) := by decide +kernel
theorem dX3_isBeside_14 : decode cX3_isBeside 14 = .ok (.getfield 92, 3) := by decide +kernel
theorem dX3_isBeside_17 : decode cX3_isBeside 17 = .ok (.aload_n 0, 1) := by decide +kernel
theorem dX3_isBeside_18 : decode cX3_isBeside 18 = .ok (.getfield 15, 3) := by decide +kernel
theorem dX3_isBeside_21 : decode cX3_isBeside 21 = .ok (.aaload, 1) := by decide +kernel
theorem dX3_isBeside_22 : decode cX3_isBeside 22 = .ok (.iload_n 2, 1) := by decide +kernel
theorem dX3_isBeside_23 : decode cX3_isBeside 23 = .ok (.iaload, 1) := by decide +kernel
theorem dX3_isBeside_24 : decode cX3_isBeside 24 = .ok (.istore 5, 2) := by decide +kernel
theorem dX3_isBeside_26 : decode cX3_isBeside 26 = .ok (.aload_n 1, 1) := by decide +kernel
theorem dX3_isBeside_27 : decode cX3_isBeside 27 = .ok (.getfield 89, 3) := by decide +kernel
theorem dX3_isBeside_30 : decode cX3_isBeside 30 = .ok (.aload_n 0, 1) := by decide +kernel
theorem dX3_isBeside_31 : decode cX3_isBeside 31 = .ok (.getfield 15, 3) := by decide +kernel
theorem dX3_isBeside_34 : decode cX3_isBeside 34 = .ok (.aaload, 1) := by decide +kernel
theorem dX3_isBeside_35 : decode cX3_isBeside 35 = .ok (.iload_n 3, 1) := by decide +kernel
theorem dX3_isBeside_36 : decode cX3_isBeside 36 = .ok (.iaload, 1) := by decide +kernel
theorem dX3_isBeside_37 : decode cX3_isBeside 37 = .ok (.istore 6, 2) := by decide +kernel
theorem dX3_isBeside_39 : decode cX3_isBeside 39 = .ok (.aload_n 1, 1) := by decide +kernel
theorem dX3_isBeside_40 : decode cX3_isBeside 40 = .ok (.getfield 92, 3) := by decide +kernel
theorem dX3_isBeside_43 : decode cX3_isBeside 43 = .ok (.aload_n 0, 1) := by decide +kernel
theorem dX3_isBeside_44 : decode cX3_isBeside 44 = .ok (.getfield 15, 3) := by decide +kernel
theorem dX3_isBeside_47 : decode cX3_isBeside 47 = .ok (.aaload, 1) := by decide +kernel
theorem dX3_isBeside_48 : decode cX3_isBeside 48 = .ok (.iload_n 3, 1) := by decide +kernel
theorem dX3_isBeside_49 : decode cX3_isBeside 49 = .ok (.iaload, 1) := by decide +kernel
theorem dX3_isBeside_50 : decode cX3_isBeside 50 = .ok (.istore 7, 2) := by decide +kernel
theorem dX3_isBeside_52 : decode cX3_isBeside 52 = .ok (.iload 4, 2) := by decide +kernel
theorem dX3_isBeside_54 : decode cX3_isBeside 54 = .ok (.iload 5, 2) := by decide +kernel
theorem dX3_isBeside_56 : decode cX3_isBeside 56 = .ok (.if_icmp .ne 23, 3) := by decide +kernel
theorem dX3_isBeside_59 : decode cX3_isBeside 59 = .ok (.iload 6, 2) := by decide +kernel
theorem dX3_isBeside_61 : decode cX3_isBeside 61 = .ok (.iload 7, 2) := by decide +kernel
theorem dX3_isBeside_63 : decode cX3_isBeside 63 = .ok (.if_icmp .ne 16, 3) := by decide +kernel
theorem dX3_isBeside_66 : decode cX3_isBeside 66 = .ok (.iload 4, 2) := by decide +kernel
theorem dX3_isBeside_68 : decode cX3_isBeside 68 = .ok (.iload 6, 2) := by decide +kernel
theorem dX3_isBeside_70 : decode cX3_isBeside 70 = .ok (.if_icmp .ne 7, 3) := by decide +kernel
theorem dX3_isBeside_73 : decode cX3_isBeside 73 = .ok (.iconst 1, 1) := by decide +kernel
theorem dX3_isBeside_74 : decode cX3_isBeside 74 = .ok (.goto 4, 3) := by decide +kernel
theorem dX3_isBeside_77 : decode cX3_isBeside 77 = .ok (.iconst 0, 1) := by decide +kernel
theorem dX3_isBeside_78 : decode cX3_isBeside 78 = .ok (.ireturn, 1) := by decide +kernel
theorem dX3_isBeside_79 : decode cX3_isBeside 79 = .ok (.iload 4, 2) := by decide +kernel
theorem dX3_isBeside_81 : decode cX3_isBeside 81 = .ok (.iload 7, 2) := by decide +kernel
theorem dX3_isBeside_83 : decode cX3_isBeside 83 = .ok (.if_icmp .ge 14, 3) := by decide +kernel
theorem dX3_isBeside_86 : decode cX3_isBeside 86 = .ok (.iload 6, 2) := by decide +kernel
theorem dX3_isBeside_88 : decode cX3_isBeside 88 = .ok (.iload 5, 2) := by decide +kernel
theorem dX3_isBeside_90 : decode cX3_isBeside 90 = .ok (.if_icmp .ge 7, 3) := by decide +kernel
theorem dX3_isBeside_93 : decode cX3_isBeside 93 = .ok (.iconst 1, 1) := by decide +kernel
theorem dX3_isBeside_94 : decode cX3_isBeside 94 = .ok (.goto 4, 3) := by decide +kernel
theorem dX3_isBeside_97 : decode cX3_isBeside 97 = .ok (.iconst 0, 1) := by decide +kernel
theorem dX3_isBeside_98 : decode cX3_isBeside 98 = .ok (.ireturn, 1) := by decide +kernel
theorem dX3_areBandsCommon_0 : decode cX3_areBandsCommon 0 = .ok (.iconst 0, 1) := by decide +kernel
theorem dX3_areBandsCommon_1 : decode cX3_areBandsCommon 1 = .ok (.istore 4, 2) := by decide +kernel
theorem dX3_areBandsCommon_3 : decode cX3_areBandsCommon 3 = .ok (.iload 4, 2) := by decide +kernel
theorem dX3_areBandsCommon_5 : decode cX3_areBandsCommon 5 = .ok (.iconst 4, 1) := by decide +kernel
theorem dX3_areBandsCommon_6 : decode cX3_areBandsCommon 6 = .ok (.if_icmp .ge 103, 3) := by decide +kernel
theorem dX3_areBandsCommon_9 : decode cX3_areBandsCommon 9 = .ok (.iload 4, 2) := by decide +kernel
theorem dX3_areBandsCommon_11 : decode cX3_areBandsCommon 11 = .ok (.iload_n 3, 1) := by decide +kernel
theorem dX3_areBandsCommon_12 : decode cX3_areBandsCommon 12 = .ok (.iadd, 1) := by decide +kernel
theorem dX3_areBandsCommon_13 : decode cX3_areBandsCommon 13 = .ok (.iconst 3, 1) := by decide +kernel
theorem dX3_areBandsCommon_14 : decode cX3_areBandsCommon 14 = .ok (.iand, 1) := by decide +kernel
theorem dX3_areBandsCommon_15 : decode cX3_areBandsCommon 15 = .ok (.istore 5, 2) := by decide +kernel
theorem dX3_areBandsCommon_17 : decode cX3_areBandsCommon 17 = .ok (.aload_n 0, 1) := by decide +kernel
theorem dX3_areBandsCommon_18 : decode cX3_areBandsCommon 18 = .ok (.getfield 24, 3) := by decide +kernel
theorem dX3_areBandsCommon_21 : decode cX3_areBandsCommon 21 = .ok (.iload 4, 2) := by decide +kernel
theorem dX3_areBandsCommon_23 : decode cX3_areBandsCommon 23 = .ok (.aaload, 1) := by decide +kernel
theorem dX3_areBandsCommon_24 : decode cX3_areBandsCommon 24 = .ok (.iload_n 1, 1) := by decide +kernel
theorem dX3_areBandsCommon_25 : decode cX3_areBandsCommon 25 = .ok (.iaload, 1) := by decide +kernel
theorem dX3_areBandsCommon_26 : decode cX3_areBandsCommon 26 = .ok (.istore 6, 2) := by decide +kernel
theorem dX3_areBandsCommon_28 : decode cX3_areBandsCommon 28 = .ok (.aload_n 0, 1) := by decide +kernel
theorem dX3_areBandsCommon_29 : decode cX3_areBandsCommon 29 = .ok (.getfield 27, 3) := by decide +kernel
theorem dX3_areBandsCommon_32 : decode cX3_areBandsCommon 32 = .ok (.iload 4, 2) := by decide +kernel
theorem dX3_areBandsCommon_34 : decode cX3_areBandsCommon 34 = .ok (.aaload, 1) := by decide +kernel
theorem dX3_areBandsCommon_35 : decode cX3_areBandsCommon 35 = .ok (.iload_n 1, 1) := by decide +kernel
theorem dX3_areBandsCommon_36 : decode cX3_areBandsCommon 36 = .ok (.iaload, 1) := by decide +kernel
theorem dX3_areBandsCommon_37 : decode cX3_areBandsCommon 37 = .ok (.istore 7, 2) := by decide +kernel
theorem dX3_areBandsCommon_39 : decode cX3_areBandsCommon 39 = .ok (.iload 6, 2) := by decide +kernel
theorem dX3_areBandsCommon_41 : decode cX3_areBandsCommon 41 = .ok (.aload_n 0, 1) := by decide +kernel
theorem dX3_areBandsCommon_42 : decode cX3_areBandsCommon 42 = .ok (.getfield 24, 3) := by decide +kernel
theorem dX3_areBandsCommon_45 : decode cX3_areBandsCommon 45 = .ok (.iload 4, 2) := by decide +kernel
theorem dX3_areBandsCommon_47 : decode cX3_areBandsCommon 47 = .ok (.aaload, 1) := by decide +kernel
theorem dX3_areBandsCommon_48 : decode cX3_areBandsCommon 48 = .ok (.iload_n 2, 1) := by decide +kernel
theorem dX3_areBandsCommon_49 : decode cX3_areBandsCommon 49 = .ok (.iaload, 1) := by decide +kernel
theorem dX3_areBandsCommon_50 : decode cX3_areBandsCommon 50 = .ok (.invokestatic 76, 3) := by decide +kernel
theorem dX3_areBandsCommon_53 : decode cX3_areBandsCommon 53 = .ok (.iload 7, 2) := by decide +kernel
theorem dX3_areBandsCommon_55 : decode cX3_areBandsCommon 55 = .ok (.aload_n 0, 1) := by decide +kernel
theorem dX3_areBandsCommon_56 : decode cX3_areBandsCommon 56 = .ok (.getfield 27, 3) := by decide +kernel
theorem dX3_areBandsCommon_59 : decode cX3_areBandsCommon 59 = .ok (.iload 4, 2) := by decide +kernel
theorem dX3_areBandsCommon_61 : decode cX3_areBandsCommon 61 = .ok (.aaload, 1) := by decide +kernel
theorem dX3_areBandsCommon_62 : decode cX3_areBandsCommon 62 = .ok (.iload_n 2, 1) := by decide +kernel
theorem dX3_areBandsCommon_63 : decode cX3_areBandsCommon 63 = .ok (.iaload, 1) := by decide +kernel
theorem dX3_areBandsCommon_64 : decode cX3_areBandsCommon 64 = .ok (.invokestatic 95, 3) := by decide +kernel
theorem dX3_areBandsCommon_67 : decode cX3_areBandsCommon 67 = .ok (.if_icmp .lt 34, 3) := by decide +kernel
theorem dX3_areBandsCommon_70 : decode cX3_areBandsCommon 70 = .ok (.iload 6, 2) := by decide +kernel
theorem dX3_areBandsCommon_72 : decode cX3_areBandsCommon 72 = .ok (.aload_n 0, 1) := by decide +kernel
theorem dX3_areBandsCommon_73 : decode cX3_areBandsCommon 73 = .ok (.getfield 24, 3) := by decide +kernel
theorem dX3_areBandsCommon_76 : decode cX3_areBandsCommon 76 = .ok (.iload 5, 2) := by decide +kernel
theorem dX3_areBandsCommon_78 : decode cX3_areBandsCommon 78 = .ok (.aaload, 1) := by decide +kernel
theorem dX3_areBandsCommon_79 : decode cX3_areBandsCommon 79 = .ok (.iload_n 2, 1) := by decide +kernel
theorem dX3_areBandsCommon_80 : decode cX3_areBandsCommon 80 = .ok (.iaload, 1) := by decide +kernel
theorem dX3_areBandsCommon_81 : decode cX3_areBandsCommon 81 = .ok (.invokestatic 76, 3) := by decide +kernel
theorem dX3_areBandsCommon_84 : decode cX3_areBandsCommon 84 = .ok (.iload 7, 2) := by decide +kernel
theorem dX3_areBandsCommon_86 : decode cX3_areBandsCommon 86 = .ok (.aload_n 0, 1) := by decide +kernel
theorem dX3_areBandsCommon_87 : decode cX3_areBandsCommon 87 = .ok (.getfield 27, 3) := by decide +kernel
theorem dX3_areBandsCommon_90 : decode cX3_areBandsCommon 90 = .ok (.iload 5, 2) := by decide +kernel
theorem dX3_areBandsCommon_92 : decode cX3_areBandsCommon 92 = .ok (.aaload, 1) := by decide +kernel
theorem dX3_areBandsCommon_93 : decode cX3_areBandsCommon 93 = .ok (.iload_n 2, 1) := by decide +kernel
theorem dX3_areBandsCommon_94 : decode cX3_areBandsCommon 94 = .ok (.iaload, 1) := by decide +kernel
theorem dX3_areBandsCommon_95 : decode cX3_areBandsCommon 95 = .ok (.invokestatic 95, 3) := by decide +kernel
theorem dX3_areBandsCommon_98 : decode cX3_areBandsCommon 98 = .ok (.if_icmp .ge 5, 3) := by decide +kernel
theorem dX3_areBandsCommon_101 : decode cX3_areBandsCommon 101 = .ok (.iconst 1, 1) := by decide +kernel
theorem dX3_areBandsCommon_102 : decode cX3_areBandsCommon 102 = .ok (.ireturn, 1) := by decide +kernel
theorem dX3_areBandsCommon_103 : decode cX3_areBandsCommon 103 = .ok (.iinc 4 1, 3) := by decide +kernel
theorem dX3_areBandsCommon_106 : decode cX3_areBandsCommon 106 = .ok (.goto (-103), 3) := by decide +kernel
theorem dX3_areBandsCommon_109 : decode cX3_areBandsCommon 109 = .ok (.iconst 0, 1) := by decide +kernel
theorem dX3_areBandsCommon_110 : decode cX3_areBandsCommon 110 = .ok (.ireturn, 1) := by decide +kernel
theorem dX4_init_0 : decode cX4_init 0 = .ok (.aload_n 0, 1) := by decide +kernel
theorem dX4_init_1 : decode cX4_init 1 = .ok (.invokespecial 3, 3) := by decide +kernel
theorem dX4_init_4 : decode cX4_init 4 = .ok (.aload_n 0, 1) := by decide +kernel
theorem dX4_init_5 : decode cX4_init 5 = .ok (.new 9, 3) := by decide +kernel
theorem dX4_init_8 : decode cX4_init 8 = .ok (.dup, 1) := by decide +kernel
theorem dX4_init_9 : decode cX4_init 9 = .ok (.invokespecial 11, 3) := by decide +kernel
theorem dX4_init_12 : decode cX4_init 12 = .ok (.putfield 12, 3) := by decide +kernel
theorem dX4_init_15 : decode cX4_init 15 = .ok (.aload_n 0, 1) := by decide +kernel
theorem dX4_init_16 : decode cX4_init 16 = .ok (.new 16, 3) := by decide +kernel
theorem dX4_init_19 : decode cX4_init 19 = .ok (.dup, 1) := by decide +kernel
theorem dX4_init_20 : decode cX4_init 20 = .ok (.invokespecial 18, 3) := by decide +kernel
theorem dX4_init_23 : decode cX4_init 23 = .ok (.putfield 19, 3) := by decide +kernel
theorem dX4_init_26 : decode cX4_init 26 = .ok (.aload_n 0, 1) := by decide +kernel
theorem dX4_init_27 : decode cX4_init 27 = .ok (.new 23, 3) := by decide +kernel
theorem dX4_init_30 : decode cX4_init 30 = .ok (.dup, 1) := by decide +kernel
theorem dX4_init_31 : decode cX4_init 31 = .ok (.invokespecial 25, 3) := by decide +kernel
theorem dX4_init_34 : decode cX4_init 34 = .ok (.putfield 26, 3) := by decide +kernel
theorem dX4_init_37 : decode cX4_init 37 = .ok (.aload_n 0, 1) := by decide +kernel
theorem dX4_init_38 : decode cX4_init 38 = .ok (.new 30, 3) := by decide +kernel
theorem dX4_init_41 : decode cX4_init 41 = .ok (.dup, 1) := by decide +kernel
theorem dX4_init_42 : decode cX4_init 42 = .ok (.invokespecial 32, 3) := by decide +kernel
theorem dX4_init_45 : decode cX4_init 45 = .ok (.putfield 33, 3) := by decide +kernel
theorem dX4_init_48 : decode cX4_init 48 = .ok (.aload_n 0, 1) := by decide +kernel
theorem dX4_init_49 : decode cX4_init 49 = .ok (.iconst 0, 1) := by decide +kernel
theorem dX4_init_50 : decode cX4_init 50 = .ok (.putfield 37, 3) := by decide +kernel
theorem dX4_init_53 : decode cX4_init 53 = .ok (.aload_n 0, 1) := by decide +kernel
theorem dX4_init_54 : decode cX4_init 54 = .ok (.bipush 80, 2) := by decide +kernel
theorem dX4_init_56 : decode cX4_init 56 = .ok (.putfield 41, 3) := by decide +kernel
theorem dX4_init_59 : decode cX4_init 59 = .ok (.aload_n 0, 1) := by decide +kernel
theorem dX4_init_60 : decode cX4_init 60 = .ok (.iconst (-1), 1) := by decide +kernel
theorem dX4_init_61 : decode cX4_init 61 = .ok (.putfield 44, 3) := by decide +kernel
theorem dX4_init_64 : decode cX4_init 64 = .ok (.aload_n 0, 1) := by decide +kernel
theorem dX4_init_65 : decode cX4_init 65 = .ok (.iconst (-1), 1) := by decide +kernel
theorem dX4_init_66 : decode cX4_init 66 = .ok (.putfield 47, 3) := by decide +kernel
theorem dX4_init_69 : decode cX4_init 69 = .ok (.aload_n 0, 1) := by decide +kernel
theorem dX4_init_70 : decode cX4_init 70 = .ok (.sipush 4096, 3) := by decide +kernel
theorem dX4_init_73 : decode cX4_init 73 = .ok (.newarray .int, 2) := by decide +kernel
theorem dX4_init_75 : decode cX4_init 75 = .ok (.putfield 50, 3) := by decide +kernel
theorem dX4_init_78 : decode cX4_init 78 = .ok (.aload_n 0, 1) := by decide +kernel
theorem dX4_init_79 : decode cX4_init 79 = .ok (.iconst 0, 1) := by decide +kernel
theorem dX4_init_80 : decode cX4_init 80 = .ok (.putfield 54, 3) := by decide +kernel
theorem dX4_init_83 : decode cX4_init 83 = .ok (.return_, 1) := by decide +kernel
theorem dX4_base_0 : decode cX4_base 0 = .ok (.iload_n 1, 1) := by decide +kernel
theorem dX4_base_1 : decode cX4_base 1 = .ok (.iconst 1, 1) := by decide +kernel
theorem dX4_base_2 : decode cX4_base 2 = .ok (.sipush 2000, 3) := by decide +kernel
theorem dX4_base_5 : decode cX4_base 5 = .ok (.invokestatic 58, 3) := by decide +kernel
theorem dX4_base_8 : decode cX4_base 8 = .ok (.ifCond .eq 14, 3) := by decide +kernel
theorem dX4_base_11 : decode cX4_base 11 = .ok (.iload_n 2, 1) := by decide +kernel
theorem dX4_base_12 : decode cX4_base 12 = .ok (.iconst 1, 1) := by decide +kernel
theorem dX4_base_13 : decode cX4_base 13 = .ok (.sipush 2000, 3) := by decide +kernel
theorem dX4_base_16 : decode cX4_base 16 = .ok (.invokestatic 58, 3) := by decide +kernel
theorem dX4_base_19 : decode cX4_base 19 = .ok (.ifCond .ne 5, 3) := by decide +kernel
theorem dX4_base_22 : decode cX4_base 22 = .ok (.iconst 0, 1) := by decide +kernel
theorem dX4_base_23 : decode cX4_base 23 = .ok (.ireturn, 1) := by decide +kernel
theorem dX4_base_24 : decode cX4_base 24 = .ok (.aload_n 0, 1) := by decide +kernel
theorem dX4_base_25 : decode cX4_base 25 = .ok (.getfield 12, 3) := by decide +kernel
theorem dX4_base_28 : decode cX4_base 28 = .ok (.iload_n 1, 1) := by decide +kernel
theorem dX4_base_29 : decode cX4_base 29 = .ok (.iload_n 2, 1) := by decide +kernel
theorem dX4_base_30 : decode cX4_base 30 = .ok (.invokevirtual 62, 3) := by decide +kernel
theorem dX4_base_33 : decode cX4_base 33 = .ok (.aload_n 0, 1) := by decide +kernel
theorem dX4_base_34 : decode cX4_base 34 = .ok (.iconst 0, 1) := by decide +kernel
theorem dX4_base_35 : decode cX4_base 35 = .ok (.putfield 54, 3) := by decide +kernel
theorem dX4_base_38 : decode cX4_base 38 = .ok (.iconst 1, 1) := by decide +kernel
theorem dX4_base_39 : decode cX4_base 39 = .ok (.ireturn, 1) := by decide +kernel
theorem dX4_panel_0 : decode cX4_panel 0 = .ok (.aload_n 0, 1) := by decide +kernel
theorem dX4_panel_1 : decode cX4_panel 1 = .ok (.getfield 12, 3) := by decide +kernel
theorem dX4_panel_4 : decode cX4_panel 4 = .ok (.getfield 66, 3) := by decide +kernel
theorem dX4_panel_7 : decode cX4_panel 7 = .ok (.bipush 13, 2) := by decide +kernel
theorem dX4_panel_9 : decode cX4_panel 9 = .ok (.if_icmp .ge 25, 3) := by decide +kernel
theorem dX4_panel_12 : decode cX4_panel 12 = .ok (.iload 6, 2) := by decide +kernel
theorem dX4_panel_14 : decode cX4_panel 14 = .ok (.iconst 0, 1) := by decide +kernel
theorem dX4_panel_15 : decode cX4_panel 15 = .ok (.iconst 1, 1) := by decide +kernel
theorem dX4_panel_16 : decode cX4_panel 16 = .ok (.invokestatic 58, 3) := by decide +kernel
theorem dX4_panel_19 : decode cX4_panel 19 = .ok (.ifCond .eq 15, 3) := by decide +kernel
theorem dX4_panel_22 : decode cX4_panel 22 = .ok (.aload_n 0, 1) := by decide +kernel
theorem dX4_panel_23 : decode cX4_panel 23 = .ok (.getfield 12, 3) := by decide +kernel
theorem dX4_panel_26 : decode cX4_panel 26 = .ok (.iload_n 1, 1) := by decide +kernel
theorem dX4_panel_27 : decode cX4_panel 27 = .ok (.iload_n 2, 1) := by decide +kernel
theorem dX4_panel_28 : decode cX4_panel 28 = .ok (.invokevirtual 69, 3) := by decide +kernel
theorem dX4_panel_31 : decode cX4_panel 31 = .ok (.ifCond .ne 5, 3) := by decide +kernel
theorem dX4_panel_34 : decode cX4_panel 34 = .ok (.iconst (-1), 1) := by decide +kernel
theorem dX4_panel_35 : decode cX4_panel 35 = .ok (.ireturn, 1) := by decide +kernel
theorem dX4_panel_36 : decode cX4_panel 36 = .ok (.iload 4, 2) := by decide +kernel
theorem dX4_panel_38 : decode cX4_panel 38 = .ok (.iconst 1, 1) := by decide +kernel
theorem dX4_panel_39 : decode cX4_panel 39 = .ok (.sipush 2000, 3) := by decide +kernel
theorem dX4_panel_42 : decode cX4_panel 42 = .ok (.invokestatic 58, 3) := by decide +kernel
theorem dX4_panel_45 : decode cX4_panel 45 = .ok (.ifCond .eq 15, 3) := by decide +kernel
theorem dX4_panel_48 : decode cX4_panel 48 = .ok (.iload 5, 2) := by decide +kernel
theorem dX4_panel_50 : decode cX4_panel 50 = .ok (.iconst 1, 1) := by decide +kernel
theorem dX4_panel_51 : decode cX4_panel 51 = .ok (.sipush 2000, 3) := by decide +kernel
theorem dX4_panel_54 : decode cX4_panel 54 = .ok (.invokestatic 58, 3) := by decide +kernel
theorem dX4_panel_57 : decode cX4_panel 57 = .ok (.ifCond .ne 5, 3) := by decide +kernel
theorem dX4_panel_60 : decode cX4_panel 60 = .ok (.iconst (-1), 1) := by decide +kernel
theorem dX4_panel_61 : decode cX4_panel 61 = .ok (.ireturn, 1) := by decide +kernel
theorem dX4_panel_62 : decode cX4_panel 62 = .ok (.iload_n 3, 1) := by decide +kernel
theorem dX4_panel_63 : decode cX4_panel 63 = .ok (.iconst 0, 1) := by decide +kernel
theorem dX4_panel_64 : decode cX4_panel 64 = .ok (.aload_n 0, 1) := by decide +kernel
theorem dX4_panel_65 : decode cX4_panel 65 = .ok (.getfield 12, 3) := by decide +kernel
theorem dX4_panel_68 : decode cX4_panel 68 = .ok (.iload_n 1, 1) := by decide +kernel
theorem dX4_panel_69 : decode cX4_panel 69 = .ok (.iload_n 2, 1) := by decide +kernel
theorem dX4_panel_70 : decode cX4_panel 70 = .ok (.invokevirtual 73, 3) := by decide +kernel
theorem dX4_panel_73 : decode cX4_panel 73 = .ok (.iload 4, 2) := by decide +kernel
theorem dX4_panel_75 : decode cX4_panel 75 = .ok (.isub, 1) := by decide +kernel
theorem dX4_panel_76 : decode cX4_panel 76 = .ok (.invokestatic 58, 3) := by decide +kernel
theorem dX4_panel_79 : decode cX4_panel 79 = .ok (.ifCond .ne 5, 3) := by decide +kernel
theorem dX4_panel_82 : decode cX4_panel 82 = .ok (.iconst (-1), 1) := by decide +kernel
theorem dX4_panel_83 : decode cX4_panel 83 = .ok (.ireturn, 1) := by decide +kernel
theorem dX4_panel_84 : decode cX4_panel 84 = .ok (.aload_n 0, 1) := by decide +kernel
theorem dX4_panel_85 : decode cX4_panel 85 = .ok (.iconst 0, 1) := by decide +kernel
theorem dX4_panel_86 : decode cX4_panel 86 = .ok (.putfield 54, 3) := by decide +kernel
theorem dX4_panel_89 : decode cX4_panel 89 = .ok (.aload_n 0, 1) := by decide +kernel
theorem dX4_panel_90 : decode cX4_panel 90 = .ok (.getfield 12, 3) := by decide +kernel
theorem dX4_panel_93 : decode cX4_panel 93 = .ok (.iload_n 1, 1) := by decide +kernel
theorem dX4_panel_94 : decode cX4_panel 94 = .ok (.iload_n 2, 1) := by decide +kernel
theorem dX4_panel_95 : decode cX4_panel 95 = .ok (.iload_n 3, 1) := by decide +kernel
theorem dX4_panel_96 : decode cX4_panel 96 = .ok (.iload 4, 2) := by decide +kernel
theorem dX4_panel_98 : decode cX4_panel 98 = .ok (.iload 5, 2) := by decide +kernel
theorem dX4_panel_100 : decode cX4_panel 100 = .ok (.iload 6, 2) := by decide +kernel
theorem dX4_panel_102 : decode cX4_panel 102 = .ok (.iconst 1, 1) := by decide +kernel
theorem dX4_panel_103 : decode cX4_panel 103 = .ok (.if_icmp .ne 7, 3) := by decide +kernel
theorem dX4_panel_106 : decode cX4_panel 106 = .ok (.iconst 1, 1) := by decide +kernel
theorem dX4_panel_107 : decode cX4_panel 107 = .ok (.goto 4, 3) := by decide +kernel
theorem dX4_panel_110 : decode cX4_panel 110 = .ok (.iconst 0, 1) := by decide +kernel
theorem dX4_panel_111 : decode cX4_panel 111 = .ok (.invokevirtual 77, 3) := by decide +kernel
theorem dX4_panel_114 : decode cX4_panel 114 = .ok (.ireturn, 1) := by decide +kernel
theorem dX4_deduction_0 : decode cX4_deduction 0 = .ok (.iload_n 1, 1) := by decide +kernel
theorem dX4_deduction_1 : decode cX4_deduction 1 = .ok (.iconst 0, 1) := by decide +kernel
theorem dX4_deduction_2 : decode cX4_deduction 2 = .ok (.sipush 400, 3) := by decide +kernel
theorem dX4_deduction_5 : decode cX4_deduction 5 = .ok (.invokestatic 58, 3) := by decide +kernel
theorem dX4_deduction_8 : decode cX4_deduction 8 = .ok (.ifCond .eq 9, 3) := by decide +kernel
theorem dX4_deduction_11 : decode cX4_deduction 11 = .ok (.iload_n 1, 1) := by decide +kernel
theorem dX4_deduction_12 : decode cX4_deduction 12 = .ok (.iconst 1, 1) := by decide +kernel
theorem dX4_deduction_13 : decode cX4_deduction 13 = .ok (.iand, 1) := by decide +kernel
theorem dX4_deduction_14 : decode cX4_deduction 14 = .ok (.ifCond .eq 5, 3) := by decide +kernel
theorem dX4_deduction_17 : decode cX4_deduction 17 = .ok (.iconst 0, 1) := by decide +kernel
theorem dX4_deduction_18 : decode cX4_deduction 18 = .ok (.ireturn, 1) := by decide +kernel
theorem dX4_deduction_19 : decode cX4_deduction 19 = .ok (.aload_n 0, 1) := by decide +kernel
theorem dX4_deduction_20 : decode cX4_deduction 20 = .ok (.iload_n 1, 1) := by decide +kernel
theorem dX4_deduction_21 : decode cX4_deduction 21 = .ok (.putfield 37, 3) := by decide +kernel
theorem dX4_deduction_24 : decode cX4_deduction 24 = .ok (.iconst 1, 1) := by decide +kernel
theorem dX4_deduction_25 : decode cX4_deduction 25 = .ok (.ireturn, 1) := by decide +kernel
