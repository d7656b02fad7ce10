theorem dX4_gauge_0 : decode cX4_gauge 0 = .ok (.iload_n 1, 1) := by decide +kernel
theorem dX4_gauge_1 : decode cX4_gauge 1 = .ok (.iconst 1, 1) := by decide +kernel
theorem dX4_gauge_2 : decode cX4_gauge 2 = .ok (.sipush 4000, 3) := by decide +kernel
theorem dX4_gauge_5 : decode cX4_gauge 5 = .ok (.invokestatic 58, 3) := by decide +kernel
theorem dX4_gauge_8 : decode cX4_gauge 8 = .ok (.ifCond .ne 5, 3) := by decide +kernel
theorem dX4_gauge_11 : decode cX4_gauge 11 = .ok (.iconst 0, 1) := by decide +kernel
theorem dX4_gauge_12 : decode cX4_gauge 12 = .ok (.ireturn, 1) := by decide +kernel
theorem dX4_gauge_13 : decode cX4_gauge 13 = .ok (.aload_n 0, 1) := by decide +kernel
theorem dX4_gauge_14 : decode cX4_gauge 14 = .ok (.iload_n 1, 1) := by decide +kernel
theorem dX4_gauge_15 : decode cX4_gauge 15 = .ok (.putfield 41, 3) := by decide +kernel
theorem dX4_gauge_18 : decode cX4_gauge 18 = .ok (.aload_n 0, 1) := by decide +kernel
theorem dX4_gauge_19 : decode cX4_gauge 19 = .ok (.iconst 0, 1) := by decide +kernel
theorem dX4_gauge_20 : decode cX4_gauge 20 = .ok (.putfield 54, 3) := by decide +kernel
theorem dX4_gauge_23 : decode cX4_gauge 23 = .ok (.iconst 1, 1) := by decide +kernel
theorem dX4_gauge_24 : decode cX4_gauge 24 = .ok (.ireturn, 1) := by decide +kernel
theorem dX4_over_0 : decode cX4_over 0 = .ok (.aload_n 0, 1) := by decide +kernel
theorem dX4_over_1 : decode cX4_over 1 = .ok (.getfield 12, 3) := by decide +kernel
theorem dX4_over_4 : decode cX4_over 4 = .ok (.getfield 66, 3) := by decide +kernel
theorem dX4_over_7 : decode cX4_over 7 = .ok (.ifCond .ne 5, 3) := by decide +kernel
theorem dX4_over_10 : decode cX4_over 10 = .ok (.iconst 0, 1) := by decide +kernel
theorem dX4_over_11 : decode cX4_over 11 = .ok (.ireturn, 1) := by decide +kernel
theorem dX4_over_12 : decode cX4_over 12 = .ok (.aload_n 0, 1) := by decide +kernel
theorem dX4_over_13 : decode cX4_over 13 = .ok (.getfield 12, 3) := by decide +kernel
theorem dX4_over_16 : decode cX4_over 16 = .ok (.invokevirtual 81, 3) := by decide +kernel
theorem dX4_over_19 : decode cX4_over 19 = .ok (.aload_n 0, 1) := by decide +kernel
theorem dX4_over_20 : decode cX4_over 20 = .ok (.iconst 0, 1) := by decide +kernel
theorem dX4_over_21 : decode cX4_over 21 = .ok (.putfield 54, 3) := by decide +kernel
theorem dX4_over_24 : decode cX4_over 24 = .ok (.iconst 1, 1) := by decide +kernel
theorem dX4_over_25 : decode cX4_over 25 = .ok (.ireturn, 1) := by decide +kernel
theorem dX4_flat_0 : decode cX4_flat 0 = .ok (.aload_n 0, 1) := by decide +kernel
theorem dX4_flat_1 : decode cX4_flat 1 = .ok (.getfield 12, 3) := by decide +kernel
theorem dX4_flat_4 : decode cX4_flat 4 = .ok (.getfield 66, 3) := by decide +kernel
theorem dX4_flat_7 : decode cX4_flat 7 = .ok (.ifCond .ne 5, 3) := by decide +kernel
theorem dX4_flat_10 : decode cX4_flat 10 = .ok (.iconst (-1), 1) := by decide +kernel
theorem dX4_flat_11 : decode cX4_flat 11 = .ok (.ireturn, 1) := by decide +kernel
theorem dX4_flat_12 : decode cX4_flat 12 = .ok (.aload_n 0, 1) := by decide +kernel
theorem dX4_flat_13 : decode cX4_flat 13 = .ok (.getfield 19, 3) := by decide +kernel
theorem dX4_flat_16 : decode cX4_flat 16 = .ok (.aload_n 0, 1) := by decide +kernel
theorem dX4_flat_17 : decode cX4_flat 17 = .ok (.getfield 12, 3) := by decide +kernel
theorem dX4_flat_20 : decode cX4_flat 20 = .ok (.aload_n 0, 1) := by decide +kernel
theorem dX4_flat_21 : decode cX4_flat 21 = .ok (.getfield 37, 3) := by decide +kernel
theorem dX4_flat_24 : decode cX4_flat 24 = .ok (.invokevirtual 84, 3) := by decide +kernel
theorem dX4_flat_27 : decode cX4_flat 27 = .ok (.aload_n 0, 1) := by decide +kernel
theorem dX4_flat_28 : decode cX4_flat 28 = .ok (.aload_n 0, 1) := by decide +kernel
theorem dX4_flat_29 : decode cX4_flat 29 = .ok (.getfield 19, 3) := by decide +kernel
theorem dX4_flat_32 : decode cX4_flat 32 = .ok (.invokevirtual 88, 3) := by decide +kernel
theorem dX4_flat_35 : decode cX4_flat 35 = .ok (.putfield 44, 3) := by decide +kernel
theorem dX4_flat_38 : decode cX4_flat 38 = .ok (.aload_n 0, 1) := by decide +kernel
theorem dX4_flat_39 : decode cX4_flat 39 = .ok (.iconst (-1), 1) := by decide +kernel
theorem dX4_flat_40 : decode cX4_flat 40 = .ok (.putfield 47, 3) := by decide +kernel
theorem dX4_flat_43 : decode cX4_flat 43 = .ok (.aload_n 0, 1) := by decide +kernel
theorem dX4_flat_44 : decode cX4_flat 44 = .ok (.getfield 44, 3) := by decide +kernel
theorem dX4_flat_47 : decode cX4_flat 47 = .ok (.iconst (-1), 1) := by decide +kernel
theorem dX4_flat_48 : decode cX4_flat 48 = .ok (.if_icmp .eq 5, 3) := by decide +kernel
theorem dX4_flat_51 : decode cX4_flat 51 = .ok (.iconst 1, 1) := by decide +kernel
theorem dX4_flat_52 : decode cX4_flat 52 = .ok (.ireturn, 1) := by decide +kernel
theorem dX4_flat_53 : decode cX4_flat 53 = .ok (.iconst 0, 1) := by decide +kernel
theorem dX4_flat_54 : decode cX4_flat 54 = .ok (.istore_n 1, 1) := by decide +kernel
theorem dX4_flat_55 : decode cX4_flat 55 = .ok (.iload_n 1, 1) := by decide +kernel
theorem dX4_flat_56 : decode cX4_flat 56 = .ok (.aload_n 0, 1) := by decide +kernel
theorem dX4_flat_57 : decode cX4_flat 57 = .ok (.getfield 12, 3) := by decide +kernel
theorem dX4_flat_60 : decode cX4_flat 60 = .ok (.getfield 66, 3) := by decide +kernel
theorem dX4_flat_63 : decode cX4_flat 63 = .ok (.if_icmp .ge 35, 3) := by decide +kernel
theorem dX4_flat_66 : decode cX4_flat 66 = .ok (.aload_n 0, 1) := by decide +kernel
theorem dX4_flat_67 : decode cX4_flat 67 = .ok (.getfield 19, 3) := by decide +kernel
theorem dX4_flat_70 : decode cX4_flat 70 = .ok (.iload_n 1, 1) := by decide +kernel
theorem dX4_flat_71 : decode cX4_flat 71 = .ok (.invokevirtual 92, 3) := by decide +kernel
theorem dX4_flat_74 : decode cX4_flat 74 = .ok (.istore_n 2, 1) := by decide +kernel
theorem dX4_flat_75 : decode cX4_flat 75 = .ok (.iload_n 2, 1) := by decide +kernel
theorem dX4_flat_76 : decode cX4_flat 76 = .ok (.iconst (-1), 1) := by decide +kernel
theorem dX4_flat_77 : decode cX4_flat 77 = .ok (.if_icmp .eq 15, 3) := by decide +kernel
theorem dX4_flat_80 : decode cX4_flat 80 = .ok (.aload_n 0, 1) := by decide +kernel
theorem dX4_flat_81 : decode cX4_flat 81 = .ok (.iload_n 1, 1) := by decide +kernel
theorem dX4_flat_82 : decode cX4_flat 82 = .ok (.putfield 44, 3) := by decide +kernel
theorem dX4_flat_85 : decode cX4_flat 85 = .ok (.aload_n 0, 1) := by decide +kernel
theorem dX4_flat_86 : decode cX4_flat 86 = .ok (.iload_n 2, 1) := by decide +kernel
theorem dX4_flat_87 : decode cX4_flat 87 = .ok (.putfield 47, 3) := by decide +kernel
theorem dX4_flat_90 : decode cX4_flat 90 = .ok (.iconst 2, 1) := by decide +kernel
theorem dX4_flat_91 : decode cX4_flat 91 = .ok (.ireturn, 1) := by decide +kernel
theorem dX4_flat_92 : decode cX4_flat 92 = .ok (.iinc 1 1, 3) := by decide +kernel
theorem dX4_flat_95 : decode cX4_flat 95 = .ok (.goto (-40), 3) := by decide +kernel
theorem dX4_flat_98 : decode cX4_flat 98 = .ok (.iconst 0, 1) := by decide +kernel
theorem dX4_flat_99 : decode cX4_flat 99 = .ok (.ireturn, 1) := by decide +kernel
theorem dX4_wrong_0 : decode cX4_wrong 0 = .ok (.iload_n 1, 1) := by decide +kernel
theorem dX4_wrong_1 : decode cX4_wrong 1 = .ok (.ifCond .ne 8, 3) := by decide +kernel
theorem dX4_wrong_4 : decode cX4_wrong 4 = .ok (.aload_n 0, 1) := by decide +kernel
theorem dX4_wrong_5 : decode cX4_wrong 5 = .ok (.getfield 44, 3) := by decide +kernel
theorem dX4_wrong_8 : decode cX4_wrong 8 = .ok (.ireturn, 1) := by decide +kernel
theorem dX4_wrong_9 : decode cX4_wrong 9 = .ok (.iload_n 1, 1) := by decide +kernel
theorem dX4_wrong_10 : decode cX4_wrong 10 = .ok (.iconst 1, 1) := by decide +kernel
theorem dX4_wrong_11 : decode cX4_wrong 11 = .ok (.if_icmp .ne 10, 3) := by decide +kernel
theorem dX4_wrong_14 : decode cX4_wrong 14 = .ok (.aload_n 0, 1) := by decide +kernel
theorem dX4_wrong_15 : decode cX4_wrong 15 = .ok (.getfield 47, 3) := by decide +kernel
theorem dX4_wrong_18 : decode cX4_wrong 18 = .ok (.goto 4, 3) := by decide +kernel
theorem dX4_wrong_21 : decode cX4_wrong 21 = .ok (.iconst (-1), 1) := by decide +kernel
theorem dX4_wrong_22 : decode cX4_wrong 22 = .ok (.ireturn, 1) := by decide +kernel
theorem dX4_flatOf_0 : decode cX4_flatOf 0 = .ok (.aload_n 0, 1) := by decide +kernel
theorem dX4_flatOf_1 : decode cX4_flatOf 1 = .ok (.getfield 12, 3) := by decide +kernel
theorem dX4_flatOf_4 : decode cX4_flatOf 4 = .ok (.iload_n 1, 1) := by decide +kernel
theorem dX4_flatOf_5 : decode cX4_flatOf 5 = .ok (.invokevirtual 96, 3) := by decide +kernel
theorem dX4_flatOf_8 : decode cX4_flatOf 8 = .ok (.ifCond .eq 12, 3) := by decide +kernel
theorem dX4_flatOf_11 : decode cX4_flatOf 11 = .ok (.iload_n 2, 1) := by decide +kernel
theorem dX4_flatOf_12 : decode cX4_flatOf 12 = .ok (.iconst 0, 1) := by decide +kernel
theorem dX4_flatOf_13 : decode cX4_flatOf 13 = .ok (.iconst 3, 1) := by decide +kernel
theorem dX4_flatOf_14 : decode cX4_flatOf 14 = .ok (.invokestatic 58, 3) := by decide +kernel
theorem dX4_flatOf_17 : decode cX4_flatOf 17 = .ok (.ifCond .ne 6, 3) := by decide +kernel
theorem dX4_flatOf_20 : decode cX4_flatOf 20 = .ok (.ldc 100, 2) := by decide +kernel
theorem dX4_flatOf_22 : decode cX4_flatOf 22 = .ok (.ireturn, 1) := by decide +kernel
theorem dX4_flatOf_23 : decode cX4_flatOf 23 = .ok (.aload_n 0, 1) := by decide +kernel
theorem dX4_flatOf_24 : decode cX4_flatOf 24 = .ok (.getfield 19, 3) := by decide +kernel
theorem dX4_flatOf_27 : decode cX4_flatOf 27 = .ok (.aload_n 0, 1) := by decide +kernel
theorem dX4_flatOf_28 : decode cX4_flatOf 28 = .ok (.getfield 12, 3) := by decide +kernel
theorem dX4_flatOf_31 : decode cX4_flatOf 31 = .ok (.aload_n 0, 1) := by decide +kernel
theorem dX4_flatOf_32 : decode cX4_flatOf 32 = .ok (.getfield 37, 3) := by decide +kernel
theorem dX4_flatOf_35 : decode cX4_flatOf 35 = .ok (.invokevirtual 84, 3) := by decide +kernel
theorem dX4_flatOf_38 : decode cX4_flatOf 38 = .ok (.aload_n 0, 1) := by decide +kernel
theorem dX4_flatOf_39 : decode cX4_flatOf 39 = .ok (.getfield 19, 3) := by decide +kernel
theorem dX4_flatOf_42 : decode cX4_flatOf 42 = .ok (.getfield 101, 3) := by decide +kernel
theorem dX4_flatOf_45 : decode cX4_flatOf 45 = .ok (.iload_n 2, 1) := by decide +kernel
theorem dX4_flatOf_46 : decode cX4_flatOf 46 = .ok (.invokestatic 105, 3) := by decide +kernel
theorem dX4_flatOf_49 : decode cX4_flatOf 49 = .ok (.aaload, 1) := by decide +kernel
theorem dX4_flatOf_50 : decode cX4_flatOf 50 = .ok (.iload_n 1, 1) := by decide +kernel
theorem dX4_flatOf_51 : decode cX4_flatOf 51 = .ok (.iaload, 1) := by decide +kernel
theorem dX4_flatOf_52 : decode cX4_flatOf 52 = .ok (.ireturn, 1) := by decide +kernel
theorem dX4_size_0 : decode cX4_size 0 = .ok (.aload_n 0, 1) := by decide +kernel
theorem dX4_size_1 : decode cX4_size 1 = .ok (.getfield 12, 3) := by decide +kernel
theorem dX4_size_4 : decode cX4_size 4 = .ok (.getfield 66, 3) := by decide +kernel
theorem dX4_size_7 : decode cX4_size 7 = .ok (.ifCond .eq 12, 3) := by decide +kernel
theorem dX4_size_10 : decode cX4_size 10 = .ok (.iload_n 1, 1) := by decide +kernel
theorem dX4_size_11 : decode cX4_size 11 = .ok (.iconst 0, 1) := by decide +kernel
theorem dX4_size_12 : decode cX4_size 12 = .ok (.iconst 1, 1) := by decide +kernel
theorem dX4_size_13 : decode cX4_size 13 = .ok (.invokestatic 58, 3) := by decide +kernel
theorem dX4_size_16 : decode cX4_size 16 = .ok (.ifCond .ne 6, 3) := by decide +kernel
theorem dX4_size_19 : decode cX4_size 19 = .ok (.ldc 100, 2) := by decide +kernel
theorem dX4_size_21 : decode cX4_size 21 = .ok (.ireturn, 1) := by decide +kernel
theorem dX4_size_22 : decode cX4_size 22 = .ok (.aload_n 0, 1) := by decide +kernel
theorem dX4_size_23 : decode cX4_size 23 = .ok (.getfield 19, 3) := by decide +kernel
theorem dX4_size_26 : decode cX4_size 26 = .ok (.aload_n 0, 1) := by decide +kernel
theorem dX4_size_27 : decode cX4_size 27 = .ok (.getfield 12, 3) := by decide +kernel
theorem dX4_size_30 : decode cX4_size 30 = .ok (.aload_n 0, 1) := by decide +kernel
theorem dX4_size_31 : decode cX4_size 31 = .ok (.getfield 37, 3) := by decide +kernel
theorem dX4_size_34 : decode cX4_size 34 = .ok (.invokevirtual 84, 3) := by decide +kernel
theorem dX4_size_37 : decode cX4_size 37 = .ok (.aload_n 0, 1) := by decide +kernel
theorem dX4_size_38 : decode cX4_size 38 = .ok (.getfield 19, 3) := by decide +kernel
theorem dX4_size_41 : decode cX4_size 41 = .ok (.iload_n 1, 1) := by decide +kernel
theorem dX4_size_42 : decode cX4_size 42 = .ok (.ifCond .ne 7, 3) := by decide +kernel
theorem dX4_size_45 : decode cX4_size 45 = .ok (.iconst 0, 1) := by decide +kernel
theorem dX4_size_46 : decode cX4_size 46 = .ok (.goto 4, 3) := by decide +kernel
theorem dX4_size_49 : decode cX4_size 49 = .ok (.iconst 1, 1) := by decide +kernel
theorem dX4_size_50 : decode cX4_size 50 = .ok (.invokevirtual 108, 3) := by decide +kernel
theorem dX4_size_53 : decode cX4_size 53 = .ok (.ireturn, 1) := by decide +kernel
theorem dX4_place_0 : decode cX4_place 0 = .ok (.aload_n 0, 1) := by decide +kernel
theorem dX4_place_1 : decode cX4_place 1 = .ok (.getfield 12, 3) := by decide +kernel
theorem dX4_place_4 : decode cX4_place 4 = .ok (.iload_n 2, 1) := by decide +kernel
theorem dX4_place_5 : decode cX4_place 5 = .ok (.invokevirtual 96, 3) := by decide +kernel
theorem dX4_place_8 : decode cX4_place 8 = .ok (.ifCond .eq 23, 3) := by decide +kernel
theorem dX4_place_11 : decode cX4_place 11 = .ok (.aload_n 0, 1) := by decide +kernel
theorem dX4_place_12 : decode cX4_place 12 = .ok (.getfield 12, 3) := by decide +kernel
theorem dX4_place_15 : decode cX4_place 15 = .ok (.iload_n 1, 1) := by decide +kernel
theorem dX4_place_16 : decode cX4_place 16 = .ok (.invokevirtual 111, 3) := by decide +kernel
theorem dX4_place_19 : decode cX4_place 19 = .ok (.ifCond .eq 12, 3) := by decide +kernel
theorem dX4_place_22 : decode cX4_place 22 = .ok (.iload_n 3, 1) := by decide +kernel
theorem dX4_place_23 : decode cX4_place 23 = .ok (.iconst 0, 1) := by decide +kernel
theorem dX4_place_24 : decode cX4_place 24 = .ok (.iconst 5, 1) := by decide +kernel
theorem dX4_place_25 : decode cX4_place 25 = .ok (.invokestatic 58, 3) := by decide +kernel
theorem dX4_place_28 : decode cX4_place 28 = .ok (.ifCond .ne 6, 3) := by decide +kernel
theorem dX4_place_31 : decode cX4_place 31 = .ok (.ldc 100, 2) := by decide +kernel
theorem dX4_place_33 : decode cX4_place 33 = .ok (.ireturn, 1) := by decide +kernel
theorem dX4_place_34 : decode cX4_place 34 = .ok (.aload_n 0, 1) := by decide +kernel
theorem dX4_place_35 : decode cX4_place 35 = .ok (.getfield 26, 3) := by decide +kernel
theorem dX4_place_38 : decode cX4_place 38 = .ok (.aload_n 0, 1) := by decide +kernel
theorem dX4_place_39 : decode cX4_place 39 = .ok (.getfield 12, 3) := by decide +kernel
theorem dX4_place_42 : decode cX4_place 42 = .ok (.iload_n 1, 1) := by decide +kernel
theorem dX4_place_43 : decode cX4_place 43 = .ok (.invokevirtual 114, 3) := by decide +kernel
theorem dX4_place_46 : decode cX4_place 46 = .ok (.iload_n 3, 1) := by decide +kernel
theorem dX4_place_47 : decode cX4_place 47 = .ok (.iconst 3, 1) := by decide +kernel
theorem dX4_place_48 : decode cX4_place 48 = .ok (.if_icmp .ge 17, 3) := by decide +kernel
theorem dX4_place_51 : decode cX4_place 51 = .ok (.aload_n 0, 1) := by decide +kernel
theorem dX4_place_52 : decode cX4_place 52 = .ok (.getfield 26, 3) := by decide +kernel
theorem dX4_place_55 : decode cX4_place 55 = .ok (.getfield 117, 3) := by decide +kernel
theorem dX4_place_58 : decode cX4_place 58 = .ok (.iload_n 3, 1) := by decide +kernel
theorem dX4_place_59 : decode cX4_place 59 = .ok (.aaload, 1) := by decide +kernel
theorem dX4_place_60 : decode cX4_place 60 = .ok (.iload_n 2, 1) := by decide +kernel
theorem dX4_place_61 : decode cX4_place 61 = .ok (.iaload, 1) := by decide +kernel
theorem dX4_place_62 : decode cX4_place 62 = .ok (.goto 16, 3) := by decide +kernel
theorem dX4_place_65 : decode cX4_place 65 = .ok (.aload_n 0, 1) := by decide +kernel
theorem dX4_place_66 : decode cX4_place 66 = .ok (.getfield 26, 3) := by decide +kernel
theorem dX4_place_69 : decode cX4_place 69 = .ok (.getfield 120, 3) := by decide +kernel
theorem dX4_place_72 : decode cX4_place 72 = .ok (.iload_n 3, 1) := by decide +kernel
theorem dX4_place_73 : decode cX4_place 73 = .ok (.iconst 3, 1) := by decide +kernel
theorem dX4_place_74 : decode cX4_place 74 = .ok (.isub, 1) := by decide +kernel
theorem dX4_place_75 : decode cX4_place 75 = .ok (.aaload, 1) := by decide +kernel
theorem dX4_place_76 : decode cX4_place 76 = .ok (.iload_n 2, 1) := by decide +kernel
theorem dX4_place_77 : decode cX4_place 77 = .ok (.iaload, 1) := by decide +kernel
theorem dX4_place_78 : decode cX4_place 78 = .ok (.ireturn, 1) := by decide +kernel
theorem dX4_meets_0 : decode cX4_meets 0 = .ok (.aload_n 0, 1) := by decide +kernel
theorem dX4_meets_1 : decode cX4_meets 1 = .ok (.getfield 12, 3) := by decide +kernel
theorem dX4_meets_4 : decode cX4_meets 4 = .ok (.getfield 66, 3) := by decide +kernel
theorem dX4_meets_7 : decode cX4_meets 7 = .ok (.ifCond .eq 14, 3) := by decide +kernel
theorem dX4_meets_10 : decode cX4_meets 10 = .ok (.aload_n 0, 1) := by decide +kernel
theorem dX4_meets_11 : decode cX4_meets 11 = .ok (.getfield 12, 3) := by decide +kernel
theorem dX4_meets_14 : decode cX4_meets 14 = .ok (.iload_n 1, 1) := by decide +kernel
theorem dX4_meets_15 : decode cX4_meets 15 = .ok (.invokevirtual 111, 3) := by decide +kernel
theorem dX4_meets_18 : decode cX4_meets 18 = .ok (.ifCond .ne 5, 3) := by decide +kernel
theorem dX4_meets_21 : decode cX4_meets 21 = .ok (.iconst (-1), 1) := by decide +kernel
theorem dX4_meets_22 : decode cX4_meets 22 = .ok (.ireturn, 1) := by decide +kernel
theorem dX4_meets_23 : decode cX4_meets 23 = .ok (.aload_n 0, 1) := by decide +kernel
theorem dX4_meets_24 : decode cX4_meets 24 = .ok (.getfield 26, 3) := by decide +kernel
theorem dX4_meets_27 : decode cX4_meets 27 = .ok (.aload_n 0, 1) := by decide +kernel
theorem dX4_meets_28 : decode cX4_meets 28 = .ok (.getfield 12, 3) := by decide +kernel
theorem dX4_meets_31 : decode cX4_meets 31 = .ok (.iload_n 1, 1) := by decide +kernel
theorem dX4_meets_32 : decode cX4_meets 32 = .ok (.invokevirtual 114, 3) := by decide +kernel
theorem dX4_meets_35 : decode cX4_meets 35 = .ok (.iconst 0, 1) := by decide +kernel
theorem dX4_meets_36 : decode cX4_meets 36 = .ok (.istore_n 2, 1) := by decide +kernel
theorem dX4_meets_37 : decode cX4_meets 37 = .ok (.iconst 0, 1) := by decide +kernel
theorem dX4_meets_38 : decode cX4_meets 38 = .ok (.istore_n 3, 1) := by decide +kernel
theorem dX4_meets_39 : decode cX4_meets 39 = .ok (.iload_n 3, 1) := by decide +kernel
theorem dX4_meets_40 : decode cX4_meets 40 = .ok (.aload_n 0, 1) := by decide +kernel
theorem dX4_meets_41 : decode cX4_meets 41 = .ok (.getfield 12, 3) := by decide +kernel
theorem dX4_meets_44 : decode cX4_meets 44 = .ok (.getfield 66, 3) := by decide +kernel
theorem dX4_meets_47 : decode cX4_meets 47 = .ok (.if_icmp .ge 75, 3) := by decide +kernel
theorem dX4_meets_50 : decode cX4_meets 50 = .ok (.iload_n 3, 1) := by decide +kernel
theorem dX4_meets_51 : decode cX4_meets 51 = .ok (.iconst 1, 1) := by decide +kernel
theorem dX4_meets_52 : decode cX4_meets 52 = .ok (.iadd, 1) := by decide +kernel
theorem dX4_meets_53 : decode cX4_meets 53 = .ok (.istore 4, 2) := by decide +kernel
theorem dX4_meets_55 : decode cX4_meets 55 = .ok (.iload 4, 2) := by decide +kernel
theorem dX4_meets_57 : decode cX4_meets 57 = .ok (.aload_n 0, 1) := by decide +kernel
theorem dX4_meets_58 : decode cX4_meets 58 = .ok (.getfield 12, 3) := by decide +kernel
theorem dX4_meets_61 : decode cX4_meets 61 = .ok (.getfield 66, 3) := by decide +kernel
theorem dX4_meets_64 : decode cX4_meets 64 = .ok (.if_icmp .ge 52, 3) := by decide +kernel
theorem dX4_meets_67 : decode cX4_meets 67 = .ok (.aload_n 0, 1) := by decide +kernel
theorem dX4_meets_68 : decode cX4_meets 68 = .ok (.getfield 12, 3) := by decide +kernel
theorem dX4_meets_71 : decode cX4_meets 71 = .ok (.getfield 123, 3) := by decide +kernel
theorem dX4_meets_74 : decode cX4_meets 74 = .ok (.iload 4, 2) := by decide +kernel
theorem dX4_meets_76 : decode cX4_meets 76 = .ok (.iaload, 1) := by decide +kernel
theorem dX4_meets_77 : decode cX4_meets 77 = .ok (.iload_n 3, 1) := by decide +kernel
theorem dX4_meets_78 : decode cX4_meets 78 = .ok (.if_icmp .eq 32, 3) := by decide +kernel
theorem dX4_meets_81 : decode cX4_meets 81 = .ok (.aload_n 0, 1) := by decide +kernel
theorem dX4_meets_82 : decode cX4_meets 82 = .ok (.getfield 26, 3) := by decide +kernel
theorem dX4_meets_85 : decode cX4_meets 85 = .ok (.iload_n 3, 1) := by decide +kernel
theorem dX4_meets_86 : decode cX4_meets 86 = .ok (.iload 4, 2) := by decide +kernel
theorem dX4_meets_88 : decode cX4_meets 88 = .ok (.invokevirtual 126, 3) := by decide +kernel
theorem dX4_meets_91 : decode cX4_meets 91 = .ok (.ifCond .ne 16, 3) := by decide +kernel
theorem dX4_meets_94 : decode cX4_meets 94 = .ok (.aload_n 0, 1) := by decide +kernel
theorem dX4_meets_95 : decode cX4_meets 95 = .ok (.getfield 26, 3) := by decide +kernel
theorem dX4_meets_98 : decode cX4_meets 98 = .ok (.iload 4, 2) := by decide +kernel
theorem dX4_meets_100 : decode cX4_meets 100 = .ok (.iload_n 3, 1) := by decide +kernel
theorem dX4_meets_101 : decode cX4_meets 101 = .ok (.invokevirtual 126, 3) := by decide +kernel
theorem dX4_meets_104 : decode cX4_meets 104 = .ok (.ifCond .eq 6, 3) := by decide +kernel
theorem dX4_meets_107 : decode cX4_meets 107 = .ok (.iinc 2 1, 3) := by decide +kernel
theorem dX4_meets_110 : decode cX4_meets 110 = .ok (.iinc 4 1, 3) := by decide +kernel
theorem dX4_meets_113 : decode cX4_meets 113 = .ok (.goto (-58), 3) := by decide +kernel
theorem dX4_meets_116 : decode cX4_meets 116 = .ok (.iinc 3 1, 3) := by decide +kernel
theorem dX4_meets_119 : decode cX4_meets 119 = .ok (.goto (-80), 3) := by decide +kernel
theorem dX4_meets_122 : decode cX4_meets 122 = .ok (.iload_n 2, 1) := by decide +kernel
theorem dX4_meets_123 : decode cX4_meets 123 = .ok (.ireturn, 1) := by decide +kernel
theorem dX4_moves_0 : decode cX4_moves 0 = .ok (.aload_n 0, 1) := by decide +kernel
theorem dX4_moves_1 : decode cX4_moves 1 = .ok (.getfield 12, 3) := by decide +kernel
theorem dX4_moves_4 : decode cX4_moves 4 = .ok (.iload_n 1, 1) := by decide +kernel
theorem dX4_moves_5 : decode cX4_moves 5 = .ok (.invokevirtual 129, 3) := by decide +kernel
theorem dX4_moves_8 : decode cX4_moves 8 = .ok (.ifCond .eq 14, 3) := by decide +kernel
theorem dX4_moves_11 : decode cX4_moves 11 = .ok (.aload_n 0, 1) := by decide +kernel
theorem dX4_moves_12 : decode cX4_moves 12 = .ok (.getfield 12, 3) := by decide +kernel
theorem dX4_moves_15 : decode cX4_moves 15 = .ok (.iload_n 1, 1) := by decide +kernel
theorem dX4_moves_16 : decode cX4_moves 16 = .ok (.invokevirtual 132, 3) := by decide +kernel
theorem dX4_moves_19 : decode cX4_moves 19 = .ok (.goto 4, 3) := by decide +kernel
theorem dX4_moves_22 : decode cX4_moves 22 = .ok (.iconst (-1), 1) := by decide +kernel
theorem dX4_moves_23 : decode cX4_moves 23 = .ok (.ireturn, 1) := by decide +kernel
theorem dX4_clear_0 : decode cX4_clear 0 = .ok (.aload_n 0, 1) := by decide +kernel
theorem dX4_clear_1 : decode cX4_clear 1 = .ok (.iload_n 1, 1) := by decide +kernel
theorem dX4_clear_2 : decode cX4_clear 2 = .ok (.iload_n 2, 1) := by decide +kernel
theorem dX4_clear_3 : decode cX4_clear 3 = .ok (.invokevirtual 135, 3) := by decide +kernel
theorem dX4_clear_6 : decode cX4_clear 6 = .ok (.ifCond .ne 5, 3) := by decide +kernel
theorem dX4_clear_9 : decode cX4_clear 9 = .ok (.iconst (-1), 1) := by decide +kernel
theorem dX4_clear_10 : decode cX4_clear 10 = .ok (.ireturn, 1) := by decide +kernel
theorem dX4_clear_11 : decode cX4_clear 11 = .ok (.aload_n 0, 1) := by decide +kernel
theorem dX4_clear_12 : decode cX4_clear 12 = .ok (.getfield 26, 3) := by decide +kernel
theorem dX4_clear_15 : decode cX4_clear 15 = .ok (.aload_n 0, 1) := by decide +kernel
theorem dX4_clear_16 : decode cX4_clear 16 = .ok (.getfield 12, 3) := by decide +kernel
theorem dX4_clear_19 : decode cX4_clear 19 = .ok (.iload_n 1, 1) := by decide +kernel
theorem dX4_clear_20 : decode cX4_clear 20 = .ok (.invokevirtual 114, 3) := by decide +kernel
theorem dX4_clear_23 : decode cX4_clear 23 = .ok (.aload_n 0, 1) := by decide +kernel
theorem dX4_clear_24 : decode cX4_clear 24 = .ok (.getfield 33, 3) := by decide +kernel
theorem dX4_clear_27 : decode cX4_clear 27 = .ok (.aload_n 0, 1) := by decide +kernel
theorem dX4_clear_28 : decode cX4_clear 28 = .ok (.getfield 12, 3) := by decide +kernel
theorem dX4_clear_31 : decode cX4_clear 31 = .ok (.aload_n 0, 1) := by decide +kernel
theorem dX4_clear_32 : decode cX4_clear 32 = .ok (.getfield 26, 3) := by decide +kernel
theorem dX4_clear_35 : decode cX4_clear 35 = .ok (.iload_n 2, 1) := by decide +kernel
theorem dX4_clear_36 : decode cX4_clear 36 = .ok (.invokevirtual 138, 3) := by decide +kernel
theorem dX4_clear_39 : decode cX4_clear 39 = .ok (.ifCond .eq 7, 3) := by decide +kernel
theorem dX4_clear_42 : decode cX4_clear 42 = .ok (.iconst 1, 1) := by decide +kernel
theorem dX4_clear_43 : decode cX4_clear 43 = .ok (.goto 4, 3) := by decide +kernel
theorem dX4_clear_46 : decode cX4_clear 46 = .ok (.iconst 0, 1) := by decide +kernel
theorem dX4_clear_47 : decode cX4_clear 47 = .ok (.ireturn, 1) := by decide +kernel
theorem dX4_edge_0 : decode cX4_edge 0 = .ok (.aload_n 0, 1) := by decide +kernel
theorem dX4_edge_1 : decode cX4_edge 1 = .ok (.iload_n 1, 1) := by decide +kernel
theorem dX4_edge_2 : decode cX4_edge 2 = .ok (.iload_n 2, 1) := by decide +kernel
theorem dX4_edge_3 : decode cX4_edge 3 = .ok (.invokevirtual 135, 3) := by decide +kernel
theorem dX4_edge_6 : decode cX4_edge 6 = .ok (.ifCond .ne 5, 3) := by decide +kernel
theorem dX4_edge_9 : decode cX4_edge 9 = .ok (.iconst (-1), 1) := by decide +kernel
theorem dX4_edge_10 : decode cX4_edge 10 = .ok (.ireturn, 1) := by decide +kernel
theorem dX4_edge_11 : decode cX4_edge 11 = .ok (.aload_n 0, 1) := by decide +kernel
theorem dX4_edge_12 : decode cX4_edge 12 = .ok (.getfield 26, 3) := by decide +kernel
theorem dX4_edge_15 : decode cX4_edge 15 = .ok (.aload_n 0, 1) := by decide +kernel
theorem dX4_edge_16 : decode cX4_edge 16 = .ok (.getfield 12, 3) := by decide +kernel
theorem dX4_edge_19 : decode cX4_edge 19 = .ok (.iload_n 1, 1) := by decide +kernel
theorem dX4_edge_20 : decode cX4_edge 20 = .ok (.invokevirtual 114, 3) := by decide +kernel
theorem dX4_edge_23 : decode cX4_edge 23 = .ok (.aload_n 0, 1) := by decide +kernel
theorem dX4_edge_24 : decode cX4_edge 24 = .ok (.getfield 26, 3) := by decide +kernel
theorem dX4_edge_27 : decode cX4_edge 27 = .ok (.aload_n 0, 1) := by decide +kernel
theorem dX4_edge_28 : decode cX4_edge 28 = .ok (.getfield 12, 3) := by decide +kernel
theorem dX4_edge_31 : decode cX4_edge 31 = .ok (.iload_n 2, 1) := by decide +kernel
theorem dX4_edge_32 : decode cX4_edge 32 = .ok (.aload_n 0, 1) := by decide +kernel
theorem dX4_edge_33 : decode cX4_edge 33 = .ok (.getfield 41, 3) := by decide +kernel
theorem dX4_edge_36 : decode cX4_edge 36 = .ok (.invokevirtual 142, 3) := by decide +kernel
theorem dX4_edge_39 : decode cX4_edge 39 = .ok (.ireturn, 1) := by decide +kernel
theorem dX4_order_0 : decode cX4_order 0 = .ok (.aload_n 0, 1) := by decide +kernel
theorem dX4_order_1 : decode cX4_order 1 = .ok (.getfield 12, 3) := by decide +kernel
theorem dX4_order_4 : decode cX4_order 4 = .ok (.getfield 66, 3) := by decide +kernel
theorem dX4_order_7 : decode cX4_order 7 = .ok (.ifCond .ne 5, 3) := by decide +kernel
theorem dX4_order_10 : decode cX4_order 10 = .ok (.iconst (-1), 1) := by decide +kernel
theorem dX4_order_11 : decode cX4_order 11 = .ok (.ireturn, 1) := by decide +kernel
theorem dX4_order_12 : decode cX4_order 12 = .ok (.aload_n 0, 1) := by decide +kernel
theorem dX4_order_13 : decode cX4_order 13 = .ok (.invokevirtual 146, 3) := by decide +kernel
theorem dX4_order_16 : decode cX4_order 16 = .ok (.aload_n 0, 1) := by decide +kernel
theorem dX4_order_17 : decode cX4_order 17 = .ok (.getfield 50, 3) := by decide +kernel
theorem dX4_order_20 : decode cX4_order 20 = .ok (.iconst 0, 1) := by decide +kernel
theorem dX4_order_21 : decode cX4_order 21 = .ok (.iaload, 1) := by decide +kernel
theorem dX4_order_22 : decode cX4_order 22 = .ok (.iconst (-1), 1) := by decide +kernel
theorem dX4_order_23 : decode cX4_order 23 = .ok (.if_icmp .ne 7, 3) := by decide +kernel
theorem dX4_order_26 : decode cX4_order 26 = .ok (.iconst (-1), 1) := by decide +kernel
theorem dX4_order_27 : decode cX4_order 27 = .ok (.goto 12, 3) := by decide +kernel
theorem dX4_order_30 : decode cX4_order 30 = .ok (.aload_n 0, 1) := by decide +kernel
theorem dX4_order_31 : decode cX4_order 31 = .ok (.getfield 12, 3) := by decide +kernel
theorem dX4_order_34 : decode cX4_order 34 = .ok (.getfield 66, 3) := by decide +kernel
theorem dX4_order_37 : decode cX4_order 37 = .ok (.iconst 1, 1) := by decide +kernel
theorem dX4_order_38 : decode cX4_order 38 = .ok (.isub, 1) := by decide +kernel
theorem dX4_order_39 : decode cX4_order 39 = .ok (.ireturn, 1) := by decide +kernel
theorem dX4_step_0 : decode cX4_step 0 = .ok (.aload_n 0, 1) := by decide +kernel
theorem dX4_step_1 : decode cX4_step 1 = .ok (.getfield 12, 3) := by decide +kernel
theorem dX4_step_4 : decode cX4_step 4 = .ok (.getfield 66, 3) := by decide +kernel
theorem dX4_step_7 : decode cX4_step 7 = .ok (.ifCond .eq 20, 3) := by decide +kernel
theorem dX4_step_10 : decode cX4_step 10 = .ok (.iload_n 1, 1) := by decide +kernel
theorem dX4_step_11 : decode cX4_step 11 = .ok (.iconst 0, 1) := by decide +kernel
theorem dX4_step_12 : decode cX4_step 12 = .ok (.aload_n 0, 1) := by decide +kernel
theorem dX4_step_13 : decode cX4_step 13 = .ok (.getfield 12, 3) := by decide +kernel
theorem dX4_step_16 : decode cX4_step 16 = .ok (.getfield 66, 3) := by decide +kernel
theorem dX4_step_19 : decode cX4_step 19 = .ok (.iconst 2, 1) := by decide +kernel
theorem dX4_step_20 : decode cX4_step 20 = .ok (.isub, 1) := by decide +kernel
theorem dX4_step_21 : decode cX4_step 21 = .ok (.invokestatic 58, 3) := by decide +kernel
theorem dX4_step_24 : decode cX4_step 24 = .ok (.ifCond .ne 5, 3) := by decide +kernel
theorem dX4_step_27 : decode cX4_step 27 = .ok (.iconst (-1), 1) := by decide +kernel
theorem dX4_step_28 : decode cX4_step 28 = .ok (.ireturn, 1) := by decide +kernel
theorem dX4_step_29 : decode cX4_step 29 = .ok (.aload_n 0, 1) := by decide +kernel
theorem dX4_step_30 : decode cX4_step 30 = .ok (.invokevirtual 146, 3) := by decide +kernel
theorem dX4_step_33 : decode cX4_step 33 = .ok (.iconst 0, 1) := by decide +kernel
theorem dX4_step_34 : decode cX4_step 34 = .ok (.istore_n 2, 1) := by decide +kernel
theorem dX4_step_35 : decode cX4_step 35 = .ok (.aload_n 0, 1) := by decide +kernel
theorem dX4_step_36 : decode cX4_step 36 = .ok (.getfield 50, 3) := by decide +kernel
theorem dX4_step_39 : decode cX4_step 39 = .ok (.iconst 0, 1) := by decide +kernel
theorem dX4_step_40 : decode cX4_step 40 = .ok (.iaload, 1) := by decide +kernel
theorem dX4_step_41 : decode cX4_step 41 = .ok (.istore_n 3, 1) := by decide +kernel
theorem dX4_step_42 : decode cX4_step 42 = .ok (.iconst 0, 1) := by decide +kernel
theorem dX4_step_43 : decode cX4_step 43 = .ok (.istore 4, 2) := by decide +kernel
theorem dX4_step_45 : decode cX4_step 45 = .ok (.iload 4, 2) := by decide +kernel
theorem dX4_step_47 : decode cX4_step 47 = .ok (.iload_n 1, 1) := by decide +kernel
theorem dX4_step_48 : decode cX4_step 48 = .ok (.if_icmp .ge 29, 3) := by decide +kernel
theorem dX4_step_51 : decode cX4_step 51 = .ok (.iload_n 3, 1) := by decide +kernel
theorem dX4_step_52 : decode cX4_step 52 = .ok (.iconst (-1), 1) := by decide +kernel
theorem dX4_step_53 : decode cX4_step 53 = .ok (.if_icmp .eq 24, 3) := by decide +kernel
theorem dX4_step_56 : decode cX4_step 56 = .ok (.iload_n 2, 1) := by decide +kernel
theorem dX4_step_57 : decode cX4_step 57 = .ok (.iconst 1, 1) := by decide +kernel
theorem dX4_step_58 : decode cX4_step 58 = .ok (.iload_n 3, 1) := by decide +kernel
theorem dX4_step_59 : decode cX4_step 59 = .ok (.ishl, 1) := by decide +kernel
theorem dX4_step_60 : decode cX4_step 60 = .ok (.ior, 1) := by decide +kernel
theorem dX4_step_61 : decode cX4_step 61 = .ok (.istore_n 2, 1) := by decide +kernel
theorem dX4_step_62 : decode cX4_step 62 = .ok (.aload_n 0, 1) := by decide +kernel
theorem dX4_step_63 : decode cX4_step 63 = .ok (.getfield 50, 3) := by decide +kernel
theorem dX4_step_66 : decode cX4_step 66 = .ok (.iload_n 2, 1) := by decide +kernel
theorem dX4_step_67 : decode cX4_step 67 = .ok (.iconst 1, 1) := by decide +kernel
theorem dX4_step_68 : decode cX4_step 68 = .ok (.ishr, 1) := by decide +kernel
theorem dX4_step_69 : decode cX4_step 69 = .ok (.iaload, 1) := by decide +kernel
theorem dX4_step_70 : decode cX4_step 70 = .ok (.istore_n 3, 1) := by decide +kernel
theorem dX4_step_71 : decode cX4_step 71 = .ok (.iinc 4 1, 3) := by decide +kernel
theorem dX4_step_74 : decode cX4_step 74 = .ok (.goto (-29), 3) := by decide +kernel
theorem dX4_step_77 : decode cX4_step 77 = .ok (.iload_n 3, 1) := by decide +kernel
theorem dX4_step_78 : decode cX4_step 78 = .ok (.ireturn, 1) := by decide +kernel
theorem dX4_count_0 : decode cX4_count 0 = .ok (.iload_n 1, 1) := by decide +kernel
theorem dX4_count_1 : decode cX4_count 1 = .ok (.ifCond .ne 11, 3) := by decide +kernel
theorem dX4_count_4 : decode cX4_count 4 = .ok (.aload_n 0, 1) := by decide +kernel
theorem dX4_count_5 : decode cX4_count 5 = .ok (.getfield 12, 3) := by decide +kernel
theorem dX4_count_8 : decode cX4_count 8 = .ok (.getfield 66, 3) := by decide +kernel
theorem dX4_count_11 : decode cX4_count 11 = .ok (.ireturn, 1) := by decide +kernel
theorem dX4_count_12 : decode cX4_count 12 = .ok (.iload_n 1, 1) := by decide +kernel
theorem dX4_count_13 : decode cX4_count 13 = .ok (.iconst 1, 1) := by decide +kernel
theorem dX4_count_14 : decode cX4_count 14 = .ok (.if_icmp .eq 5, 3) := by decide +kernel
theorem dX4_count_17 : decode cX4_count 17 = .ok (.iconst (-1), 1) := by decide +kernel
theorem dX4_count_18 : decode cX4_count 18 = .ok (.ireturn, 1) := by decide +kernel
theorem dX4_count_19 : decode cX4_count 19 = .ok (.aload_n 0, 1) := by decide +kernel
theorem dX4_count_20 : decode cX4_count 20 = .ok (.getfield 12, 3) := by decide +kernel
theorem dX4_count_23 : decode cX4_count 23 = .ok (.getfield 66, 3) := by decide +kernel
theorem dX4_count_26 : decode cX4_count 26 = .ok (.ifCond .ne 5, 3) := by decide +kernel
theorem dX4_count_29 : decode cX4_count 29 = .ok (.iconst 0, 1) := by decide +kernel
theorem dX4_count_30 : decode cX4_count 30 = .ok (.ireturn, 1) := by decide +kernel
theorem dX4_count_31 : decode cX4_count 31 = .ok (.aload_n 0, 1) := by decide +kernel
theorem dX4_count_32 : decode cX4_count 32 = .ok (.invokevirtual 146, 3) := by decide +kernel
theorem dX4_count_35 : decode cX4_count 35 = .ok (.iconst 0, 1) := by decide +kernel
theorem dX4_count_36 : decode cX4_count 36 = .ok (.istore_n 2, 1) := by decide +kernel
theorem dX4_count_37 : decode cX4_count 37 = .ok (.aload_n 0, 1) := by decide +kernel
theorem dX4_count_38 : decode cX4_count 38 = .ok (.getfield 12, 3) := by decide +kernel
theorem dX4_count_41 : decode cX4_count 41 = .ok (.invokevirtual 149, 3) := by decide +kernel
theorem dX4_count_44 : decode cX4_count 44 = .ok (.istore_n 3, 1) := by decide +kernel
theorem dX4_count_45 : decode cX4_count 45 = .ok (.iload_n 3, 1) := by decide +kernel
theorem dX4_count_46 : decode cX4_count 46 = .ok (.ifCond .lt 24, 3) := by decide +kernel
theorem dX4_count_49 : decode cX4_count 49 = .ok (.aload_n 0, 1) := by decide +kernel
theorem dX4_count_50 : decode cX4_count 50 = .ok (.getfield 50, 3) := by decide +kernel
theorem dX4_count_53 : decode cX4_count 53 = .ok (.iload_n 3, 1) := by decide +kernel
theorem dX4_count_54 : decode cX4_count 54 = .ok (.iconst 1, 1) := by decide +kernel
theorem dX4_count_55 : decode cX4_count 55 = .ok (.ishr, 1) := by decide +kernel
theorem dX4_count_56 : decode cX4_count 56 = .ok (.iaload, 1) := by decide +kernel
theorem dX4_count_57 : decode cX4_count 57 = .ok (.iconst (-1), 1) := by decide +kernel
theorem dX4_count_58 : decode cX4_count 58 = .ok (.if_icmp .eq 6, 3) := by decide +kernel
theorem dX4_count_61 : decode cX4_count 61 = .ok (.iinc 2 1, 3) := by decide +kernel
theorem dX4_count_64 : decode cX4_count 64 = .ok (.iinc 3 (-2), 3) := by decide +kernel
theorem dX4_count_67 : decode cX4_count 67 = .ok (.goto (-22), 3) := by decide +kernel
theorem dX4_count_70 : decode cX4_count 70 = .ok (.iload_n 2, 1) := by decide +kernel
theorem dX4_count_71 : decode cX4_count 71 = .ok (.ireturn, 1) := by decide +kernel
theorem dX4_check_0 : decode cX4_check 0 = .ok (.aload_n 0, 1) := by decide +kernel
theorem dX4_check_1 : decode cX4_check 1 = .ok (.getfield 26, 3) := by decide +kernel
theorem dX4_check_4 : decode cX4_check 4 = .ok (.aload_n 0, 1) := by decide +kernel
theorem dX4_check_5 : decode cX4_check 5 = .ok (.getfield 12, 3) := by decide +kernel
theorem dX4_check_8 : decode cX4_check 8 = .ok (.iconst 0, 1) := by decide +kernel
theorem dX4_check_9 : decode cX4_check 9 = .ok (.invokevirtual 114, 3) := by decide +kernel
theorem dX4_check_12 : decode cX4_check 12 = .ok (.aload_n 0, 1) := by decide +kernel
theorem dX4_check_13 : decode cX4_check 13 = .ok (.getfield 26, 3) := by decide +kernel
theorem dX4_check_16 : decode cX4_check 16 = .ok (.aload_n 0, 1) := by decide +kernel
theorem dX4_check_17 : decode cX4_check 17 = .ok (.getfield 12, 3) := by decide +kernel
theorem dX4_check_20 : decode cX4_check 20 = .ok (.invokevirtual 152, 3) := by decide +kernel
theorem dX4_check_23 : decode cX4_check 23 = .ok (.ifCond .ne 5, 3) := by decide +kernel
theorem dX4_check_26 : decode cX4_check 26 = .ok (.iconst 0, 1) := by decide +kernel
theorem dX4_check_27 : decode cX4_check 27 = .ok (.ireturn, 1) := by decide +kernel
theorem dX4_check_28 : decode cX4_check 28 = .ok (.aload_n 0, 1) := by decide +kernel
theorem dX4_check_29 : decode cX4_check 29 = .ok (.getfield 26, 3) := by decide +kernel
theorem dX4_check_32 : decode cX4_check 32 = .ok (.aload_n 0, 1) := by decide +kernel
theorem dX4_check_33 : decode cX4_check 33 = .ok (.getfield 12, 3) := by decide +kernel
theorem dX4_check_36 : decode cX4_check 36 = .ok (.aload_n 0, 1) := by decide +kernel
theorem dX4_check_37 : decode cX4_check 37 = .ok (.getfield 12, 3) := by decide +kernel
theorem dX4_check_40 : decode cX4_check 40 = .ok (.invokevirtual 149, 3) := by decide +kernel
theorem dX4_check_43 : decode cX4_check 43 = .ok (.invokevirtual 114, 3) := by decide +kernel
theorem dX4_check_46 : decode cX4_check 46 = .ok (.aload_n 0, 1) := by decide +kernel
theorem dX4_check_47 : decode cX4_check 47 = .ok (.getfield 26, 3) := by decide +kernel
theorem dX4_check_50 : decode cX4_check 50 = .ok (.aload_n 0, 1) := by decide +kernel
theorem dX4_check_51 : decode cX4_check 51 = .ok (.getfield 12, 3) := by decide +kernel
theorem dX4_check_54 : decode cX4_check 54 = .ok (.invokevirtual 152, 3) := by decide +kernel
theorem dX4_check_57 : decode cX4_check 57 = .ok (.ifCond .eq 7, 3) := by decide +kernel
theorem dX4_check_60 : decode cX4_check 60 = .ok (.iconst 1, 1) := by decide +kernel
theorem dX4_check_61 : decode cX4_check 61 = .ok (.goto 4, 3) := by decide +kernel
theorem dX4_check_64 : decode cX4_check 64 = .ok (.iconst 0, 1) := by decide +kernel
theorem dX4_check_65 : decode cX4_check 65 = .ok (.ireturn, 1) := by decide +kernel
theorem dX4_isWithin_0 : decode cX4_isWithin 0 = .ok (.iload_n 0, 1) := by decide +kernel
theorem dX4_isWithin_1 : decode cX4_isWithin 1 = .ok (.iload_n 1, 1) := by decide +kernel
theorem dX4_isWithin_2 : decode cX4_isWithin 2 = .ok (.if_icmp .lt 12, 3) := by decide +kernel
theorem dX4_isWithin_5 : decode cX4_isWithin 5 = .ok (.iload_n 0, 1) := by decide +kernel
theorem dX4_isWithin_6 : decode cX4_isWithin 6 = .ok (.iload_n 2, 1) := by decide +kernel
theorem dX4_isWithin_7 : decode cX4_isWithin 7 = .ok (.if_icmp .gt 7, 3) := by decide +kernel
theorem dX4_isWithin_10 : decode cX4_isWithin 10 = .ok (.iconst 1, 1) := by decide +kernel
theorem dX4_isWithin_11 : decode cX4_isWithin 11 = .ok (.goto 4, 3) := by decide +kernel
theorem dX4_isWithin_14 : decode cX4_isWithin 14 = .ok (.iconst 0, 1) := by decide +kernel
theorem dX4_isWithin_15 : decode cX4_isWithin 15 = .ok (.ireturn, 1) := by decide +kernel
theorem dX4_opposite_0 : decode cX4_opposite 0 = .ok (.iload_n 0, 1) := by decide +kernel
theorem dX4_opposite_1 : decode cX4_opposite 1 = .ok (.iconst 2, 1) := by decide +kernel
theorem dX4_opposite_2 : decode cX4_opposite 2 = .ok (.iadd, 1) := by decide +kernel
theorem dX4_opposite_3 : decode cX4_opposite 3 = .ok (.iconst 3, 1) := by decide +kernel
theorem dX4_opposite_4 : decode cX4_opposite 4 = .ok (.iand, 1) := by decide +kernel
theorem dX4_opposite_5 : decode cX4_opposite 5 = .ok (.ireturn, 1) := by decide +kernel
theorem dX4_isGreatest_0 : decode cX4_isGreatest 0 = .ok (.iload_n 0, 1) := by decide +kernel
theorem dX4_isGreatest_1 : decode cX4_isGreatest 1 = .ok (.ifCond .eq 8, 3) := by decide +kernel
theorem dX4_isGreatest_4 : decode cX4_isGreatest 4 = .ok (.iload_n 0, 1) := by decide +kernel
theorem dX4_isGreatest_5 : decode cX4_isGreatest 5 = .ok (.iconst 1, 1) := by decide +kernel
theorem dX4_isGreatest_6 : decode cX4_isGreatest 6 = .ok (.if_icmp .ne 7, 3) := by decide +kernel
theorem dX4_isGreatest_9 : decode cX4_isGreatest 9 = .ok (.iconst 1, 1) := by decide +kernel
theorem dX4_isGreatest_10 : decode cX4_isGreatest 10 = .ok (.goto 4, 3) := by decide +kernel
theorem dX4_isGreatest_13 : decode cX4_isGreatest 13 = .ok (.iconst 0, 1) := by decide +kernel
theorem dX4_isGreatest_14 : decode cX4_isGreatest 14 = .ok (.ireturn, 1) := by decide +kernel
theorem dX4_isAcrossX_0 : decode cX4_isAcrossX 0 = .ok (.iload_n 0, 1) := by decide +kernel
theorem dX4_isAcrossX_1 : decode cX4_isAcrossX 1 = .ok (.ifCond .eq 8, 3) := by decide +kernel
theorem dX4_isAcrossX_4 : decode cX4_isAcrossX 4 = .ok (.iload_n 0, 1) := by decide +kernel
theorem dX4_isAcrossX_5 : decode cX4_isAcrossX 5 = .ok (.iconst 2, 1) := by decide +kernel
theorem dX4_isAcrossX_6 : decode cX4_isAcrossX 6 = .ok (.if_icmp .ne 7, 3) := by decide +kernel
theorem dX4_isAcrossX_9 : decode cX4_isAcrossX 9 = .ok (.iconst 1, 1) := by decide +kernel
theorem dX4_isAcrossX_10 : decode cX4_isAcrossX 10 = .ok (.goto 4, 3) := by decide +kernel
theorem dX4_isAcrossX_13 : decode cX4_isAcrossX 13 = .ok (.iconst 0, 1) := by decide +kernel
theorem dX4_isAcrossX_14 : decode cX4_isAcrossX 14 = .ok (.ireturn, 1) := by decide +kernel
theorem dX4_canBeAsked_0 : decode cX4_canBeAsked 0 = .ok (.aload_n 0, 1) := by decide +kernel
theorem dX4_canBeAsked_1 : decode cX4_canBeAsked 1 = .ok (.getfield 12, 3) := by decide +kernel
theorem dX4_canBeAsked_4 : decode cX4_canBeAsked 4 = .ok (.iload_n 2, 1) := by decide +kernel
theorem dX4_canBeAsked_5 : decode cX4_canBeAsked 5 = .ok (.invokevirtual 129, 3) := by decide +kernel
theorem dX4_canBeAsked_8 : decode cX4_canBeAsked 8 = .ok (.ifCond .eq 26, 3) := by decide +kernel
theorem dX4_canBeAsked_11 : decode cX4_canBeAsked 11 = .ok (.aload_n 0, 1) := by decide +kernel
theorem dX4_canBeAsked_12 : decode cX4_canBeAsked 12 = .ok (.getfield 12, 3) := by decide +kernel
theorem dX4_canBeAsked_15 : decode cX4_canBeAsked 15 = .ok (.iload_n 1, 1) := by decide +kernel
theorem dX4_canBeAsked_16 : decode cX4_canBeAsked 16 = .ok (.invokevirtual 111, 3) := by decide +kernel
theorem dX4_canBeAsked_19 : decode cX4_canBeAsked 19 = .ok (.ifCond .eq 15, 3) := by decide +kernel
theorem dX4_canBeAsked_22 : decode cX4_canBeAsked 22 = .ok (.iload_n 1, 1) := by decide +kernel
theorem dX4_canBeAsked_23 : decode cX4_canBeAsked 23 = .ok (.iload_n 2, 1) := by decide +kernel
theorem dX4_canBeAsked_24 : decode cX4_canBeAsked 24 = .ok (.ishr, 1) := by decide +kernel
theorem dX4_canBeAsked_25 : decode cX4_canBeAsked 25 = .ok (.iconst 1, 1) := by decide +kernel
theorem dX4_canBeAsked_26 : decode cX4_canBeAsked 26 = .ok (.iand, 1) := by decide +kernel
theorem dX4_canBeAsked_27 : decode cX4_canBeAsked 27 = .ok (.ifCond .ne 7, 3) := by decide +kernel
theorem dX4_canBeAsked_30 : decode cX4_canBeAsked 30 = .ok (.iconst 1, 1) := by decide +kernel
theorem dX4_canBeAsked_31 : decode cX4_canBeAsked 31 = .ok (.goto 4, 3) := by decide +kernel
theorem dX4_canBeAsked_34 : decode cX4_canBeAsked 34 = .ok (.iconst 0, 1) := by decide +kernel
theorem dX4_canBeAsked_35 : decode cX4_canBeAsked 35 = .ok (.ireturn, 1) := by decide +kernel
theorem dX4_learnOrders_0 : decode cX4_learnOrders 0 = .ok (.aload_n 0, 1) := by decide +kernel
theorem dX4_learnOrders_1 : decode cX4_learnOrders 1 = .ok (.getfield 54, 3) := by decide +kernel
theorem dX4_learnOrders_4 : decode cX4_learnOrders 4 = .ok (.ifCond .eq 4, 3) := by decide +kernel
theorem dX4_learnOrders_7 : decode cX4_learnOrders 7 = .ok (.return_, 1) := by decide +kernel
theorem dX4_learnOrders_8 : decode cX4_learnOrders 8 = .ok (.aload_n 0, 1) := by decide +kernel
theorem dX4_learnOrders_9 : decode cX4_learnOrders 9 = .ok (.getfield 12, 3) := by decide +kernel
theorem dX4_learnOrders_12 : decode cX4_learnOrders 12 = .ok (.invokevirtual 149, 3) := by decide +kernel
theorem dX4_learnOrders_15 : decode cX4_learnOrders 15 = .ok (.istore_n 1, 1) := by decide +kernel
theorem dX4_learnOrders_16 : decode cX4_learnOrders 16 = .ok (.aload_n 0, 1) := by decide +kernel
theorem dX4_learnOrders_17 : decode cX4_learnOrders 17 = .ok (.getfield 50, 3) := by decide +kernel
theorem dX4_learnOrders_20 : decode cX4_learnOrders 20 = .ok (.iload_n 1, 1) := by decide +kernel
theorem dX4_learnOrders_21 : decode cX4_learnOrders 21 = .ok (.iconst 1, 1) := by decide +kernel
theorem dX4_learnOrders_22 : decode cX4_learnOrders 22 = .ok (.ishr, 1) := by decide +kernel
theorem dX4_learnOrders_23 : decode cX4_learnOrders 23 = .ok (.iconst 0, 1) := by decide +kernel
theorem dX4_learnOrders_24 : decode cX4_learnOrders 24 = .ok (.iastore, 1) := by decide +kernel
theorem dX4_learnOrders_25 : decode cX4_learnOrders 25 = .ok (.iload_n 1, 1) := by decide +kernel
theorem dX4_learnOrders_26 : decode cX4_learnOrders 26 = .ok (.iconst 2, 1) := by decide +kernel
theorem dX4_learnOrders_27 : decode cX4_learnOrders 27 = .ok (.isub, 1) := by decide +kernel
theorem dX4_learnOrders_28 : decode cX4_learnOrders 28 = .ok (.istore_n 2, 1) := by decide +kernel
theorem dX4_learnOrders_29 : decode cX4_learnOrders 29 = .ok (.iload_n 2, 1) := by decide +kernel
theorem dX4_learnOrders_30 : decode cX4_learnOrders 30 = .ok (.ifCond .lt 22, 3) := by decide +kernel
theorem dX4_learnOrders_33 : decode cX4_learnOrders 33 = .ok (.aload_n 0, 1) := by decide +kernel
theorem dX4_learnOrders_34 : decode cX4_learnOrders 34 = .ok (.getfield 50, 3) := by decide +kernel
theorem dX4_learnOrders_37 : decode cX4_learnOrders 37 = .ok (.iload_n 2, 1) := by decide +kernel
theorem dX4_learnOrders_38 : decode cX4_learnOrders 38 = .ok (.iconst 1, 1) := by decide +kernel
theorem dX4_learnOrders_39 : decode cX4_learnOrders 39 = .ok (.ishr, 1) := by decide +kernel
theorem dX4_learnOrders_40 : decode cX4_learnOrders 40 = .ok (.aload_n 0, 1) := by decide +kernel
theorem dX4_learnOrders_41 : decode cX4_learnOrders 41 = .ok (.iload_n 2, 1) := by decide +kernel
theorem dX4_learnOrders_42 : decode cX4_learnOrders 42 = .ok (.invokevirtual 156, 3) := by decide +kernel
theorem dX4_learnOrders_45 : decode cX4_learnOrders 45 = .ok (.iastore, 1) := by decide +kernel
theorem dX4_learnOrders_46 : decode cX4_learnOrders 46 = .ok (.iinc 2 (-2), 3) := by decide +kernel
theorem dX4_learnOrders_49 : decode cX4_learnOrders 49 = .ok (.goto (-20), 3) := by decide +kernel
theorem dX4_learnOrders_52 : decode cX4_learnOrders 52 = .ok (.aload_n 0, 1) := by decide +kernel
theorem dX4_learnOrders_53 : decode cX4_learnOrders 53 = .ok (.iconst 1, 1) := by decide +kernel
theorem dX4_learnOrders_54 : decode cX4_learnOrders 54 = .ok (.putfield 54, 3) := by decide +kernel
theorem dX4_learnOrders_57 : decode cX4_learnOrders 57 = .ok (.return_, 1) := by decide +kernel
theorem dX4_leastThatGoesOn_0 : decode cX4_leastThatGoesOn 0 = .ok (.iconst 0, 1) := by decide +kernel
theorem dX4_leastThatGoesOn_1 : decode cX4_leastThatGoesOn 1 = .ok (.istore_n 2, 1) := by decide +kernel
theorem dX4_leastThatGoesOn_2 : decode cX4_leastThatGoesOn 2 = .ok (.iconst 1, 1) := by decide +kernel
theorem dX4_leastThatGoesOn_3 : decode cX4_leastThatGoesOn 3 = .ok (.istore_n 3, 1) := by decide +kernel
theorem dX4_leastThatGoesOn_4 : decode cX4_leastThatGoesOn 4 = .ok (.iload_n 3, 1) := by decide +kernel
theorem dX4_leastThatGoesOn_5 : decode cX4_leastThatGoesOn 5 = .ok (.aload_n 0, 1) := by decide +kernel
theorem dX4_leastThatGoesOn_6 : decode cX4_leastThatGoesOn 6 = .ok (.getfield 12, 3) := by decide +kernel
theorem dX4_leastThatGoesOn_9 : decode cX4_leastThatGoesOn 9 = .ok (.getfield 66, 3) := by decide +kernel
theorem dX4_leastThatGoesOn_12 : decode cX4_leastThatGoesOn 12 = .ok (.if_icmp .ge 97, 3) := by decide +kernel
theorem dX4_leastThatGoesOn_15 : decode cX4_leastThatGoesOn 15 = .ok (.iload_n 1, 1) := by decide +kernel
theorem dX4_leastThatGoesOn_16 : decode cX4_leastThatGoesOn 16 = .ok (.iconst 1, 1) := by decide +kernel
theorem dX4_leastThatGoesOn_17 : decode cX4_leastThatGoesOn 17 = .ok (.iload_n 3, 1) := by decide +kernel
theorem dX4_leastThatGoesOn_18 : decode cX4_leastThatGoesOn 18 = .ok (.ishl, 1) := by decide +kernel
theorem dX4_leastThatGoesOn_19 : decode cX4_leastThatGoesOn 19 = .ok (.ior, 1) := by decide +kernel
theorem dX4_leastThatGoesOn_20 : decode cX4_leastThatGoesOn 20 = .ok (.istore 4, 2) := by decide +kernel
theorem dX4_leastThatGoesOn_22 : decode cX4_leastThatGoesOn 22 = .ok (.iload 4, 2) := by decide +kernel
theorem dX4_leastThatGoesOn_24 : decode cX4_leastThatGoesOn 24 = .ok (.iload_n 1, 1) := by decide +kernel
theorem dX4_leastThatGoesOn_25 : decode cX4_leastThatGoesOn 25 = .ok (.if_icmp .eq 78, 3) := by decide +kernel
theorem dX4_leastThatGoesOn_28 : decode cX4_leastThatGoesOn 28 = .ok (.aload_n 0, 1) := by decide +kernel
theorem dX4_leastThatGoesOn_29 : decode cX4_leastThatGoesOn 29 = .ok (.getfield 50, 3) := by decide +kernel
theorem dX4_leastThatGoesOn_32 : decode cX4_leastThatGoesOn 32 = .ok (.iload 4, 2) := by decide +kernel
theorem dX4_leastThatGoesOn_34 : decode cX4_leastThatGoesOn 34 = .ok (.iconst 1, 1) := by decide +kernel
theorem dX4_leastThatGoesOn_35 : decode cX4_leastThatGoesOn 35 = .ok (.ishr, 1) := by decide +kernel
theorem dX4_leastThatGoesOn_36 : decode cX4_leastThatGoesOn 36 = .ok (.iaload, 1) := by decide +kernel
theorem dX4_leastThatGoesOn_37 : decode cX4_leastThatGoesOn 37 = .ok (.iconst (-1), 1) := by decide +kernel
theorem dX4_leastThatGoesOn_38 : decode cX4_leastThatGoesOn 38 = .ok (.if_icmp .ne 6, 3) := by decide +kernel
theorem dX4_leastThatGoesOn_41 : decode cX4_leastThatGoesOn 41 = .ok (.goto 62, 3) := by decide +kernel
theorem dX4_leastThatGoesOn_44 : decode cX4_leastThatGoesOn 44 = .ok (.iload_n 2, 1) := by decide +kernel
theorem dX4_leastThatGoesOn_45 : decode cX4_leastThatGoesOn 45 = .ok (.ifCond .ne 17, 3) := by decide +kernel
theorem dX4_leastThatGoesOn_48 : decode cX4_leastThatGoesOn 48 = .ok (.aload_n 0, 1) := by decide +kernel
theorem dX4_leastThatGoesOn_49 : decode cX4_leastThatGoesOn 49 = .ok (.getfield 26, 3) := by decide +kernel
theorem dX4_leastThatGoesOn_52 : decode cX4_leastThatGoesOn 52 = .ok (.aload_n 0, 1) := by decide +kernel
theorem dX4_leastThatGoesOn_53 : decode cX4_leastThatGoesOn 53 = .ok (.getfield 12, 3) := by decide +kernel
theorem dX4_leastThatGoesOn_56 : decode cX4_leastThatGoesOn 56 = .ok (.iload_n 1, 1) := by decide +kernel
theorem dX4_leastThatGoesOn_57 : decode cX4_leastThatGoesOn 57 = .ok (.invokevirtual 114, 3) := by decide +kernel
theorem dX4_leastThatGoesOn_60 : decode cX4_leastThatGoesOn 60 = .ok (.iconst 1, 1) := by decide +kernel
theorem dX4_leastThatGoesOn_61 : decode cX4_leastThatGoesOn 61 = .ok (.istore_n 2, 1) := by decide +kernel
theorem dX4_leastThatGoesOn_62 : decode cX4_leastThatGoesOn 62 = .ok (.aload_n 0, 1) := by decide +kernel
theorem dX4_leastThatGoesOn_63 : decode cX4_leastThatGoesOn 63 = .ok (.getfield 26, 3) := by decide +kernel
theorem dX4_leastThatGoesOn_66 : decode cX4_leastThatGoesOn 66 = .ok (.aload_n 0, 1) := by decide +kernel
theorem dX4_leastThatGoesOn_67 : decode cX4_leastThatGoesOn 67 = .ok (.getfield 12, 3) := by decide +kernel
theorem dX4_leastThatGoesOn_70 : decode cX4_leastThatGoesOn 70 = .ok (.iload_n 3, 1) := by decide +kernel
theorem dX4_leastThatGoesOn_71 : decode cX4_leastThatGoesOn 71 = .ok (.aload_n 0, 1) := by decide +kernel
theorem dX4_leastThatGoesOn_72 : decode cX4_leastThatGoesOn 72 = .ok (.getfield 41, 3) := by decide +kernel
theorem dX4_leastThatGoesOn_75 : decode cX4_leastThatGoesOn 75 = .ok (.invokevirtual 142, 3) := by decide +kernel
theorem dX4_leastThatGoesOn_78 : decode cX4_leastThatGoesOn 78 = .ok (.iconst (-1), 1) := by decide +kernel
theorem dX4_leastThatGoesOn_79 : decode cX4_leastThatGoesOn 79 = .ok (.if_icmp .eq 24, 3) := by decide +kernel
theorem dX4_leastThatGoesOn_82 : decode cX4_leastThatGoesOn 82 = .ok (.aload_n 0, 1) := by decide +kernel
theorem dX4_leastThatGoesOn_83 : decode cX4_leastThatGoesOn 83 = .ok (.getfield 33, 3) := by decide +kernel
theorem dX4_leastThatGoesOn_86 : decode cX4_leastThatGoesOn 86 = .ok (.aload_n 0, 1) := by decide +kernel
theorem dX4_leastThatGoesOn_87 : decode cX4_leastThatGoesOn 87 = .ok (.getfield 12, 3) := by decide +kernel
theorem dX4_leastThatGoesOn_90 : decode cX4_leastThatGoesOn 90 = .ok (.aload_n 0, 1) := by decide +kernel
theorem dX4_leastThatGoesOn_91 : decode cX4_leastThatGoesOn 91 = .ok (.getfield 26, 3) := by decide +kernel
theorem dX4_leastThatGoesOn_94 : decode cX4_leastThatGoesOn 94 = .ok (.iload_n 3, 1) := by decide +kernel
theorem dX4_leastThatGoesOn_95 : decode cX4_leastThatGoesOn 95 = .ok (.invokevirtual 138, 3) := by decide +kernel
theorem dX4_leastThatGoesOn_98 : decode cX4_leastThatGoesOn 98 = .ok (.ifCond .eq 5, 3) := by decide +kernel
theorem dX4_leastThatGoesOn_101 : decode cX4_leastThatGoesOn 101 = .ok (.iload_n 3, 1) := by decide +kernel
theorem dX4_leastThatGoesOn_102 : decode cX4_leastThatGoesOn 102 = .ok (.ireturn, 1) := by decide +kernel
theorem dX4_leastThatGoesOn_103 : decode cX4_leastThatGoesOn 103 = .ok (.iinc 3 1, 3) := by decide +kernel
theorem dX4_leastThatGoesOn_106 : decode cX4_leastThatGoesOn 106 = .ok (.goto (-102), 3) := by decide +kernel
theorem dX4_leastThatGoesOn_109 : decode cX4_leastThatGoesOn 109 = .ok (.iconst (-1), 1) := by decide +kernel
theorem dX4_leastThatGoesOn_110 : decode cX4_leastThatGoesOn 110 = .ok (.ireturn, 1) := by decide +kernel
theorem dX5_init_0 : decode cX5_init 0 = .ok (.aload_n 0, 1) := by decide +kernel
theorem dX5_init_1 : decode cX5_init 1 = .ok (.invokespecial 1, 3) := by decide +kernel
theorem dX5_init_4 : decode cX5_init 4 = .ok (.aload_n 0, 1) := by decide +kernel
theorem dX5_init_5 : decode cX5_init 5 = .ok (.bipush 80, 2) := by decide +kernel
theorem dX5_init_7 : decode cX5_init 7 = .ok (.putfield 7, 3) := by decide +kernel
theorem dX5_init_10 : decode cX5_init 10 = .ok (.aload_n 0, 1) := by decide +kernel
theorem dX5_init_11 : decode cX5_init 11 = .ok (.bipush 13, 2) := by decide +kernel
theorem dX5_init_13 : decode cX5_init 13 = .ok (.newarray .int, 2) := by decide +kernel
theorem dX5_init_15 : decode cX5_init 15 = .ok (.putfield 13, 3) := by decide +kernel
theorem dX5_init_18 : decode cX5_init 18 = .ok (.aload_n 0, 1) := by decide +kernel
theorem dX5_init_19 : decode cX5_init 19 = .ok (.bipush 13, 2) := by decide +kernel
theorem dX5_init_21 : decode cX5_init 21 = .ok (.newarray .int, 2) := by decide +kernel
theorem dX5_init_23 : decode cX5_init 23 = .ok (.putfield 17, 3) := by decide +kernel
theorem dX5_init_26 : decode cX5_init 26 = .ok (.aload_n 0, 1) := by decide +kernel
theorem dX5_init_27 : decode cX5_init 27 = .ok (.bipush 13, 2) := by decide +kernel
theorem dX5_init_29 : decode cX5_init 29 = .ok (.newarray .boolean, 2) := by decide +kernel
theorem dX5_init_31 : decode cX5_init 31 = .ok (.putfield 20, 3) := by decide +kernel
theorem dX5_init_34 : decode cX5_init 34 = .ok (.aload_n 0, 1) := by decide +kernel
theorem dX5_init_35 : decode cX5_init 35 = .ok (.bipush 52, 2) := by decide +kernel
theorem dX5_init_37 : decode cX5_init 37 = .ok (.newarray .int, 2) := by decide +kernel
theorem dX5_init_39 : decode cX5_init 39 = .ok (.putfield 24, 3) := by decide +kernel
theorem dX5_init_42 : decode cX5_init 42 = .ok (.aload_n 0, 1) := by decide +kernel
theorem dX5_init_43 : decode cX5_init 43 = .ok (.bipush 52, 2) := by decide +kernel
theorem dX5_init_45 : decode cX5_init 45 = .ok (.newarray .int, 2) := by decide +kernel
theorem dX5_init_47 : decode cX5_init 47 = .ok (.putfield 27, 3) := by decide +kernel
theorem dX5_init_50 : decode cX5_init 50 = .ok (.aload_n 0, 1) := by decide +kernel
theorem dX5_init_51 : decode cX5_init 51 = .ok (.iconst (-1), 1) := by decide +kernel
theorem dX5_init_52 : decode cX5_init 52 = .ok (.putfield 30, 3) := by decide +kernel
theorem dX5_init_55 : decode cX5_init 55 = .ok (.aload_n 0, 1) := by decide +kernel
theorem dX5_init_56 : decode cX5_init 56 = .ok (.iconst (-1), 1) := by decide +kernel
theorem dX5_init_57 : decode cX5_init 57 = .ok (.putfield 33, 3) := by decide +kernel
theorem dX5_init_60 : decode cX5_init 60 = .ok (.aload_n 0, 1) := by decide +kernel
theorem dX5_init_61 : decode cX5_init 61 = .ok (.bipush 39, 2) := by decide +kernel
theorem dX5_init_63 : decode cX5_init 63 = .ok (.newarray .int, 2) := by decide +kernel
theorem dX5_init_65 : decode cX5_init 65 = .ok (.putfield 36, 3) := by decide +kernel
theorem dX5_init_68 : decode cX5_init 68 = .ok (.aload_n 0, 1) := by decide +kernel
theorem dX5_init_69 : decode cX5_init 69 = .ok (.bipush 39, 2) := by decide +kernel
theorem dX5_init_71 : decode cX5_init 71 = .ok (.newarray .int, 2) := by decide +kernel
theorem dX5_init_73 : decode cX5_init 73 = .ok (.putfield 39, 3) := by decide +kernel
theorem dX5_init_76 : decode cX5_init 76 = .ok (.aload_n 0, 1) := by decide +kernel
theorem dX5_init_77 : decode cX5_init 77 = .ok (.bipush 39, 2) := by decide +kernel
theorem dX5_init_79 : decode cX5_init 79 = .ok (.newarray .int, 2) := by decide +kernel
theorem dX5_init_81 : decode cX5_init 81 = .ok (.putfield 42, 3) := by decide +kernel
theorem dX5_init_84 : decode cX5_init 84 = .ok (.aload_n 0, 1) := by decide +kernel
theorem dX5_init_85 : decode cX5_init 85 = .ok (.bipush 39, 2) := by decide +kernel
theorem dX5_init_87 : decode cX5_init 87 = .ok (.newarray .int, 2) := by decide +kernel
theorem dX5_init_89 : decode cX5_init 89 = .ok (.putfield 45, 3) := by decide +kernel
theorem dX5_init_92 : decode cX5_init 92 = .ok (.aload_n 0, 1) := by decide +kernel
theorem dX5_init_93 : decode cX5_init 93 = .ok (.bipush 78, 2) := by decide +kernel
theorem dX5_init_95 : decode cX5_init 95 = .ok (.newarray .int, 2) := by decide +kernel
theorem dX5_init_97 : decode cX5_init 97 = .ok (.putfield 48, 3) := by decide +kernel
theorem dX5_init_100 : decode cX5_init 100 = .ok (.aload_n 0, 1) := by decide +kernel
theorem dX5_init_101 : decode cX5_init 101 = .ok (.sipush 4096, 3) := by decide +kernel
theorem dX5_init_104 : decode cX5_init 104 = .ok (.newarray .boolean, 2) := by decide +kernel
theorem dX5_init_106 : decode cX5_init 106 = .ok (.putfield 51, 3) := by decide +kernel
theorem dX5_init_109 : decode cX5_init 109 = .ok (.aload_n 0, 1) := by decide +kernel
theorem dX5_init_110 : decode cX5_init 110 = .ok (.bipush 8, 2) := by decide +kernel
theorem dX5_init_112 : decode cX5_init 112 = .ok (.newarray .long, 2) := by decide +kernel
theorem dX5_init_114 : decode cX5_init 114 = .ok (.putfield 54, 3) := by decide +kernel
theorem dX5_init_117 : decode cX5_init 117 = .ok (.aload_n 0, 1) := by decide +kernel
theorem dX5_init_118 : decode cX5_init 118 = .ok (.bipush 8, 2) := by decide +kernel
theorem dX5_init_120 : decode cX5_init 120 = .ok (.newarray .long, 2) := by decide +kernel
theorem dX5_init_122 : decode cX5_init 122 = .ok (.putfield 58, 3) := by decide +kernel
theorem dX5_init_125 : decode cX5_init 125 = .ok (.aload_n 0, 1) := by decide +kernel
theorem dX5_init_126 : decode cX5_init 126 = .ok (.bipush 8, 2) := by decide +kernel
theorem dX5_init_128 : decode cX5_init 128 = .ok (.newarray .boolean, 2) := by decide +kernel
theorem dX5_init_130 : decode cX5_init 130 = .ok (.putfield 61, 3) := by decide +kernel
theorem dX5_init_133 : decode cX5_init 133 = .ok (.return_, 1) := by decide +kernel
theorem dX5_isIn_0 : decode cX5_isIn 0 = .ok (.lload_n 0, 1) := by decide +kernel
theorem dX5_isIn_1 : decode cX5_isIn 1 = .ok (.lload_n 2, 1) := by decide +kernel
theorem dX5_isIn_2 : decode cX5_isIn 2 = .ok (.lcmp, 1) := by decide +kernel
theorem dX5_isIn_3 : decode cX5_isIn 3 = .ok (.ifCond .lt 14, 3) := by decide +kernel
theorem dX5_isIn_6 : decode cX5_isIn 6 = .ok (.lload_n 0, 1) := by decide +kernel
theorem dX5_isIn_7 : decode cX5_isIn 7 = .ok (.lload 4, 2) := by decide +kernel
theorem dX5_isIn_9 : decode cX5_isIn 9 = .ok (.lcmp, 1) := by decide +kernel
theorem dX5_isIn_10 : decode cX5_isIn 10 = .ok (.ifCond .gt 7, 3) := by decide +kernel
theorem dX5_isIn_13 : decode cX5_isIn 13 = .ok (.iconst 1, 1) := by decide +kernel
theorem dX5_isIn_14 : decode cX5_isIn 14 = .ok (.goto 4, 3) := by decide +kernel
theorem dX5_isIn_17 : decode cX5_isIn 17 = .ok (.iconst 0, 1) := by decide +kernel
theorem dX5_isIn_18 : decode cX5_isIn 18 = .ok (.ireturn, 1) := by decide +kernel
theorem dX5_base_0 : decode cX5_base 0 = .ok (.aload_n 0, 1) := by decide +kernel
theorem dX5_base_1 : decode cX5_base 1 = .ok (.iconst 0, 1) := by decide +kernel
theorem dX5_base_2 : decode cX5_base 2 = .ok (.putfield 64, 3) := by decide +kernel
theorem dX5_base_5 : decode cX5_base 5 = .ok (.iload_n 1, 1) := by decide +kernel
theorem dX5_base_6 : decode cX5_base 6 = .ok (.i2l, 1) := by decide +kernel
theorem dX5_base_7 : decode cX5_base 7 = .ok (.lconst 1, 1) := by decide +kernel
theorem dX5_base_8 : decode cX5_base 8 = .ok (.ldc2_w 67, 3) := by decide +kernel
theorem dX5_base_11 : decode cX5_base 11 = .ok (.invokestatic 69, 3) := by decide +kernel
theorem dX5_base_14 : decode cX5_base 14 = .ok (.ifCond .eq 15, 3) := by decide +kernel
theorem dX5_base_17 : decode cX5_base 17 = .ok (.iload_n 2, 1) := by decide +kernel
theorem dX5_base_18 : decode cX5_base 18 = .ok (.i2l, 1) := by decide +kernel
theorem dX5_base_19 : decode cX5_base 19 = .ok (.lconst 1, 1) := by decide +kernel
theorem dX5_base_20 : decode cX5_base 20 = .ok (.ldc2_w 67, 3) := by decide +kernel
theorem dX5_base_23 : decode cX5_base 23 = .ok (.invokestatic 69, 3) := by decide +kernel
theorem dX5_base_26 : decode cX5_base 26 = .ok (.ifCond .ne 5, 3) := by decide +kernel
theorem dX5_base_29 : decode cX5_base 29 = .ok (.iconst 0, 1) := by decide +kernel
theorem dX5_base_30 : decode cX5_base 30 = .ok (.ireturn, 1) := by decide +kernel
theorem dX5_base_31 : decode cX5_base 31 = .ok (.aload_n 0, 1) := by decide +kernel
theorem dX5_base_32 : decode cX5_base 32 = .ok (.iconst 1, 1) := by decide +kernel
theorem dX5_base_33 : decode cX5_base 33 = .ok (.putfield 73, 3) := by decide +kernel
theorem dX5_base_36 : decode cX5_base 36 = .ok (.aload_n 0, 1) := by decide +kernel
theorem dX5_base_37 : decode cX5_base 37 = .ok (.getfield 13, 3) := by decide +kernel
theorem dX5_base_40 : decode cX5_base 40 = .ok (.iconst 0, 1) := by decide +kernel
theorem dX5_base_41 : decode cX5_base 41 = .ok (.iconst (-1), 1) := by decide +kernel
theorem dX5_base_42 : decode cX5_base 42 = .ok (.iastore, 1) := by decide +kernel
theorem dX5_base_43 : decode cX5_base 43 = .ok (.aload_n 0, 1) := by decide +kernel
theorem dX5_base_44 : decode cX5_base 44 = .ok (.getfield 17, 3) := by decide +kernel
theorem dX5_base_47 : decode cX5_base 47 = .ok (.iconst 0, 1) := by decide +kernel
theorem dX5_base_48 : decode cX5_base 48 = .ok (.iconst (-1), 1) := by decide +kernel
theorem dX5_base_49 : decode cX5_base 49 = .ok (.iastore, 1) := by decide +kernel
theorem dX5_base_50 : decode cX5_base 50 = .ok (.aload_n 0, 1) := by decide +kernel
theorem dX5_base_51 : decode cX5_base 51 = .ok (.getfield 24, 3) := by decide +kernel
theorem dX5_base_54 : decode cX5_base 54 = .ok (.iconst 0, 1) := by decide +kernel
theorem dX5_base_55 : decode cX5_base 55 = .ok (.iconst 0, 1) := by decide +kernel
theorem dX5_base_56 : decode cX5_base 56 = .ok (.iastore, 1) := by decide +kernel
theorem dX5_base_57 : decode cX5_base 57 = .ok (.aload_n 0, 1) := by decide +kernel
theorem dX5_base_58 : decode cX5_base 58 = .ok (.getfield 24, 3) := by decide +kernel
theorem dX5_base_61 : decode cX5_base 61 = .ok (.iconst 1, 1) := by decide +kernel
theorem dX5_base_62 : decode cX5_base 62 = .ok (.iconst 0, 1) := by decide +kernel
theorem dX5_base_63 : decode cX5_base 63 = .ok (.iastore, 1) := by decide +kernel
theorem dX5_base_64 : decode cX5_base 64 = .ok (.aload_n 0, 1) := by decide +kernel
theorem dX5_base_65 : decode cX5_base 65 = .ok (.getfield 24, 3) := by decide +kernel
theorem dX5_base_68 : decode cX5_base 68 = .ok (.iconst 2, 1) := by decide +kernel
theorem dX5_base_69 : decode cX5_base 69 = .ok (.iload_n 1, 1) := by decide +kernel
theorem dX5_base_70 : decode cX5_base 70 = .ok (.iastore, 1) := by decide +kernel
theorem dX5_base_71 : decode cX5_base 71 = .ok (.aload_n 0, 1) := by decide +kernel
theorem dX5_base_72 : decode cX5_base 72 = .ok (.getfield 24, 3) := by decide +kernel
theorem dX5_base_75 : decode cX5_base 75 = .ok (.iconst 3, 1) := by decide +kernel
theorem dX5_base_76 : decode cX5_base 76 = .ok (.iload_n 2, 1) := by decide +kernel
theorem dX5_base_77 : decode cX5_base 77 = .ok (.iastore, 1) := by decide +kernel
theorem dX5_base_78 : decode cX5_base 78 = .ok (.aload_n 0, 1) := by decide +kernel
theorem dX5_base_79 : decode cX5_base 79 = .ok (.iconst 0, 1) := by decide +kernel
theorem dX5_base_80 : decode cX5_base 80 = .ok (.putfield 76, 3) := by decide +kernel
theorem dX5_base_83 : decode cX5_base 83 = .ok (.iconst 1, 1) := by decide +kernel
theorem dX5_base_84 : decode cX5_base 84 = .ok (.ireturn, 1) := by decide +kernel
theorem dX5_panel_0 : decode cX5_panel 0 = .ok (.aload_n 0, 1) := by decide +kernel
theorem dX5_panel_1 : decode cX5_panel 1 = .ok (.iconst 0, 1) := by decide +kernel
theorem dX5_panel_2 : decode cX5_panel 2 = .ok (.putfield 64, 3) := by decide +kernel
theorem dX5_panel_5 : decode cX5_panel 5 = .ok (.iload_n 1, 1) := by decide +kernel
theorem dX5_panel_6 : decode cX5_panel 6 = .ok (.i2l, 1) := by decide +kernel
theorem dX5_panel_7 : decode cX5_panel 7 = .ok (.lconst 0, 1) := by decide +kernel
theorem dX5_panel_8 : decode cX5_panel 8 = .ok (.aload_n 0, 1) := by decide +kernel
theorem dX5_panel_9 : decode cX5_panel 9 = .ok (.getfield 73, 3) := by decide +kernel
theorem dX5_panel_12 : decode cX5_panel 12 = .ok (.i2l, 1) := by decide +kernel
theorem dX5_panel_13 : decode cX5_panel 13 = .ok (.lconst 1, 1) := by decide +kernel
theorem dX5_panel_14 : decode cX5_panel 14 = .ok (.lsub, 1) := by decide +kernel
theorem dX5_panel_15 : decode cX5_panel 15 = .ok (.invokestatic 69, 3) := by decide +kernel
theorem dX5_panel_18 : decode cX5_panel 18 = .ok (.ifCond .eq 35, 3) := by decide +kernel
theorem dX5_panel_21 : decode cX5_panel 21 = .ok (.iload_n 2, 1) := by decide +kernel
theorem dX5_panel_22 : decode cX5_panel 22 = .ok (.i2l, 1) := by decide +kernel
theorem dX5_panel_23 : decode cX5_panel 23 = .ok (.lconst 0, 1) := by decide +kernel
theorem dX5_panel_24 : decode cX5_panel 24 = .ok (.ldc2_w 80, 3) := by decide +kernel
theorem dX5_panel_27 : decode cX5_panel 27 = .ok (.invokestatic 69, 3) := by decide +kernel
theorem dX5_panel_30 : decode cX5_panel 30 = .ok (.ifCond .eq 23, 3) := by decide +kernel
theorem dX5_panel_33 : decode cX5_panel 33 = .ok (.iload 6, 2) := by decide +kernel
theorem dX5_panel_35 : decode cX5_panel 35 = .ok (.i2l, 1) := by decide +kernel
theorem dX5_panel_36 : decode cX5_panel 36 = .ok (.lconst 0, 1) := by decide +kernel
theorem dX5_panel_37 : decode cX5_panel 37 = .ok (.lconst 1, 1) := by decide +kernel
theorem dX5_panel_38 : decode cX5_panel 38 = .ok (.invokestatic 69, 3) := by decide +kernel
theorem dX5_panel_41 : decode cX5_panel 41 = .ok (.ifCond .eq 12, 3) := by decide +kernel
theorem dX5_panel_44 : decode cX5_panel 44 = .ok (.aload_n 0, 1) := by decide +kernel
theorem dX5_panel_45 : decode cX5_panel 45 = .ok (.getfield 73, 3) := by decide +kernel
theorem dX5_panel_48 : decode cX5_panel 48 = .ok (.bipush 13, 2) := by decide +kernel
theorem dX5_panel_50 : decode cX5_panel 50 = .ok (.if_icmp .ne 5, 3) := by decide +kernel
theorem dX5_panel_53 : decode cX5_panel 53 = .ok (.iconst (-1), 1) := by decide +kernel
theorem dX5_panel_54 : decode cX5_panel 54 = .ok (.ireturn, 1) := by decide +kernel
theorem dX5_panel_55 : decode cX5_panel 55 = .ok (.iload_n 1, 1) := by decide +kernel
theorem dX5_panel_56 : decode cX5_panel 56 = .ok (.ifCond .le 19, 3) := by decide +kernel
theorem dX5_panel_59 : decode cX5_panel 59 = .ok (.iload_n 2, 1) := by decide +kernel
theorem dX5_panel_60 : decode cX5_panel 60 = .ok (.aload_n 0, 1) := by decide +kernel
theorem dX5_panel_61 : decode cX5_panel 61 = .ok (.getfield 17, 3) := by decide +kernel
theorem dX5_panel_64 : decode cX5_panel 64 = .ok (.iload_n 1, 1) := by decide +kernel
theorem dX5_panel_65 : decode cX5_panel 65 = .ok (.iaload, 1) := by decide +kernel
theorem dX5_panel_66 : decode cX5_panel 66 = .ok (.iconst 2, 1) := by decide +kernel
theorem dX5_panel_67 : decode cX5_panel 67 = .ok (.iadd, 1) := by decide +kernel
theorem dX5_panel_68 : decode cX5_panel 68 = .ok (.iconst 4, 1) := by decide +kernel
theorem dX5_panel_69 : decode cX5_panel 69 = .ok (.irem, 1) := by decide +kernel
theorem dX5_panel_70 : decode cX5_panel 70 = .ok (.if_icmp .ne 5, 3) := by decide +kernel
theorem dX5_panel_73 : decode cX5_panel 73 = .ok (.iconst (-1), 1) := by decide +kernel
theorem dX5_panel_74 : decode cX5_panel 74 = .ok (.ireturn, 1) := by decide +kernel
theorem dX5_panel_75 : decode cX5_panel 75 = .ok (.iconst 4, 1) := by decide +kernel
theorem dX5_panel_76 : decode cX5_panel 76 = .ok (.iload_n 1, 1) := by decide +kernel
theorem dX5_panel_77 : decode cX5_panel 77 = .ok (.imul, 1) := by decide +kernel
theorem dX5_panel_78 : decode cX5_panel 78 = .ok (.istore 7, 2) := by decide +kernel
theorem dX5_panel_80 : decode cX5_panel 80 = .ok (.iload_n 2, 1) := by decide +kernel
theorem dX5_panel_81 : decode cX5_panel 81 = .ok (.iconst 2, 1) := by decide +kernel
theorem dX5_panel_82 : decode cX5_panel 82 = .ok (.irem, 1) := by decide +kernel
theorem dX5_panel_83 : decode cX5_panel 83 = .ok (.ifCond .ne 7, 3) := by decide +kernel
theorem dX5_panel_86 : decode cX5_panel 86 = .ok (.iconst 1, 1) := by decide +kernel
theorem dX5_panel_87 : decode cX5_panel 87 = .ok (.goto 4, 3) := by decide +kernel
theorem dX5_panel_90 : decode cX5_panel 90 = .ok (.iconst 0, 1) := by decide +kernel
theorem dX5_panel_91 : decode cX5_panel 91 = .ok (.istore 8, 2) := by decide +kernel
theorem dX5_panel_93 : decode cX5_panel 93 = .ok (.iload 8, 2) := by decide +kernel
theorem dX5_panel_95 : decode cX5_panel 95 = .ok (.ifCond .eq 25, 3) := by decide +kernel
theorem dX5_panel_98 : decode cX5_panel 98 = .ok (.aload_n 0, 1) := by decide +kernel
theorem dX5_panel_99 : decode cX5_panel 99 = .ok (.getfield 24, 3) := by decide +kernel
theorem dX5_panel_102 : decode cX5_panel 102 = .ok (.iload 7, 2) := by decide +kernel
theorem dX5_panel_104 : decode cX5_panel 104 = .ok (.iconst 3, 1) := by decide +kernel
theorem dX5_panel_105 : decode cX5_panel 105 = .ok (.iadd, 1) := by decide +kernel
theorem dX5_panel_106 : decode cX5_panel 106 = .ok (.iaload, 1) := by decide +kernel
theorem dX5_panel_107 : decode cX5_panel 107 = .ok (.aload_n 0, 1) := by decide +kernel
theorem dX5_panel_108 : decode cX5_panel 108 = .ok (.getfield 24, 3) := by decide +kernel
theorem dX5_panel_111 : decode cX5_panel 111 = .ok (.iload 7, 2) := by decide +kernel
theorem dX5_panel_113 : decode cX5_panel 113 = .ok (.iconst 1, 1) := by decide +kernel
theorem dX5_panel_114 : decode cX5_panel 114 = .ok (.iadd, 1) := by decide +kernel
theorem dX5_panel_115 : decode cX5_panel 115 = .ok (.iaload, 1) := by decide +kernel
theorem dX5_panel_116 : decode cX5_panel 116 = .ok (.isub, 1) := by decide +kernel
theorem dX5_panel_117 : decode cX5_panel 117 = .ok (.goto 20, 3) := by decide +kernel
theorem dX5_panel_120 : decode cX5_panel 120 = .ok (.aload_n 0, 1) := by decide +kernel
theorem dX5_panel_121 : decode cX5_panel 121 = .ok (.getfield 24, 3) := by decide +kernel
theorem dX5_panel_124 : decode cX5_panel 124 = .ok (.iload 7, 2) := by decide +kernel
theorem dX5_panel_126 : decode cX5_panel 126 = .ok (.iconst 2, 1) := by decide +kernel
theorem dX5_panel_127 : decode cX5_panel 127 = .ok (.iadd, 1) := by decide +kernel
theorem dX5_panel_128 : decode cX5_panel 128 = .ok (.iaload, 1) := by decide +kernel
theorem dX5_panel_129 : decode cX5_panel 129 = .ok (.aload_n 0, 1) := by decide +kernel
theorem dX5_panel_130 : decode cX5_panel 130 = .ok (.getfield 24, 3) := by decide +kernel
theorem dX5_panel_133 : decode cX5_panel 133 = .ok (.iload 7, 2) := by decide +kernel
theorem dX5_panel_135 : decode cX5_panel 135 = .ok (.iaload, 1) := by decide +kernel
theorem dX5_panel_136 : decode cX5_panel 136 = .ok (.isub, 1) := by decide +kernel
theorem dX5_panel_137 : decode cX5_panel 137 = .ok (.istore 9, 2) := by decide +kernel
theorem dX5_panel_139 : decode cX5_panel 139 = .ok (.iload 4, 2) := by decide +kernel
theorem dX5_panel_141 : decode cX5_panel 141 = .ok (.i2l, 1) := by decide +kernel
theorem dX5_panel_142 : decode cX5_panel 142 = .ok (.lconst 1, 1) := by decide +kernel
theorem dX5_panel_143 : decode cX5_panel 143 = .ok (.ldc2_w 67, 3) := by decide +kernel
theorem dX5_panel_146 : decode cX5_panel 146 = .ok (.invokestatic 69, 3) := by decide +kernel
theorem dX5_panel_149 : decode cX5_panel 149 = .ok (.ifCond .eq 33, 3) := by decide +kernel
theorem dX5_panel_152 : decode cX5_panel 152 = .ok (.iload 5, 2) := by decide +kernel
theorem dX5_panel_154 : decode cX5_panel 154 = .ok (.i2l, 1) := by decide +kernel
theorem dX5_panel_155 : decode cX5_panel 155 = .ok (.lconst 1, 1) := by decide +kernel
theorem dX5_panel_156 : decode cX5_panel 156 = .ok (.ldc2_w 67, 3) := by decide +kernel
theorem dX5_panel_159 : decode cX5_panel 159 = .ok (.invokestatic 69, 3) := by decide +kernel
theorem dX5_panel_162 : decode cX5_panel 162 = .ok (.ifCond .eq 20, 3) := by decide +kernel
theorem dX5_panel_165 : decode cX5_panel 165 = .ok (.iload_n 3, 1) := by decide +kernel
theorem dX5_panel_166 : decode cX5_panel 166 = .ok (.ifCond .lt 16, 3) := by decide +kernel
theorem dX5_panel_169 : decode cX5_panel 169 = .ok (.iload_n 3, 1) := by decide +kernel
theorem dX5_panel_170 : decode cX5_panel 170 = .ok (.i2l, 1) := by decide +kernel
theorem dX5_panel_171 : decode cX5_panel 171 = .ok (.iload 4, 2) := by decide +kernel
theorem dX5_panel_173 : decode cX5_panel 173 = .ok (.i2l, 1) := by decide +kernel
theorem dX5_panel_174 : decode cX5_panel 174 = .ok (.ladd, 1) := by decide +kernel
theorem dX5_panel_175 : decode cX5_panel 175 = .ok (.iload 9, 2) := by decide +kernel
theorem dX5_panel_177 : decode cX5_panel 177 = .ok (.i2l, 1) := by decide +kernel
theorem dX5_panel_178 : decode cX5_panel 178 = .ok (.lcmp, 1) := by decide +kernel
theorem dX5_panel_179 : decode cX5_panel 179 = .ok (.ifCond .le 5, 3) := by decide +kernel
theorem dX5_panel_182 : decode cX5_panel 182 = .ok (.iconst (-1), 1) := by decide +kernel
theorem dX5_panel_183 : decode cX5_panel 183 = .ok (.ireturn, 1) := by decide +kernel
theorem dX5_panel_184 : decode cX5_panel 184 = .ok (.aload_n 0, 1) := by decide +kernel
theorem dX5_panel_185 : decode cX5_panel 185 = .ok (.getfield 73, 3) := by decide +kernel
theorem dX5_panel_188 : decode cX5_panel 188 = .ok (.istore 10, 2) := by decide +kernel
theorem dX5_panel_190 : decode cX5_panel 190 = .ok (.aload_n 0, 1) := by decide +kernel
theorem dX5_panel_191 : decode cX5_panel 191 = .ok (.getfield 13, 3) := by decide +kernel
theorem dX5_panel_194 : decode cX5_panel 194 = .ok (.iload 10, 2) := by decide +kernel
theorem dX5_panel_196 : decode cX5_panel 196 = .ok (.iload_n 1, 1) := by decide +kernel
theorem dX5_panel_197 : decode cX5_panel 197 = .ok (.iastore, 1) := by decide +kernel
theorem dX5_panel_198 : decode cX5_panel 198 = .ok (.aload_n 0, 1) := by decide +kernel
theorem dX5_panel_199 : decode cX5_panel 199 = .ok (.getfield 17, 3) := by decide +kernel
theorem dX5_panel_202 : decode cX5_panel 202 = .ok (.iload 10, 2) := by decide +kernel
theorem dX5_panel_204 : decode cX5_panel 204 = .ok (.iload_n 2, 1) := by decide +kernel
theorem dX5_panel_205 : decode cX5_panel 205 = .ok (.iastore, 1) := by decide +kernel
theorem dX5_panel_206 : decode cX5_panel 206 = .ok (.aload_n 0, 1) := by decide +kernel
theorem dX5_panel_207 : decode cX5_panel 207 = .ok (.getfield 20, 3) := by decide +kernel
theorem dX5_panel_210 : decode cX5_panel 210 = .ok (.iload 10, 2) := by decide +kernel
theorem dX5_panel_212 : decode cX5_panel 212 = .ok (.iload 6, 2) := by decide +kernel
theorem dX5_panel_214 : decode cX5_panel 214 = .ok (.iconst 1, 1) := by decide +kernel
theorem dX5_panel_215 : decode cX5_panel 215 = .ok (.if_icmp .ne 7, 3) := by decide +kernel
theorem dX5_panel_218 : decode cX5_panel 218 = .ok (.iconst 1, 1) := by decide +kernel
theorem dX5_panel_219 : decode cX5_panel 219 = .ok (.goto 4, 3) := by decide +kernel
theorem dX5_panel_222 : decode cX5_panel 222 = .ok (.iconst 0, 1) := by decide +kernel
theorem dX5_panel_223 : decode cX5_panel 223 = .ok (.bastore, 1) := by decide +kernel
theorem dX5_panel_224 : decode cX5_panel 224 = .ok (.iload 8, 2) := by decide +kernel
theorem dX5_panel_226 : decode cX5_panel 226 = .ok (.ifCond .eq 111, 3) := by decide +kernel
theorem dX5_panel_229 : decode cX5_panel 229 = .ok (.aload_n 0, 1) := by decide +kernel
theorem dX5_panel_230 : decode cX5_panel 230 = .ok (.getfield 24, 3) := by decide +kernel
theorem dX5_panel_233 : decode cX5_panel 233 = .ok (.iconst 4, 1) := by decide +kernel
theorem dX5_panel_234 : decode cX5_panel 234 = .ok (.iload 10, 2) := by decide +kernel
theorem dX5_panel_236 : decode cX5_panel 236 = .ok (.imul, 1) := by decide +kernel
theorem dX5_panel_237 : decode cX5_panel 237 = .ok (.iload_n 2, 1) := by decide +kernel
theorem dX5_panel_238 : decode cX5_panel 238 = .ok (.ifCond .ne 15, 3) := by decide +kernel
theorem dX5_panel_241 : decode cX5_panel 241 = .ok (.aload_n 0, 1) := by decide +kernel
theorem dX5_panel_242 : decode cX5_panel 242 = .ok (.getfield 24, 3) := by decide +kernel
theorem dX5_panel_245 : decode cX5_panel 245 = .ok (.iload 7, 2) := by decide +kernel
theorem dX5_panel_247 : decode cX5_panel 247 = .ok (.iconst 2, 1) := by decide +kernel
theorem dX5_panel_248 : decode cX5_panel 248 = .ok (.iadd, 1) := by decide +kernel
theorem dX5_panel_249 : decode cX5_panel 249 = .ok (.iaload, 1) := by decide +kernel
theorem dX5_panel_250 : decode cX5_panel 250 = .ok (.goto 13, 3) := by decide +kernel
theorem dX5_panel_253 : decode cX5_panel 253 = .ok (.aload_n 0, 1) := by decide +kernel
theorem dX5_panel_254 : decode cX5_panel 254 = .ok (.getfield 24, 3) := by decide +kernel
theorem dX5_panel_257 : decode cX5_panel 257 = .ok (.iload 7, 2) := by decide +kernel
theorem dX5_panel_259 : decode cX5_panel 259 = .ok (.iaload, 1) := by decide +kernel
theorem dX5_panel_260 : decode cX5_panel 260 = .ok (.iload 5, 2) := by decide +kernel
theorem dX5_panel_262 : decode cX5_panel 262 = .ok (.isub, 1) := by decide +kernel
theorem dX5_panel_263 : decode cX5_panel 263 = .ok (.iastore, 1) := by decide +kernel
theorem dX5_panel_264 : decode cX5_panel 264 = .ok (.aload_n 0, 1) := by decide +kernel
theorem dX5_panel_265 : decode cX5_panel 265 = .ok (.getfield 24, 3) := by decide +kernel
theorem dX5_panel_268 : decode cX5_panel 268 = .ok (.iconst 4, 1) := by decide +kernel
theorem dX5_panel_269 : decode cX5_panel 269 = .ok (.iload 10, 2) := by decide +kernel
theorem dX5_panel_271 : decode cX5_panel 271 = .ok (.imul, 1) := by decide +kernel
theorem dX5_panel_272 : decode cX5_panel 272 = .ok (.iconst 1, 1) := by decide +kernel
theorem dX5_panel_273 : decode cX5_panel 273 = .ok (.iadd, 1) := by decide +kernel
theorem dX5_panel_274 : decode cX5_panel 274 = .ok (.aload_n 0, 1) := by decide +kernel
theorem dX5_panel_275 : decode cX5_panel 275 = .ok (.getfield 24, 3) := by decide +kernel
theorem dX5_panel_278 : decode cX5_panel 278 = .ok (.iload 7, 2) := by decide +kernel
theorem dX5_panel_280 : decode cX5_panel 280 = .ok (.iconst 1, 1) := by decide +kernel
theorem dX5_panel_281 : decode cX5_panel 281 = .ok (.iadd, 1) := by decide +kernel
theorem dX5_panel_282 : decode cX5_panel 282 = .ok (.iaload, 1) := by decide +kernel
theorem dX5_panel_283 : decode cX5_panel 283 = .ok (.iload_n 3, 1) := by decide +kernel
theorem dX5_panel_284 : decode cX5_panel 284 = .ok (.iadd, 1) := by decide +kernel
theorem dX5_panel_285 : decode cX5_panel 285 = .ok (.iastore, 1) := by decide +kernel
theorem dX5_panel_286 : decode cX5_panel 286 = .ok (.aload_n 0, 1) := by decide +kernel
theorem dX5_panel_287 : decode cX5_panel 287 = .ok (.getfield 24, 3) := by decide +kernel
theorem dX5_panel_290 : decode cX5_panel 290 = .ok (.iconst 4, 1) := by decide +kernel
theorem dX5_panel_291 : decode cX5_panel 291 = .ok (.iload 10, 2) := by decide +kernel
theorem dX5_panel_293 : decode cX5_panel 293 = .ok (.imul, 1) := by decide +kernel
theorem dX5_panel_294 : decode cX5_panel 294 = .ok (.iconst 2, 1) := by decide +kernel
theorem dX5_panel_295 : decode cX5_panel 295 = .ok (.iadd, 1) := by decide +kernel
theorem dX5_panel_296 : decode cX5_panel 296 = .ok (.aload_n 0, 1) := by decide +kernel
theorem dX5_panel_297 : decode cX5_panel 297 = .ok (.getfield 24, 3) := by decide +kernel
theorem dX5_panel_300 : decode cX5_panel 300 = .ok (.iconst 4, 1) := by decide +kernel
theorem dX5_panel_301 : decode cX5_panel 301 = .ok (.iload 10, 2) := by decide +kernel
theorem dX5_panel_303 : decode cX5_panel 303 = .ok (.imul, 1) := by decide +kernel
theorem dX5_panel_304 : decode cX5_panel 304 = .ok (.iaload, 1) := by decide +kernel
theorem dX5_panel_305 : decode cX5_panel 305 = .ok (.iload 5, 2) := by decide +kernel
theorem dX5_panel_307 : decode cX5_panel 307 = .ok (.iadd, 1) := by decide +kernel
theorem dX5_panel_308 : decode cX5_panel 308 = .ok (.iastore, 1) := by decide +kernel
theorem dX5_panel_309 : decode cX5_panel 309 = .ok (.aload_n 0, 1) := by decide +kernel
theorem dX5_panel_310 : decode cX5_panel 310 = .ok (.getfield 24, 3) := by decide +kernel
theorem dX5_panel_313 : decode cX5_panel 313 = .ok (.iconst 4, 1) := by decide +kernel
theorem dX5_panel_314 : decode cX5_panel 314 = .ok (.iload 10, 2) := by decide +kernel
theorem dX5_panel_316 : decode cX5_panel 316 = .ok (.imul, 1) := by decide +kernel
theorem dX5_panel_317 : decode cX5_panel 317 = .ok (.iconst 3, 1) := by decide +kernel
theorem dX5_panel_318 : decode cX5_panel 318 = .ok (.iadd, 1) := by decide +kernel
theorem dX5_panel_319 : decode cX5_panel 319 = .ok (.aload_n 0, 1) := by decide +kernel
theorem dX5_panel_320 : decode cX5_panel 320 = .ok (.getfield 24, 3) := by decide +kernel
theorem dX5_panel_323 : decode cX5_panel 323 = .ok (.iconst 4, 1) := by decide +kernel
theorem dX5_panel_324 : decode cX5_panel 324 = .ok (.iload 10, 2) := by decide +kernel
theorem dX5_panel_326 : decode cX5_panel 326 = .ok (.imul, 1) := by decide +kernel
theorem dX5_panel_327 : decode cX5_panel 327 = .ok (.iconst 1, 1) := by decide +kernel
theorem dX5_panel_328 : decode cX5_panel 328 = .ok (.iadd, 1) := by decide +kernel
theorem dX5_panel_329 : decode cX5_panel 329 = .ok (.iaload, 1) := by decide +kernel
theorem dX5_panel_330 : decode cX5_panel 330 = .ok (.iload 4, 2) := by decide +kernel
theorem dX5_panel_332 : decode cX5_panel 332 = .ok (.iadd, 1) := by decide +kernel
theorem dX5_panel_333 : decode cX5_panel 333 = .ok (.iastore, 1) := by decide +kernel
theorem dX5_panel_334 : decode cX5_panel 334 = .ok (.goto 109, 3) := by decide +kernel
theorem dX5_panel_337 : decode cX5_panel 337 = .ok (.aload_n 0, 1) := by decide +kernel
theorem dX5_panel_338 : decode cX5_panel 338 = .ok (.getfield 24, 3) := by decide +kernel
theorem dX5_panel_341 : decode cX5_panel 341 = .ok (.iconst 4, 1) := by decide +kernel
theorem dX5_panel_342 : decode cX5_panel 342 = .ok (.iload 10, 2) := by decide +kernel
theorem dX5_panel_344 : decode cX5_panel 344 = .ok (.imul, 1) := by decide +kernel
theorem dX5_panel_345 : decode cX5_panel 345 = .ok (.aload_n 0, 1) := by decide +kernel
theorem dX5_panel_346 : decode cX5_panel 346 = .ok (.getfield 24, 3) := by decide +kernel
theorem dX5_panel_349 : decode cX5_panel 349 = .ok (.iload 7, 2) := by decide +kernel
theorem dX5_panel_351 : decode cX5_panel 351 = .ok (.iaload, 1) := by decide +kernel
theorem dX5_panel_352 : decode cX5_panel 352 = .ok (.iload_n 3, 1) := by decide +kernel
theorem dX5_panel_353 : decode cX5_panel 353 = .ok (.iadd, 1) := by decide +kernel
theorem dX5_panel_354 : decode cX5_panel 354 = .ok (.iastore, 1) := by decide +kernel
theorem dX5_panel_355 : decode cX5_panel 355 = .ok (.aload_n 0, 1) := by decide +kernel
theorem dX5_panel_356 : decode cX5_panel 356 = .ok (.getfield 24, 3) := by decide +kernel
theorem dX5_panel_359 : decode cX5_panel 359 = .ok (.iconst 4, 1) := by decide +kernel
theorem dX5_panel_360 : decode cX5_panel 360 = .ok (.iload 10, 2) := by decide +kernel
theorem dX5_panel_362 : decode cX5_panel 362 = .ok (.imul, 1) := by decide +kernel
theorem dX5_panel_363 : decode cX5_panel 363 = .ok (.iconst 1, 1) := by decide +kernel
theorem dX5_panel_364 : decode cX5_panel 364 = .ok (.iadd, 1) := by decide +kernel
theorem dX5_panel_365 : decode cX5_panel 365 = .ok (.iload_n 2, 1) := by decide +kernel
theorem dX5_panel_366 : decode cX5_panel 366 = .ok (.iconst 1, 1) := by decide +kernel
theorem dX5_panel_367 : decode cX5_panel 367 = .ok (.if_icmp .ne 15, 3) := by decide +kernel
theorem dX5_panel_370 : decode cX5_panel 370 = .ok (.aload_n 0, 1) := by decide +kernel
theorem dX5_panel_371 : decode cX5_panel 371 = .ok (.getfield 24, 3) := by decide +kernel
theorem dX5_panel_374 : decode cX5_panel 374 = .ok (.iload 7, 2) := by decide +kernel
theorem dX5_panel_376 : decode cX5_panel 376 = .ok (.iconst 3, 1) := by decide +kernel
theorem dX5_panel_377 : decode cX5_panel 377 = .ok (.iadd, 1) := by decide +kernel
theorem dX5_panel_378 : decode cX5_panel 378 = .ok (.iaload, 1) := by decide +kernel
theorem dX5_panel_379 : decode cX5_panel 379 = .ok (.goto 15, 3) := by decide +kernel
theorem dX5_panel_382 : decode cX5_panel 382 = .ok (.aload_n 0, 1) := by decide +kernel
theorem dX5_panel_383 : decode cX5_panel 383 = .ok (.getfield 24, 3) := by decide +kernel
theorem dX5_panel_386 : decode cX5_panel 386 = .ok (.iload 7, 2) := by decide +kernel
theorem dX5_panel_388 : decode cX5_panel 388 = .ok (.iconst 1, 1) := by decide +kernel
theorem dX5_panel_389 : decode cX5_panel 389 = .ok (.iadd, 1) := by decide +kernel
theorem dX5_panel_390 : decode cX5_panel 390 = .ok (.iaload, 1) := by decide +kernel
theorem dX5_panel_391 : decode cX5_panel 391 = .ok (.iload 5, 2) := by decide +kernel
theorem dX5_panel_393 : decode cX5_panel 393 = .ok (.isub, 1) := by decide +kernel
theorem dX5_panel_394 : decode cX5_panel 394 = .ok (.iastore, 1) := by decide +kernel
theorem dX5_panel_395 : decode cX5_panel 395 = .ok (.aload_n 0, 1) := by decide +kernel
theorem dX5_panel_396 : decode cX5_panel 396 = .ok (.getfield 24, 3) := by decide +kernel
theorem dX5_panel_399 : decode cX5_panel 399 = .ok (.iconst 4, 1) := by decide +kernel
theorem dX5_panel_400 : decode cX5_panel 400 = .ok (.iload 10, 2) := by decide +kernel
theorem dX5_panel_402 : decode cX5_panel 402 = .ok (.imul, 1) := by decide +kernel
theorem dX5_panel_403 : decode cX5_panel 403 = .ok (.iconst 2, 1) := by decide +kernel
theorem dX5_panel_404 : decode cX5_panel 404 = .ok (.iadd, 1) := by decide +kernel
theorem dX5_panel_405 : decode cX5_panel 405 = .ok (.aload_n 0, 1) := by decide +kernel
theorem dX5_panel_406 : decode cX5_panel 406 = .ok (.getfield 24, 3) := by decide +kernel
theorem dX5_panel_409 : decode cX5_panel 409 = .ok (.iconst 4, 1) := by decide +kernel
theorem dX5_panel_410 : decode cX5_panel 410 = .ok (.iload 10, 2) := by decide +kernel
theorem dX5_panel_412 : decode cX5_panel 412 = .ok (.imul, 1) := by decide +kernel
theorem dX5_panel_413 : decode cX5_panel 413 = .ok (.iaload, 1) := by decide +kernel
theorem dX5_panel_414 : decode cX5_panel 414 = .ok (.iload 4, 2) := by decide +kernel
theorem dX5_panel_416 : decode cX5_panel 416 = .ok (.iadd, 1) := by decide +kernel
theorem dX5_panel_417 : decode cX5_panel 417 = .ok (.iastore, 1) := by decide +kernel
theorem dX5_panel_418 : decode cX5_panel 418 = .ok (.aload_n 0, 1) := by decide +kernel
theorem dX5_panel_419 : decode cX5_panel 419 = .ok (.getfield 24, 3) := by decide +kernel
theorem dX5_panel_422 : decode cX5_panel 422 = .ok (.iconst 4, 1) := by decide +kernel
theorem dX5_panel_423 : decode cX5_panel 423 = .ok (.iload 10, 2) := by decide +kernel
theorem dX5_panel_425 : decode cX5_panel 425 = .ok (.imul, 1) := by decide +kernel
theorem dX5_panel_426 : decode cX5_panel 426 = .ok (.iconst 3, 1) := by decide +kernel
theorem dX5_panel_427 : decode cX5_panel 427 = .ok (.iadd, 1) := by decide +kernel
theorem dX5_panel_428 : decode cX5_panel 428 = .ok (.aload_n 0, 1) := by decide +kernel
theorem dX5_panel_429 : decode cX5_panel 429 = .ok (.getfield 24, 3) := by decide +kernel
theorem dX5_panel_432 : decode cX5_panel 432 = .ok (.iconst 4, 1) := by decide +kernel
theorem dX5_panel_433 : decode cX5_panel 433 = .ok (.iload 10, 2) := by decide +kernel
theorem dX5_panel_435 : decode cX5_panel 435 = .ok (.imul, 1) := by decide +kernel
theorem dX5_panel_436 : decode cX5_panel 436 = .ok (.iconst 1, 1) := by decide +kernel
theorem dX5_panel_437 : decode cX5_panel 437 = .ok (.iadd, 1) := by decide +kernel
theorem dX5_panel_438 : decode cX5_panel 438 = .ok (.iaload, 1) := by decide +kernel
theorem dX5_panel_439 : decode cX5_panel 439 = .ok (.iload 5, 2) := by decide +kernel
theorem dX5_panel_441 : decode cX5_panel 441 = .ok (.iadd, 1) := by decide +kernel
theorem dX5_panel_442 : decode cX5_panel 442 = .ok (.iastore, 1) := by decide +kernel
theorem dX5_panel_443 : decode cX5_panel 443 = .ok (.aload_n 0, 1) := by decide +kernel
theorem dX5_panel_444 : decode cX5_panel 444 = .ok (.dup, 1) := by decide +kernel
theorem dX5_panel_445 : decode cX5_panel 445 = .ok (.getfield 73, 3) := by decide +kernel
theorem dX5_panel_448 : decode cX5_panel 448 = .ok (.iconst 1, 1) := by decide +kernel
theorem dX5_panel_449 : decode cX5_panel 449 = .ok (.iadd, 1) := by decide +kernel
theorem dX5_panel_450 : decode cX5_panel 450 = .ok (.putfield 73, 3) := by decide +kernel
theorem dX5_panel_453 : decode cX5_panel 453 = .ok (.aload_n 0, 1) := by decide +kernel
theorem dX5_panel_454 : decode cX5_panel 454 = .ok (.iconst 0, 1) := by decide +kernel
theorem dX5_panel_455 : decode cX5_panel 455 = .ok (.putfield 76, 3) := by decide +kernel
theorem dX5_panel_458 : decode cX5_panel 458 = .ok (.iload 10, 2) := by decide +kernel
theorem dX5_panel_460 : decode cX5_panel 460 = .ok (.ireturn, 1) := by decide +kernel
theorem dX5_deduction_0 : decode cX5_deduction 0 = .ok (.aload_n 0, 1) := by decide +kernel
theorem dX5_deduction_1 : decode cX5_deduction 1 = .ok (.iconst 0, 1) := by decide +kernel
theorem dX5_deduction_2 : decode cX5_deduction 2 = .ok (.putfield 64, 3) := by decide +kernel
theorem dX5_deduction_5 : decode cX5_deduction 5 = .ok (.iload_n 1, 1) := by decide +kernel
theorem dX5_deduction_6 : decode cX5_deduction 6 = .ok (.i2l, 1) := by decide +kernel
theorem dX5_deduction_7 : decode cX5_deduction 7 = .ok (.lconst 0, 1) := by decide +kernel
theorem dX5_deduction_8 : decode cX5_deduction 8 = .ok (.ldc2_w 82, 3) := by decide +kernel
theorem dX5_deduction_11 : decode cX5_deduction 11 = .ok (.invokestatic 69, 3) := by decide +kernel
theorem dX5_deduction_14 : decode cX5_deduction 14 = .ok (.ifCond .eq 9, 3) := by decide +kernel
theorem dX5_deduction_17 : decode cX5_deduction 17 = .ok (.iload_n 1, 1) := by decide +kernel
theorem dX5_deduction_18 : decode cX5_deduction 18 = .ok (.iconst 2, 1) := by decide +kernel
theorem dX5_deduction_19 : decode cX5_deduction 19 = .ok (.irem, 1) := by decide +kernel
theorem dX5_deduction_20 : decode cX5_deduction 20 = .ok (.ifCond .eq 5, 3) := by decide +kernel
theorem dX5_deduction_23 : decode cX5_deduction 23 = .ok (.iconst 0, 1) := by decide +kernel
theorem dX5_deduction_24 : decode cX5_deduction 24 = .ok (.ireturn, 1) := by decide +kernel
theorem dX5_deduction_25 : decode cX5_deduction 25 = .ok (.aload_n 0, 1) := by decide +kernel
theorem dX5_deduction_26 : decode cX5_deduction 26 = .ok (.iload_n 1, 1) := by decide +kernel
theorem dX5_deduction_27 : decode cX5_deduction 27 = .ok (.putfield 84, 3) := by decide +kernel
theorem dX5_deduction_30 : decode cX5_deduction 30 = .ok (.iconst 1, 1) := by decide +kernel
theorem dX5_deduction_31 : decode cX5_deduction 31 = .ok (.ireturn, 1) := by decide +kernel
theorem dX5_gauge_0 : decode cX5_gauge 0 = .ok (.aload_n 0, 1) := by decide +kernel
theorem dX5_gauge_1 : decode cX5_gauge 1 = .ok (.iconst 0, 1) := by decide +kernel
theorem dX5_gauge_2 : decode cX5_gauge 2 = .ok (.putfield 64, 3) := by decide +kernel
theorem dX5_gauge_5 : decode cX5_gauge 5 = .ok (.iload_n 1, 1) := by decide +kernel
theorem dX5_gauge_6 : decode cX5_gauge 6 = .ok (.i2l, 1) := by decide +kernel
theorem dX5_gauge_7 : decode cX5_gauge 7 = .ok (.lconst 1, 1) := by decide +kernel
theorem dX5_gauge_8 : decode cX5_gauge 8 = .ok (.ldc2_w 87, 3) := by decide +kernel
theorem dX5_gauge_11 : decode cX5_gauge 11 = .ok (.invokestatic 69, 3) := by decide +kernel
theorem dX5_gauge_14 : decode cX5_gauge 14 = .ok (.ifCond .ne 5, 3) := by decide +kernel
theorem dX5_gauge_17 : decode cX5_gauge 17 = .ok (.iconst 0, 1) := by decide +kernel
theorem dX5_gauge_18 : decode cX5_gauge 18 = .ok (.ireturn, 1) := by decide +kernel
theorem dX5_gauge_19 : decode cX5_gauge 19 = .ok (.aload_n 0, 1) := by decide +kernel
theorem dX5_gauge_20 : decode cX5_gauge 20 = .ok (.iload_n 1, 1) := by decide +kernel
theorem dX5_gauge_21 : decode cX5_gauge 21 = .ok (.putfield 7, 3) := by decide +kernel
theorem dX5_gauge_24 : decode cX5_gauge 24 = .ok (.aload_n 0, 1) := by decide +kernel
theorem dX5_gauge_25 : decode cX5_gauge 25 = .ok (.iconst 0, 1) := by decide +kernel
theorem dX5_gauge_26 : decode cX5_gauge 26 = .ok (.putfield 76, 3) := by decide +kernel
theorem dX5_gauge_29 : decode cX5_gauge 29 = .ok (.iconst 1, 1) := by decide +kernel
theorem dX5_gauge_30 : decode cX5_gauge 30 = .ok (.ireturn, 1) := by decide +kernel
theorem dX5_over_0 : decode cX5_over 0 = .ok (.aload_n 0, 1) := by decide +kernel
theorem dX5_over_1 : decode cX5_over 1 = .ok (.iconst 0, 1) := by decide +kernel
theorem dX5_over_2 : decode cX5_over 2 = .ok (.putfield 64, 3) := by decide +kernel
theorem dX5_over_5 : decode cX5_over 5 = .ok (.aload_n 0, 1) := by decide +kernel
theorem dX5_over_6 : decode cX5_over 6 = .ok (.getfield 73, 3) := by decide +kernel
theorem dX5_over_9 : decode cX5_over 9 = .ok (.ifCond .ne 5, 3) := by decide +kernel
theorem dX5_over_12 : decode cX5_over 12 = .ok (.iconst 0, 1) := by decide +kernel
theorem dX5_over_13 : decode cX5_over 13 = .ok (.ireturn, 1) := by decide +kernel
theorem dX5_over_14 : decode cX5_over 14 = .ok (.aload_n 0, 1) := by decide +kernel
theorem dX5_over_15 : decode cX5_over 15 = .ok (.getfield 24, 3) := by decide +kernel
theorem dX5_over_18 : decode cX5_over 18 = .ok (.iconst 2, 1) := by decide +kernel
theorem dX5_over_19 : decode cX5_over 19 = .ok (.iaload, 1) := by decide +kernel
theorem dX5_over_20 : decode cX5_over 20 = .ok (.istore_n 1, 1) := by decide +kernel
theorem dX5_over_21 : decode cX5_over 21 = .ok (.iconst 0, 1) := by decide +kernel
theorem dX5_over_22 : decode cX5_over 22 = .ok (.istore_n 2, 1) := by decide +kernel
theorem dX5_over_23 : decode cX5_over 23 = .ok (.iload_n 2, 1) := by decide +kernel
theorem dX5_over_24 : decode cX5_over 24 = .ok (.aload_n 0, 1) := by decide +kernel
theorem dX5_over_25 : decode cX5_over 25 = .ok (.getfield 73, 3) := by decide +kernel
theorem dX5_over_28 : decode cX5_over 28 = .ok (.if_icmp .ge 109, 3) := by decide +kernel
theorem dX5_over_31 : decode cX5_over 31 = .ok (.aload_n 0, 1) := by decide +kernel
theorem dX5_over_32 : decode cX5_over 32 = .ok (.getfield 24, 3) := by decide +kernel
theorem dX5_over_35 : decode cX5_over 35 = .ok (.iconst 4, 1) := by decide +kernel
theorem dX5_over_36 : decode cX5_over 36 = .ok (.iload_n 2, 1) := by decide +kernel
theorem dX5_over_37 : decode cX5_over 37 = .ok (.imul, 1) := by decide +kernel
theorem dX5_over_38 : decode cX5_over 38 = .ok (.iaload, 1) := by decide +kernel
