theorem dX7_findExtremes_4 : decode cX7_findExtremes 4 = .ok (.putfield 137, 3) := by decide +kernel
theorem dX7_findExtremes_7 : decode cX7_findExtremes 7 = .ok (.aload_n 0, 1) := by decide +kernel
theorem dX7_findExtremes_8 : decode cX7_findExtremes 8 = .ok (.iconst 0, 1) := by decide +kernel
theorem dX7_findExtremes_9 : decode cX7_findExtremes 9 = .ok (.putfield 134, 3) := by decide +kernel
theorem dX7_findExtremes_12 : decode cX7_findExtremes 12 = .ok (.iconst 0, 1) := by decide +kernel
theorem dX7_findExtremes_13 : decode cX7_findExtremes 13 = .ok (.istore_n 2, 1) := by decide +kernel
theorem dX7_findExtremes_14 : decode cX7_findExtremes 14 = .ok (.iload_n 2, 1) := by decide +kernel
theorem dX7_findExtremes_15 : decode cX7_findExtremes 15 = .ok (.aload_n 1, 1) := by decide +kernel
theorem dX7_findExtremes_16 : decode cX7_findExtremes 16 = .ok (.getfield 59, 3) := by decide +kernel
theorem dX7_findExtremes_19 : decode cX7_findExtremes 19 = .ok (.if_icmp .ge 59, 3) := by decide +kernel
theorem dX7_findExtremes_22 : decode cX7_findExtremes 22 = .ok (.iconst 0, 1) := by decide +kernel
theorem dX7_findExtremes_23 : decode cX7_findExtremes 23 = .ok (.istore_n 3, 1) := by decide +kernel
theorem dX7_findExtremes_24 : decode cX7_findExtremes 24 = .ok (.iload_n 3, 1) := by decide +kernel
theorem dX7_findExtremes_25 : decode cX7_findExtremes 25 = .ok (.aload_n 1, 1) := by decide +kernel
theorem dX7_findExtremes_26 : decode cX7_findExtremes 26 = .ok (.getfield 62, 3) := by decide +kernel
theorem dX7_findExtremes_29 : decode cX7_findExtremes 29 = .ok (.if_icmp .ge 43, 3) := by decide +kernel
theorem dX7_findExtremes_32 : decode cX7_findExtremes 32 = .ok (.aload_n 1, 1) := by decide +kernel
theorem dX7_findExtremes_33 : decode cX7_findExtremes 33 = .ok (.iload_n 3, 1) := by decide +kernel
theorem dX7_findExtremes_34 : decode cX7_findExtremes 34 = .ok (.iload_n 2, 1) := by decide +kernel
theorem dX7_findExtremes_35 : decode cX7_findExtremes 35 = .ok (.invokevirtual 65, 3) := by decide +kernel
theorem dX7_findExtremes_38 : decode cX7_findExtremes 38 = .ok (.istore 4, 2) := by decide +kernel
theorem dX7_findExtremes_40 : decode cX7_findExtremes 40 = .ok (.aload_n 0, 1) := by decide +kernel
theorem dX7_findExtremes_41 : decode cX7_findExtremes 41 = .ok (.aload_n 0, 1) := by decide +kernel
theorem dX7_findExtremes_42 : decode cX7_findExtremes 42 = .ok (.getfield 137, 3) := by decide +kernel
theorem dX7_findExtremes_45 : decode cX7_findExtremes 45 = .ok (.iload 4, 2) := by decide +kernel
theorem dX7_findExtremes_47 : decode cX7_findExtremes 47 = .ok (.invokestatic 140, 3) := by decide +kernel
theorem dX7_findExtremes_50 : decode cX7_findExtremes 50 = .ok (.putfield 137, 3) := by decide +kernel
theorem dX7_findExtremes_53 : decode cX7_findExtremes 53 = .ok (.aload_n 0, 1) := by decide +kernel
theorem dX7_findExtremes_54 : decode cX7_findExtremes 54 = .ok (.aload_n 0, 1) := by decide +kernel
theorem dX7_findExtremes_55 : decode cX7_findExtremes 55 = .ok (.getfield 134, 3) := by decide +kernel
theorem dX7_findExtremes_58 : decode cX7_findExtremes 58 = .ok (.iload 4, 2) := by decide +kernel
theorem dX7_findExtremes_60 : decode cX7_findExtremes 60 = .ok (.invokestatic 145, 3) := by decide +kernel
theorem dX7_findExtremes_63 : decode cX7_findExtremes 63 = .ok (.putfield 134, 3) := by decide +kernel
theorem dX7_findExtremes_66 : decode cX7_findExtremes 66 = .ok (.iinc 3 1, 3) := by decide +kernel
theorem dX7_findExtremes_69 : decode cX7_findExtremes 69 = .ok (.goto (-45), 3) := by decide +kernel
theorem dX7_findExtremes_72 : decode cX7_findExtremes 72 = .ok (.iinc 2 1, 3) := by decide +kernel
theorem dX7_findExtremes_75 : decode cX7_findExtremes 75 = .ok (.goto (-61), 3) := by decide +kernel
theorem dX7_findExtremes_78 : decode cX7_findExtremes 78 = .ok (.return_, 1) := by decide +kernel
theorem dX7_gatherNeighbours_0 : decode cX7_gatherNeighbours 0 = .ok (.aload_n 0, 1) := by decide +kernel
theorem dX7_gatherNeighbours_1 : decode cX7_gatherNeighbours 1 = .ok (.iconst 0, 1) := by decide +kernel
theorem dX7_gatherNeighbours_2 : decode cX7_gatherNeighbours 2 = .ok (.putfield 148, 3) := by decide +kernel
theorem dX7_gatherNeighbours_5 : decode cX7_gatherNeighbours 5 = .ok (.iload_n 2, 1) := by decide +kernel
theorem dX7_gatherNeighbours_6 : decode cX7_gatherNeighbours 6 = .ok (.iload 4, 2) := by decide +kernel
theorem dX7_gatherNeighbours_8 : decode cX7_gatherNeighbours 8 = .ok (.iadd, 1) := by decide +kernel
theorem dX7_gatherNeighbours_9 : decode cX7_gatherNeighbours 9 = .ok (.aload_n 1, 1) := by decide +kernel
theorem dX7_gatherNeighbours_10 : decode cX7_gatherNeighbours 10 = .ok (.getfield 62, 3) := by decide +kernel
theorem dX7_gatherNeighbours_13 : decode cX7_gatherNeighbours 13 = .ok (.iconst 1, 1) := by decide +kernel
theorem dX7_gatherNeighbours_14 : decode cX7_gatherNeighbours 14 = .ok (.isub, 1) := by decide +kernel
theorem dX7_gatherNeighbours_15 : decode cX7_gatherNeighbours 15 = .ok (.invokestatic 140, 3) := by decide +kernel
theorem dX7_gatherNeighbours_18 : decode cX7_gatherNeighbours 18 = .ok (.istore 5, 2) := by decide +kernel
theorem dX7_gatherNeighbours_20 : decode cX7_gatherNeighbours 20 = .ok (.iload_n 3, 1) := by decide +kernel
theorem dX7_gatherNeighbours_21 : decode cX7_gatherNeighbours 21 = .ok (.iload 4, 2) := by decide +kernel
theorem dX7_gatherNeighbours_23 : decode cX7_gatherNeighbours 23 = .ok (.iadd, 1) := by decide +kernel
theorem dX7_gatherNeighbours_24 : decode cX7_gatherNeighbours 24 = .ok (.aload_n 1, 1) := by decide +kernel
theorem dX7_gatherNeighbours_25 : decode cX7_gatherNeighbours 25 = .ok (.getfield 59, 3) := by decide +kernel
theorem dX7_gatherNeighbours_28 : decode cX7_gatherNeighbours 28 = .ok (.iconst 1, 1) := by decide +kernel
theorem dX7_gatherNeighbours_29 : decode cX7_gatherNeighbours 29 = .ok (.isub, 1) := by decide +kernel
theorem dX7_gatherNeighbours_30 : decode cX7_gatherNeighbours 30 = .ok (.invokestatic 140, 3) := by decide +kernel
theorem dX7_gatherNeighbours_33 : decode cX7_gatherNeighbours 33 = .ok (.istore 6, 2) := by decide +kernel
theorem dX7_gatherNeighbours_35 : decode cX7_gatherNeighbours 35 = .ok (.iconst 0, 1) := by decide +kernel
theorem dX7_gatherNeighbours_36 : decode cX7_gatherNeighbours 36 = .ok (.iload_n 3, 1) := by decide +kernel
theorem dX7_gatherNeighbours_37 : decode cX7_gatherNeighbours 37 = .ok (.iload 4, 2) := by decide +kernel
theorem dX7_gatherNeighbours_39 : decode cX7_gatherNeighbours 39 = .ok (.isub, 1) := by decide +kernel
theorem dX7_gatherNeighbours_40 : decode cX7_gatherNeighbours 40 = .ok (.invokestatic 145, 3) := by decide +kernel
theorem dX7_gatherNeighbours_43 : decode cX7_gatherNeighbours 43 = .ok (.istore 7, 2) := by decide +kernel
theorem dX7_gatherNeighbours_45 : decode cX7_gatherNeighbours 45 = .ok (.iload 7, 2) := by decide +kernel
theorem dX7_gatherNeighbours_47 : decode cX7_gatherNeighbours 47 = .ok (.iload 6, 2) := by decide +kernel
theorem dX7_gatherNeighbours_49 : decode cX7_gatherNeighbours 49 = .ok (.if_icmp .gt 71, 3) := by decide +kernel
theorem dX7_gatherNeighbours_52 : decode cX7_gatherNeighbours 52 = .ok (.iconst 0, 1) := by decide +kernel
theorem dX7_gatherNeighbours_53 : decode cX7_gatherNeighbours 53 = .ok (.iload_n 2, 1) := by decide +kernel
theorem dX7_gatherNeighbours_54 : decode cX7_gatherNeighbours 54 = .ok (.iload 4, 2) := by decide +kernel
theorem dX7_gatherNeighbours_56 : decode cX7_gatherNeighbours 56 = .ok (.isub, 1) := by decide +kernel
theorem dX7_gatherNeighbours_57 : decode cX7_gatherNeighbours 57 = .ok (.invokestatic 145, 3) := by decide +kernel
theorem dX7_gatherNeighbours_60 : decode cX7_gatherNeighbours 60 = .ok (.istore 8, 2) := by decide +kernel
theorem dX7_gatherNeighbours_62 : decode cX7_gatherNeighbours 62 = .ok (.iload 8, 2) := by decide +kernel
theorem dX7_gatherNeighbours_64 : decode cX7_gatherNeighbours 64 = .ok (.iload 5, 2) := by decide +kernel
theorem dX7_gatherNeighbours_66 : decode cX7_gatherNeighbours 66 = .ok (.if_icmp .gt 48, 3) := by decide +kernel
theorem dX7_gatherNeighbours_69 : decode cX7_gatherNeighbours 69 = .ok (.aload_n 0, 1) := by decide +kernel
theorem dX7_gatherNeighbours_70 : decode cX7_gatherNeighbours 70 = .ok (.getfield 148, 3) := by decide +kernel
theorem dX7_gatherNeighbours_73 : decode cX7_gatherNeighbours 73 = .ok (.aload_n 0, 1) := by decide +kernel
theorem dX7_gatherNeighbours_74 : decode cX7_gatherNeighbours 74 = .ok (.getfield 18, 3) := by decide +kernel
theorem dX7_gatherNeighbours_77 : decode cX7_gatherNeighbours 77 = .ok (.arraylength, 1) := by decide +kernel
theorem dX7_gatherNeighbours_78 : decode cX7_gatherNeighbours 78 = .ok (.if_icmp .ge 30, 3) := by decide +kernel
theorem dX7_gatherNeighbours_81 : decode cX7_gatherNeighbours 81 = .ok (.aload_n 0, 1) := by decide +kernel
theorem dX7_gatherNeighbours_82 : decode cX7_gatherNeighbours 82 = .ok (.getfield 18, 3) := by decide +kernel
theorem dX7_gatherNeighbours_85 : decode cX7_gatherNeighbours 85 = .ok (.aload_n 0, 1) := by decide +kernel
theorem dX7_gatherNeighbours_86 : decode cX7_gatherNeighbours 86 = .ok (.getfield 148, 3) := by decide +kernel
theorem dX7_gatherNeighbours_89 : decode cX7_gatherNeighbours 89 = .ok (.aload_n 1, 1) := by decide +kernel
theorem dX7_gatherNeighbours_90 : decode cX7_gatherNeighbours 90 = .ok (.iload 8, 2) := by decide +kernel
theorem dX7_gatherNeighbours_92 : decode cX7_gatherNeighbours 92 = .ok (.iload 7, 2) := by decide +kernel
theorem dX7_gatherNeighbours_94 : decode cX7_gatherNeighbours 94 = .ok (.invokevirtual 65, 3) := by decide +kernel
theorem dX7_gatherNeighbours_97 : decode cX7_gatherNeighbours 97 = .ok (.iastore, 1) := by decide +kernel
theorem dX7_gatherNeighbours_98 : decode cX7_gatherNeighbours 98 = .ok (.aload_n 0, 1) := by decide +kernel
theorem dX7_gatherNeighbours_99 : decode cX7_gatherNeighbours 99 = .ok (.dup, 1) := by decide +kernel
theorem dX7_gatherNeighbours_100 : decode cX7_gatherNeighbours 100 = .ok (.getfield 148, 3) := by decide +kernel
theorem dX7_gatherNeighbours_103 : decode cX7_gatherNeighbours 103 = .ok (.iconst 1, 1) := by decide +kernel
theorem dX7_gatherNeighbours_104 : decode cX7_gatherNeighbours 104 = .ok (.iadd, 1) := by decide +kernel
theorem dX7_gatherNeighbours_105 : decode cX7_gatherNeighbours 105 = .ok (.putfield 148, 3) := by decide +kernel
theorem dX7_gatherNeighbours_108 : decode cX7_gatherNeighbours 108 = .ok (.iinc 8 1, 3) := by decide +kernel
theorem dX7_gatherNeighbours_111 : decode cX7_gatherNeighbours 111 = .ok (.goto (-49), 3) := by decide +kernel
theorem dX7_gatherNeighbours_114 : decode cX7_gatherNeighbours 114 = .ok (.iinc 7 1, 3) := by decide +kernel
theorem dX7_gatherNeighbours_117 : decode cX7_gatherNeighbours 117 = .ok (.goto (-72), 3) := by decide +kernel
theorem dX7_gatherNeighbours_120 : decode cX7_gatherNeighbours 120 = .ok (.return_, 1) := by decide +kernel
theorem dX7_average_0 : decode cX7_average 0 = .ok (.iconst 0, 1) := by decide +kernel
theorem dX7_average_1 : decode cX7_average 1 = .ok (.istore_n 1, 1) := by decide +kernel
theorem dX7_average_2 : decode cX7_average 2 = .ok (.iconst 0, 1) := by decide +kernel
theorem dX7_average_3 : decode cX7_average 3 = .ok (.istore_n 2, 1) := by decide +kernel
theorem dX7_average_4 : decode cX7_average 4 = .ok (.iload_n 2, 1) := by decide +kernel
theorem dX7_average_5 : decode cX7_average 5 = .ok (.aload_n 0, 1) := by decide +kernel
theorem dX7_average_6 : decode cX7_average 6 = .ok (.getfield 148, 3) := by decide +kernel
theorem dX7_average_9 : decode cX7_average 9 = .ok (.if_icmp .ge 27, 3) := by decide +kernel
theorem dX7_average_12 : decode cX7_average 12 = .ok (.iload_n 2, 1) := by decide +kernel
theorem dX7_average_13 : decode cX7_average 13 = .ok (.aload_n 0, 1) := by decide +kernel
theorem dX7_average_14 : decode cX7_average 14 = .ok (.getfield 18, 3) := by decide +kernel
theorem dX7_average_17 : decode cX7_average 17 = .ok (.arraylength, 1) := by decide +kernel
theorem dX7_average_18 : decode cX7_average 18 = .ok (.if_icmp .ge 18, 3) := by decide +kernel
theorem dX7_average_21 : decode cX7_average 21 = .ok (.iload_n 1, 1) := by decide +kernel
theorem dX7_average_22 : decode cX7_average 22 = .ok (.aload_n 0, 1) := by decide +kernel
theorem dX7_average_23 : decode cX7_average 23 = .ok (.getfield 18, 3) := by decide +kernel
theorem dX7_average_26 : decode cX7_average 26 = .ok (.iload_n 2, 1) := by decide +kernel
theorem dX7_average_27 : decode cX7_average 27 = .ok (.iaload, 1) := by decide +kernel
theorem dX7_average_28 : decode cX7_average 28 = .ok (.iadd, 1) := by decide +kernel
theorem dX7_average_29 : decode cX7_average 29 = .ok (.istore_n 1, 1) := by decide +kernel
theorem dX7_average_30 : decode cX7_average 30 = .ok (.iinc 2 1, 3) := by decide +kernel
theorem dX7_average_33 : decode cX7_average 33 = .ok (.goto (-29), 3) := by decide +kernel
theorem dX7_average_36 : decode cX7_average 36 = .ok (.aload_n 0, 1) := by decide +kernel
theorem dX7_average_37 : decode cX7_average 37 = .ok (.getfield 148, 3) := by decide +kernel
theorem dX7_average_40 : decode cX7_average 40 = .ok (.ifCond .le 12, 3) := by decide +kernel
theorem dX7_average_43 : decode cX7_average 43 = .ok (.iload_n 1, 1) := by decide +kernel
theorem dX7_average_44 : decode cX7_average 44 = .ok (.aload_n 0, 1) := by decide +kernel
theorem dX7_average_45 : decode cX7_average 45 = .ok (.getfield 148, 3) := by decide +kernel
theorem dX7_average_48 : decode cX7_average 48 = .ok (.idiv, 1) := by decide +kernel
theorem dX7_average_49 : decode cX7_average 49 = .ok (.goto 4, 3) := by decide +kernel
theorem dX7_average_52 : decode cX7_average 52 = .ok (.iconst 0, 1) := by decide +kernel
theorem dX7_average_53 : decode cX7_average 53 = .ok (.ireturn, 1) := by decide +kernel
theorem dX7_median_0 : decode cX7_median 0 = .ok (.aload_n 0, 1) := by decide +kernel
theorem dX7_median_1 : decode cX7_median 1 = .ok (.invokevirtual 151, 3) := by decide +kernel
theorem dX7_median_4 : decode cX7_median 4 = .ok (.aload_n 0, 1) := by decide +kernel
theorem dX7_median_5 : decode cX7_median 5 = .ok (.getfield 148, 3) := by decide +kernel
theorem dX7_median_8 : decode cX7_median 8 = .ok (.iconst 1, 1) := by decide +kernel
theorem dX7_median_9 : decode cX7_median 9 = .ok (.isub, 1) := by decide +kernel
theorem dX7_median_10 : decode cX7_median 10 = .ok (.iconst 2, 1) := by decide +kernel
theorem dX7_median_11 : decode cX7_median 11 = .ok (.idiv, 1) := by decide +kernel
theorem dX7_median_12 : decode cX7_median 12 = .ok (.istore_n 1, 1) := by decide +kernel
theorem dX7_median_13 : decode cX7_median 13 = .ok (.iload_n 1, 1) := by decide +kernel
theorem dX7_median_14 : decode cX7_median 14 = .ok (.ifCond .lt 21, 3) := by decide +kernel
theorem dX7_median_17 : decode cX7_median 17 = .ok (.iload_n 1, 1) := by decide +kernel
theorem dX7_median_18 : decode cX7_median 18 = .ok (.aload_n 0, 1) := by decide +kernel
theorem dX7_median_19 : decode cX7_median 19 = .ok (.getfield 18, 3) := by decide +kernel
theorem dX7_median_22 : decode cX7_median 22 = .ok (.arraylength, 1) := by decide +kernel
theorem dX7_median_23 : decode cX7_median 23 = .ok (.if_icmp .ge 12, 3) := by decide +kernel
theorem dX7_median_26 : decode cX7_median 26 = .ok (.aload_n 0, 1) := by decide +kernel
theorem dX7_median_27 : decode cX7_median 27 = .ok (.getfield 18, 3) := by decide +kernel
theorem dX7_median_30 : decode cX7_median 30 = .ok (.iload_n 1, 1) := by decide +kernel
theorem dX7_median_31 : decode cX7_median 31 = .ok (.iaload, 1) := by decide +kernel
theorem dX7_median_32 : decode cX7_median 32 = .ok (.goto 4, 3) := by decide +kernel
theorem dX7_median_35 : decode cX7_median 35 = .ok (.iconst 0, 1) := by decide +kernel
theorem dX7_median_36 : decode cX7_median 36 = .ok (.ireturn, 1) := by decide +kernel
theorem dX7_sortNeighbours_0 : decode cX7_sortNeighbours 0 = .ok (.iconst 1, 1) := by decide +kernel
theorem dX7_sortNeighbours_1 : decode cX7_sortNeighbours 1 = .ok (.istore_n 1, 1) := by decide +kernel
theorem dX7_sortNeighbours_2 : decode cX7_sortNeighbours 2 = .ok (.iload_n 1, 1) := by decide +kernel
theorem dX7_sortNeighbours_3 : decode cX7_sortNeighbours 3 = .ok (.aload_n 0, 1) := by decide +kernel
theorem dX7_sortNeighbours_4 : decode cX7_sortNeighbours 4 = .ok (.getfield 148, 3) := by decide +kernel
theorem dX7_sortNeighbours_7 : decode cX7_sortNeighbours 7 = .ok (.if_icmp .ge 70, 3) := by decide +kernel
theorem dX7_sortNeighbours_10 : decode cX7_sortNeighbours 10 = .ok (.iload_n 1, 1) := by decide +kernel
theorem dX7_sortNeighbours_11 : decode cX7_sortNeighbours 11 = .ok (.aload_n 0, 1) := by decide +kernel
theorem dX7_sortNeighbours_12 : decode cX7_sortNeighbours 12 = .ok (.getfield 18, 3) := by decide +kernel
theorem dX7_sortNeighbours_15 : decode cX7_sortNeighbours 15 = .ok (.arraylength, 1) := by decide +kernel
theorem dX7_sortNeighbours_16 : decode cX7_sortNeighbours 16 = .ok (.if_icmp .ge 61, 3) := by decide +kernel
theorem dX7_sortNeighbours_19 : decode cX7_sortNeighbours 19 = .ok (.aload_n 0, 1) := by decide +kernel
theorem dX7_sortNeighbours_20 : decode cX7_sortNeighbours 20 = .ok (.getfield 18, 3) := by decide +kernel
theorem dX7_sortNeighbours_23 : decode cX7_sortNeighbours 23 = .ok (.iload_n 1, 1) := by decide +kernel
theorem dX7_sortNeighbours_24 : decode cX7_sortNeighbours 24 = .ok (.iaload, 1) := by decide +kernel
theorem dX7_sortNeighbours_25 : decode cX7_sortNeighbours 25 = .ok (.istore_n 2, 1) := by decide +kernel
theorem dX7_sortNeighbours_26 : decode cX7_sortNeighbours 26 = .ok (.iload_n 1, 1) := by decide +kernel
theorem dX7_sortNeighbours_27 : decode cX7_sortNeighbours 27 = .ok (.istore_n 3, 1) := by decide +kernel
theorem dX7_sortNeighbours_28 : decode cX7_sortNeighbours 28 = .ok (.iload_n 3, 1) := by decide +kernel
theorem dX7_sortNeighbours_29 : decode cX7_sortNeighbours 29 = .ok (.ifCond .le 35, 3) := by decide +kernel
theorem dX7_sortNeighbours_32 : decode cX7_sortNeighbours 32 = .ok (.aload_n 0, 1) := by decide +kernel
theorem dX7_sortNeighbours_33 : decode cX7_sortNeighbours 33 = .ok (.getfield 18, 3) := by decide +kernel
theorem dX7_sortNeighbours_36 : decode cX7_sortNeighbours 36 = .ok (.iload_n 3, 1) := by decide +kernel
theorem dX7_sortNeighbours_37 : decode cX7_sortNeighbours 37 = .ok (.iconst 1, 1) := by decide +kernel
theorem dX7_sortNeighbours_38 : decode cX7_sortNeighbours 38 = .ok (.isub, 1) := by decide +kernel
theorem dX7_sortNeighbours_39 : decode cX7_sortNeighbours 39 = .ok (.iaload, 1) := by decide +kernel
theorem dX7_sortNeighbours_40 : decode cX7_sortNeighbours 40 = .ok (.iload_n 2, 1) := by decide +kernel
theorem dX7_sortNeighbours_41 : decode cX7_sortNeighbours 41 = .ok (.if_icmp .le 23, 3) := by decide +kernel
theorem dX7_sortNeighbours_44 : decode cX7_sortNeighbours 44 = .ok (.aload_n 0, 1) := by decide +kernel
theorem dX7_sortNeighbours_45 : decode cX7_sortNeighbours 45 = .ok (.getfield 18, 3) := by decide +kernel
theorem dX7_sortNeighbours_48 : decode cX7_sortNeighbours 48 = .ok (.iload_n 3, 1) := by decide +kernel
theorem dX7_sortNeighbours_49 : decode cX7_sortNeighbours 49 = .ok (.aload_n 0, 1) := by decide +kernel
theorem dX7_sortNeighbours_50 : decode cX7_sortNeighbours 50 = .ok (.getfield 18, 3) := by decide +kernel
theorem dX7_sortNeighbours_53 : decode cX7_sortNeighbours 53 = .ok (.iload_n 3, 1) := by decide +kernel
theorem dX7_sortNeighbours_54 : decode cX7_sortNeighbours 54 = .ok (.iconst 1, 1) := by decide +kernel
theorem dX7_sortNeighbours_55 : decode cX7_sortNeighbours 55 = .ok (.isub, 1) := by decide +kernel
theorem dX7_sortNeighbours_56 : decode cX7_sortNeighbours 56 = .ok (.iaload, 1) := by decide +kernel
theorem dX7_sortNeighbours_57 : decode cX7_sortNeighbours 57 = .ok (.iastore, 1) := by decide +kernel
theorem dX7_sortNeighbours_58 : decode cX7_sortNeighbours 58 = .ok (.iinc 3 (-1), 3) := by decide +kernel
theorem dX7_sortNeighbours_61 : decode cX7_sortNeighbours 61 = .ok (.goto (-33), 3) := by decide +kernel
theorem dX7_sortNeighbours_64 : decode cX7_sortNeighbours 64 = .ok (.aload_n 0, 1) := by decide +kernel
theorem dX7_sortNeighbours_65 : decode cX7_sortNeighbours 65 = .ok (.getfield 18, 3) := by decide +kernel
theorem dX7_sortNeighbours_68 : decode cX7_sortNeighbours 68 = .ok (.iload_n 3, 1) := by decide +kernel
theorem dX7_sortNeighbours_69 : decode cX7_sortNeighbours 69 = .ok (.iload_n 2, 1) := by decide +kernel
theorem dX7_sortNeighbours_70 : decode cX7_sortNeighbours 70 = .ok (.iastore, 1) := by decide +kernel
theorem dX7_sortNeighbours_71 : decode cX7_sortNeighbours 71 = .ok (.iinc 1 1, 3) := by decide +kernel
theorem dX7_sortNeighbours_74 : decode cX7_sortNeighbours 74 = .ok (.goto (-72), 3) := by decide +kernel
theorem dX7_sortNeighbours_77 : decode cX7_sortNeighbours 77 = .ok (.return_, 1) := by decide +kernel
theorem dX7_greatest_0 : decode cX7_greatest 0 = .ok (.iconst 0, 1) := by decide +kernel
theorem dX7_greatest_1 : decode cX7_greatest 1 = .ok (.istore_n 1, 1) := by decide +kernel
theorem dX7_greatest_2 : decode cX7_greatest 2 = .ok (.iconst 0, 1) := by decide +kernel
theorem dX7_greatest_3 : decode cX7_greatest 3 = .ok (.istore_n 2, 1) := by decide +kernel
theorem dX7_greatest_4 : decode cX7_greatest 4 = .ok (.iload_n 2, 1) := by decide +kernel
theorem dX7_greatest_5 : decode cX7_greatest 5 = .ok (.aload_n 0, 1) := by decide +kernel
theorem dX7_greatest_6 : decode cX7_greatest 6 = .ok (.getfield 148, 3) := by decide +kernel
theorem dX7_greatest_9 : decode cX7_greatest 9 = .ok (.if_icmp .ge 29, 3) := by decide +kernel
theorem dX7_greatest_12 : decode cX7_greatest 12 = .ok (.iload_n 2, 1) := by decide +kernel
theorem dX7_greatest_13 : decode cX7_greatest 13 = .ok (.aload_n 0, 1) := by decide +kernel
theorem dX7_greatest_14 : decode cX7_greatest 14 = .ok (.getfield 18, 3) := by decide +kernel
theorem dX7_greatest_17 : decode cX7_greatest 17 = .ok (.arraylength, 1) := by decide +kernel
theorem dX7_greatest_18 : decode cX7_greatest 18 = .ok (.if_icmp .ge 20, 3) := by decide +kernel
theorem dX7_greatest_21 : decode cX7_greatest 21 = .ok (.iload_n 1, 1) := by decide +kernel
theorem dX7_greatest_22 : decode cX7_greatest 22 = .ok (.aload_n 0, 1) := by decide +kernel
theorem dX7_greatest_23 : decode cX7_greatest 23 = .ok (.getfield 18, 3) := by decide +kernel
theorem dX7_greatest_26 : decode cX7_greatest 26 = .ok (.iload_n 2, 1) := by decide +kernel
theorem dX7_greatest_27 : decode cX7_greatest 27 = .ok (.iaload, 1) := by decide +kernel
theorem dX7_greatest_28 : decode cX7_greatest 28 = .ok (.invokestatic 145, 3) := by decide +kernel
theorem dX7_greatest_31 : decode cX7_greatest 31 = .ok (.istore_n 1, 1) := by decide +kernel
theorem dX7_greatest_32 : decode cX7_greatest 32 = .ok (.iinc 2 1, 3) := by decide +kernel
theorem dX7_greatest_35 : decode cX7_greatest 35 = .ok (.goto (-31), 3) := by decide +kernel
theorem dX7_greatest_38 : decode cX7_greatest 38 = .ok (.iload_n 1, 1) := by decide +kernel
theorem dX7_greatest_39 : decode cX7_greatest 39 = .ok (.ireturn, 1) := by decide +kernel
theorem dX7_smallest_0 : decode cX7_smallest 0 = .ok (.sipush 255, 3) := by decide +kernel
theorem dX7_smallest_3 : decode cX7_smallest 3 = .ok (.istore_n 1, 1) := by decide +kernel
theorem dX7_smallest_4 : decode cX7_smallest 4 = .ok (.iconst 0, 1) := by decide +kernel
theorem dX7_smallest_5 : decode cX7_smallest 5 = .ok (.istore_n 2, 1) := by decide +kernel
theorem dX7_smallest_6 : decode cX7_smallest 6 = .ok (.iload_n 2, 1) := by decide +kernel
theorem dX7_smallest_7 : decode cX7_smallest 7 = .ok (.aload_n 0, 1) := by decide +kernel
theorem dX7_smallest_8 : decode cX7_smallest 8 = .ok (.getfield 148, 3) := by decide +kernel
theorem dX7_smallest_11 : decode cX7_smallest 11 = .ok (.if_icmp .ge 29, 3) := by decide +kernel
theorem dX7_smallest_14 : decode cX7_smallest 14 = .ok (.iload_n 2, 1) := by decide +kernel
theorem dX7_smallest_15 : decode cX7_smallest 15 = .ok (.aload_n 0, 1) := by decide +kernel
theorem dX7_smallest_16 : decode cX7_smallest 16 = .ok (.getfield 18, 3) := by decide +kernel
theorem dX7_smallest_19 : decode cX7_smallest 19 = .ok (.arraylength, 1) := by decide +kernel
theorem dX7_smallest_20 : decode cX7_smallest 20 = .ok (.if_icmp .ge 20, 3) := by decide +kernel
theorem dX7_smallest_23 : decode cX7_smallest 23 = .ok (.iload_n 1, 1) := by decide +kernel
theorem dX7_smallest_24 : decode cX7_smallest 24 = .ok (.aload_n 0, 1) := by decide +kernel
theorem dX7_smallest_25 : decode cX7_smallest 25 = .ok (.getfield 18, 3) := by decide +kernel
theorem dX7_smallest_28 : decode cX7_smallest 28 = .ok (.iload_n 2, 1) := by decide +kernel
theorem dX7_smallest_29 : decode cX7_smallest 29 = .ok (.iaload, 1) := by decide +kernel
theorem dX7_smallest_30 : decode cX7_smallest 30 = .ok (.invokestatic 140, 3) := by decide +kernel
theorem dX7_smallest_33 : decode cX7_smallest 33 = .ok (.istore_n 1, 1) := by decide +kernel
theorem dX7_smallest_34 : decode cX7_smallest 34 = .ok (.iinc 2 1, 3) := by decide +kernel
theorem dX7_smallest_37 : decode cX7_smallest 37 = .ok (.goto (-31), 3) := by decide +kernel
theorem dX7_smallest_40 : decode cX7_smallest 40 = .ok (.iload_n 1, 1) := by decide +kernel
theorem dX7_smallest_41 : decode cX7_smallest 41 = .ok (.ireturn, 1) := by decide +kernel
theorem dX8_init_0 : decode cX8_init 0 = .ok (.aload_n 0, 1) := by decide +kernel
theorem dX8_init_1 : decode cX8_init 1 = .ok (.invokespecial 3, 3) := by decide +kernel
theorem dX8_init_4 : decode cX8_init 4 = .ok (.aload_n 0, 1) := by decide +kernel
theorem dX8_init_5 : decode cX8_init 5 = .ok (.sipush 160, 3) := by decide +kernel
theorem dX8_init_8 : decode cX8_init 8 = .ok (.newarray .char, 2) := by decide +kernel
theorem dX8_init_10 : decode cX8_init 10 = .ok (.putfield 9, 3) := by decide +kernel
theorem dX8_init_13 : decode cX8_init 13 = .ok (.return_, 1) := by decide +kernel
theorem dX9_init_0 : decode cX9_init 0 = .ok (.aload_n 0, 1) := by decide +kernel
theorem dX9_init_1 : decode cX9_init 1 = .ok (.invokespecial 5, 3) := by decide +kernel
theorem dX9_init_4 : decode cX9_init 4 = .ok (.aload_n 0, 1) := by decide +kernel
theorem dX9_init_5 : decode cX9_init 5 = .ok (.bipush 8, 2) := by decide +kernel
theorem dX9_init_7 : decode cX9_init 7 = .ok (.anewarray 11, 3) := by decide +kernel
theorem dX9_init_10 : decode cX9_init 10 = .ok (.putfield 13, 3) := by decide +kernel
theorem dX9_init_13 : decode cX9_init 13 = .ok (.aload_n 0, 1) := by decide +kernel
theorem dX9_init_14 : decode cX9_init 14 = .ok (.sipush 512, 3) := by decide +kernel
theorem dX9_init_17 : decode cX9_init 17 = .ok (.newarray .int, 2) := by decide +kernel
theorem dX9_init_19 : decode cX9_init 19 = .ok (.putfield 17, 3) := by decide +kernel
theorem dX9_init_22 : decode cX9_init 22 = .ok (.aload_n 0, 1) := by decide +kernel
theorem dX9_init_23 : decode cX9_init 23 = .ok (.iconst 4, 1) := by decide +kernel
theorem dX9_init_24 : decode cX9_init 24 = .ok (.putfield 21, 3) := by decide +kernel
theorem dX9_init_27 : decode cX9_init 27 = .ok (.aload_n 0, 1) := by decide +kernel
theorem dX9_init_28 : decode cX9_init 28 = .ok (.bipush 16, 2) := by decide +kernel
theorem dX9_init_30 : decode cX9_init 30 = .ok (.putfield 25, 3) := by decide +kernel
theorem dX9_init_33 : decode cX9_init 33 = .ok (.iconst 0, 1) := by decide +kernel
theorem dX9_init_34 : decode cX9_init 34 = .ok (.istore_n 1, 1) := by decide +kernel
theorem dX9_init_35 : decode cX9_init 35 = .ok (.iload_n 1, 1) := by decide +kernel
theorem dX9_init_36 : decode cX9_init 36 = .ok (.aload_n 0, 1) := by decide +kernel
theorem dX9_init_37 : decode cX9_init 37 = .ok (.getfield 13, 3) := by decide +kernel
theorem dX9_init_40 : decode cX9_init 40 = .ok (.arraylength, 1) := by decide +kernel
theorem dX9_init_41 : decode cX9_init 41 = .ok (.if_icmp .ge 22, 3) := by decide +kernel
theorem dX9_init_44 : decode cX9_init 44 = .ok (.aload_n 0, 1) := by decide +kernel
theorem dX9_init_45 : decode cX9_init 45 = .ok (.getfield 13, 3) := by decide +kernel
theorem dX9_init_48 : decode cX9_init 48 = .ok (.iload_n 1, 1) := by decide +kernel
theorem dX9_init_49 : decode cX9_init 49 = .ok (.new 11, 3) := by decide +kernel
theorem dX9_init_52 : decode cX9_init 52 = .ok (.dup, 1) := by decide +kernel
theorem dX9_init_53 : decode cX9_init 53 = .ok (.invokespecial 28, 3) := by decide +kernel
theorem dX9_init_56 : decode cX9_init 56 = .ok (.aastore, 1) := by decide +kernel
theorem dX9_init_57 : decode cX9_init 57 = .ok (.iinc 1 1, 3) := by decide +kernel
theorem dX9_init_60 : decode cX9_init 60 = .ok (.goto (-25), 3) := by decide +kernel
theorem dX9_init_63 : decode cX9_init 63 = .ok (.return_, 1) := by decide +kernel
theorem dX9_slotOf_0 : decode cX9_slotOf 0 = .ok (.iload_n 0, 1) := by decide +kernel
theorem dX9_slotOf_1 : decode cX9_slotOf 1 = .ok (.bipush 64, 2) := by decide +kernel
theorem dX9_slotOf_3 : decode cX9_slotOf 3 = .ok (.imul, 1) := by decide +kernel
theorem dX9_slotOf_4 : decode cX9_slotOf 4 = .ok (.iload_n 2, 1) := by decide +kernel
theorem dX9_slotOf_5 : decode cX9_slotOf 5 = .ok (.bipush 8, 2) := by decide +kernel
theorem dX9_slotOf_7 : decode cX9_slotOf 7 = .ok (.imul, 1) := by decide +kernel
theorem dX9_slotOf_8 : decode cX9_slotOf 8 = .ok (.iadd, 1) := by decide +kernel
theorem dX9_slotOf_9 : decode cX9_slotOf 9 = .ok (.iload_n 1, 1) := by decide +kernel
theorem dX9_slotOf_10 : decode cX9_slotOf 10 = .ok (.iadd, 1) := by decide +kernel
theorem dX9_slotOf_11 : decode cX9_slotOf 11 = .ok (.ireturn, 1) := by decide +kernel
theorem dX9_tileOf_0 : decode cX9_tileOf 0 = .ok (.iload_n 1, 1) := by decide +kernel
theorem dX9_tileOf_1 : decode cX9_tileOf 1 = .ok (.aload_n 0, 1) := by decide +kernel
theorem dX9_tileOf_2 : decode cX9_tileOf 2 = .ok (.getfield 21, 3) := by decide +kernel
theorem dX9_tileOf_5 : decode cX9_tileOf 5 = .ok (.invokestatic 29, 3) := by decide +kernel
theorem dX9_tileOf_8 : decode cX9_tileOf 8 = .ok (.ireturn, 1) := by decide +kernel
theorem dX9_outputAt_0 : decode cX9_outputAt 0 = .ok (.iload_n 1, 1) := by decide +kernel
theorem dX9_outputAt_1 : decode cX9_outputAt 1 = .ok (.ifCond .lt 21, 3) := by decide +kernel
theorem dX9_outputAt_4 : decode cX9_outputAt 4 = .ok (.iload_n 1, 1) := by decide +kernel
theorem dX9_outputAt_5 : decode cX9_outputAt 5 = .ok (.aload_n 0, 1) := by decide +kernel
theorem dX9_outputAt_6 : decode cX9_outputAt 6 = .ok (.getfield 13, 3) := by decide +kernel
theorem dX9_outputAt_9 : decode cX9_outputAt 9 = .ok (.arraylength, 1) := by decide +kernel
theorem dX9_outputAt_10 : decode cX9_outputAt 10 = .ok (.if_icmp .ge 12, 3) := by decide +kernel
theorem dX9_outputAt_13 : decode cX9_outputAt 13 = .ok (.aload_n 0, 1) := by decide +kernel
theorem dX9_outputAt_14 : decode cX9_outputAt 14 = .ok (.getfield 13, 3) := by decide +kernel
theorem dX9_outputAt_17 : decode cX9_outputAt 17 = .ok (.iload_n 1, 1) := by decide +kernel
theorem dX9_outputAt_18 : decode cX9_outputAt 18 = .ok (.aaload, 1) := by decide +kernel
theorem dX9_outputAt_19 : decode cX9_outputAt 19 = .ok (.goto 4, 3) := by decide +kernel
theorem dX9_outputAt_22 : decode cX9_outputAt 22 = .ok (.aconst_null, 1) := by decide +kernel
theorem dX9_outputAt_23 : decode cX9_outputAt 23 = .ok (.areturn, 1) := by decide +kernel
theorem dX9_holds_0 : decode cX9_holds 0 = .ok (.iload_n 1, 1) := by decide +kernel
theorem dX9_holds_1 : decode cX9_holds 1 = .ok (.iload_n 2, 1) := by decide +kernel
theorem dX9_holds_2 : decode cX9_holds 2 = .ok (.iload_n 3, 1) := by decide +kernel
theorem dX9_holds_3 : decode cX9_holds 3 = .ok (.invokestatic 33, 3) := by decide +kernel
theorem dX9_holds_6 : decode cX9_holds 6 = .ok (.istore 4, 2) := by decide +kernel
theorem dX9_holds_8 : decode cX9_holds 8 = .ok (.iload 4, 2) := by decide +kernel
theorem dX9_holds_10 : decode cX9_holds 10 = .ok (.ifCond .lt 27, 3) := by decide +kernel
theorem dX9_holds_13 : decode cX9_holds 13 = .ok (.iload 4, 2) := by decide +kernel
theorem dX9_holds_15 : decode cX9_holds 15 = .ok (.aload_n 0, 1) := by decide +kernel
theorem dX9_holds_16 : decode cX9_holds 16 = .ok (.getfield 17, 3) := by decide +kernel
theorem dX9_holds_19 : decode cX9_holds 19 = .ok (.arraylength, 1) := by decide +kernel
theorem dX9_holds_20 : decode cX9_holds 20 = .ok (.if_icmp .ge 17, 3) := by decide +kernel
theorem dX9_holds_23 : decode cX9_holds 23 = .ok (.aload_n 0, 1) := by decide +kernel
theorem dX9_holds_24 : decode cX9_holds 24 = .ok (.getfield 17, 3) := by decide +kernel
theorem dX9_holds_27 : decode cX9_holds 27 = .ok (.iload 4, 2) := by decide +kernel
theorem dX9_holds_29 : decode cX9_holds 29 = .ok (.iaload, 1) := by decide +kernel
theorem dX9_holds_30 : decode cX9_holds 30 = .ok (.ifCond .le 7, 3) := by decide +kernel
theorem dX9_holds_33 : decode cX9_holds 33 = .ok (.iconst 1, 1) := by decide +kernel
theorem dX9_holds_34 : decode cX9_holds 34 = .ok (.goto 4, 3) := by decide +kernel
theorem dX9_holds_37 : decode cX9_holds 37 = .ok (.iconst 0, 1) := by decide +kernel
theorem dX9_holds_38 : decode cX9_holds 38 = .ok (.ireturn, 1) := by decide +kernel
theorem dX9_noteFound_0 : decode cX9_noteFound 0 = .ok (.aload_n 0, 1) := by decide +kernel
theorem dX9_noteFound_1 : decode cX9_noteFound 1 = .ok (.dup, 1) := by decide +kernel
theorem dX9_noteFound_2 : decode cX9_noteFound 2 = .ok (.getfield 37, 3) := by decide +kernel
theorem dX9_noteFound_5 : decode cX9_noteFound 5 = .ok (.iconst 1, 1) := by decide +kernel
theorem dX9_noteFound_6 : decode cX9_noteFound 6 = .ok (.iadd, 1) := by decide +kernel
theorem dX9_noteFound_7 : decode cX9_noteFound 7 = .ok (.putfield 37, 3) := by decide +kernel
theorem dX9_noteFound_10 : decode cX9_noteFound 10 = .ok (.aload_n 0, 1) := by decide +kernel
theorem dX9_noteFound_11 : decode cX9_noteFound 11 = .ok (.iload_n 1, 1) := by decide +kernel
theorem dX9_noteFound_12 : decode cX9_noteFound 12 = .ok (.iload_n 2, 1) := by decide +kernel
theorem dX9_noteFound_13 : decode cX9_noteFound 13 = .ok (.iload_n 3, 1) := by decide +kernel
theorem dX9_noteFound_14 : decode cX9_noteFound 14 = .ok (.invokestatic 33, 3) := by decide +kernel
theorem dX9_noteFound_17 : decode cX9_noteFound 17 = .ok (.invokevirtual 40, 3) := by decide +kernel
theorem dX9_noteFound_20 : decode cX9_noteFound 20 = .ok (.return_, 1) := by decide +kernel
theorem dX9_noteComputed_0 : decode cX9_noteComputed 0 = .ok (.aload_n 0, 1) := by decide +kernel
theorem dX9_noteComputed_1 : decode cX9_noteComputed 1 = .ok (.dup, 1) := by decide +kernel
theorem dX9_noteComputed_2 : decode cX9_noteComputed 2 = .ok (.getfield 44, 3) := by decide +kernel
theorem dX9_noteComputed_5 : decode cX9_noteComputed 5 = .ok (.iconst 1, 1) := by decide +kernel
theorem dX9_noteComputed_6 : decode cX9_noteComputed 6 = .ok (.iadd, 1) := by decide +kernel
theorem dX9_noteComputed_7 : decode cX9_noteComputed 7 = .ok (.putfield 44, 3) := by decide +kernel
theorem dX9_noteComputed_10 : decode cX9_noteComputed 10 = .ok (.aload_n 0, 1) := by decide +kernel
theorem dX9_noteComputed_11 : decode cX9_noteComputed 11 = .ok (.dup, 1) := by decide +kernel
theorem dX9_noteComputed_12 : decode cX9_noteComputed 12 = .ok (.getfield 47, 3) := by decide +kernel
theorem dX9_noteComputed_15 : decode cX9_noteComputed 15 = .ok (.iconst 1, 1) := by decide +kernel
theorem dX9_noteComputed_16 : decode cX9_noteComputed 16 = .ok (.iadd, 1) := by decide +kernel
theorem dX9_noteComputed_17 : decode cX9_noteComputed 17 = .ok (.putfield 47, 3) := by decide +kernel
theorem dX9_noteComputed_20 : decode cX9_noteComputed 20 = .ok (.aload_n 0, 1) := by decide +kernel
theorem dX9_noteComputed_21 : decode cX9_noteComputed 21 = .ok (.iload_n 1, 1) := by decide +kernel
theorem dX9_noteComputed_22 : decode cX9_noteComputed 22 = .ok (.iload_n 2, 1) := by decide +kernel
theorem dX9_noteComputed_23 : decode cX9_noteComputed 23 = .ok (.iload_n 3, 1) := by decide +kernel
theorem dX9_noteComputed_24 : decode cX9_noteComputed 24 = .ok (.invokestatic 33, 3) := by decide +kernel
theorem dX9_noteComputed_27 : decode cX9_noteComputed 27 = .ok (.invokevirtual 40, 3) := by decide +kernel
theorem dX9_noteComputed_30 : decode cX9_noteComputed 30 = .ok (.return_, 1) := by decide +kernel
theorem dX9_use_0 : decode cX9_use 0 = .ok (.iload_n 1, 1) := by decide +kernel
theorem dX9_use_1 : decode cX9_use 1 = .ok (.ifCond .lt 32, 3) := by decide +kernel
theorem dX9_use_4 : decode cX9_use 4 = .ok (.iload_n 1, 1) := by decide +kernel
theorem dX9_use_5 : decode cX9_use 5 = .ok (.aload_n 0, 1) := by decide +kernel
theorem dX9_use_6 : decode cX9_use 6 = .ok (.getfield 17, 3) := by decide +kernel
theorem dX9_use_9 : decode cX9_use 9 = .ok (.arraylength, 1) := by decide +kernel
theorem dX9_use_10 : decode cX9_use 10 = .ok (.if_icmp .ge 23, 3) := by decide +kernel
theorem dX9_use_13 : decode cX9_use 13 = .ok (.aload_n 0, 1) := by decide +kernel
theorem dX9_use_14 : decode cX9_use 14 = .ok (.dup, 1) := by decide +kernel
theorem dX9_use_15 : decode cX9_use 15 = .ok (.getfield 50, 3) := by decide +kernel
theorem dX9_use_18 : decode cX9_use 18 = .ok (.iconst 1, 1) := by decide +kernel
theorem dX9_use_19 : decode cX9_use 19 = .ok (.iadd, 1) := by decide +kernel
theorem dX9_use_20 : decode cX9_use 20 = .ok (.putfield 50, 3) := by decide +kernel
theorem dX9_use_23 : decode cX9_use 23 = .ok (.aload_n 0, 1) := by decide +kernel
theorem dX9_use_24 : decode cX9_use 24 = .ok (.getfield 17, 3) := by decide +kernel
theorem dX9_use_27 : decode cX9_use 27 = .ok (.iload_n 1, 1) := by decide +kernel
theorem dX9_use_28 : decode cX9_use 28 = .ok (.aload_n 0, 1) := by decide +kernel
theorem dX9_use_29 : decode cX9_use 29 = .ok (.getfield 50, 3) := by decide +kernel
theorem dX9_use_32 : decode cX9_use 32 = .ok (.iastore, 1) := by decide +kernel
theorem dX9_use_33 : decode cX9_use 33 = .ok (.return_, 1) := by decide +kernel
theorem dX9_tilesOf_0 : decode cX9_tilesOf 0 = .ok (.iconst 0, 1) := by decide +kernel
theorem dX9_tilesOf_1 : decode cX9_tilesOf 1 = .ok (.istore_n 2, 1) := by decide +kernel
theorem dX9_tilesOf_2 : decode cX9_tilesOf 2 = .ok (.iload_n 1, 1) := by decide +kernel
theorem dX9_tilesOf_3 : decode cX9_tilesOf 3 = .ok (.iconst 1, 1) := by decide +kernel
theorem dX9_tilesOf_4 : decode cX9_tilesOf 4 = .ok (.iadd, 1) := by decide +kernel
theorem dX9_tilesOf_5 : decode cX9_tilesOf 5 = .ok (.bipush 64, 2) := by decide +kernel
theorem dX9_tilesOf_7 : decode cX9_tilesOf 7 = .ok (.imul, 1) := by decide +kernel
theorem dX9_tilesOf_8 : decode cX9_tilesOf 8 = .ok (.istore_n 3, 1) := by decide +kernel
theorem dX9_tilesOf_9 : decode cX9_tilesOf 9 = .ok (.iconst 0, 1) := by decide +kernel
theorem dX9_tilesOf_10 : decode cX9_tilesOf 10 = .ok (.iload_n 3, 1) := by decide +kernel
theorem dX9_tilesOf_11 : decode cX9_tilesOf 11 = .ok (.bipush 64, 2) := by decide +kernel
theorem dX9_tilesOf_13 : decode cX9_tilesOf 13 = .ok (.isub, 1) := by decide +kernel
theorem dX9_tilesOf_14 : decode cX9_tilesOf 14 = .ok (.invokestatic 53, 3) := by decide +kernel
theorem dX9_tilesOf_17 : decode cX9_tilesOf 17 = .ok (.istore 4, 2) := by decide +kernel
theorem dX9_tilesOf_19 : decode cX9_tilesOf 19 = .ok (.iload 4, 2) := by decide +kernel
theorem dX9_tilesOf_21 : decode cX9_tilesOf 21 = .ok (.iload_n 3, 1) := by decide +kernel
theorem dX9_tilesOf_22 : decode cX9_tilesOf 22 = .ok (.if_icmp .ge 32, 3) := by decide +kernel
theorem dX9_tilesOf_25 : decode cX9_tilesOf 25 = .ok (.iload 4, 2) := by decide +kernel
theorem dX9_tilesOf_27 : decode cX9_tilesOf 27 = .ok (.aload_n 0, 1) := by decide +kernel
theorem dX9_tilesOf_28 : decode cX9_tilesOf 28 = .ok (.getfield 17, 3) := by decide +kernel
theorem dX9_tilesOf_31 : decode cX9_tilesOf 31 = .ok (.arraylength, 1) := by decide +kernel
theorem dX9_tilesOf_32 : decode cX9_tilesOf 32 = .ok (.if_icmp .ge 22, 3) := by decide +kernel
theorem dX9_tilesOf_35 : decode cX9_tilesOf 35 = .ok (.aload_n 0, 1) := by decide +kernel
theorem dX9_tilesOf_36 : decode cX9_tilesOf 36 = .ok (.getfield 17, 3) := by decide +kernel
theorem dX9_tilesOf_39 : decode cX9_tilesOf 39 = .ok (.iload 4, 2) := by decide +kernel
theorem dX9_tilesOf_41 : decode cX9_tilesOf 41 = .ok (.iaload, 1) := by decide +kernel
theorem dX9_tilesOf_42 : decode cX9_tilesOf 42 = .ok (.ifCond .le 6, 3) := by decide +kernel
theorem dX9_tilesOf_45 : decode cX9_tilesOf 45 = .ok (.iinc 2 1, 3) := by decide +kernel
theorem dX9_tilesOf_48 : decode cX9_tilesOf 48 = .ok (.iinc 4 1, 3) := by decide +kernel
theorem dX9_tilesOf_51 : decode cX9_tilesOf 51 = .ok (.goto (-32), 3) := by decide +kernel
theorem dX9_tilesOf_54 : decode cX9_tilesOf 54 = .ok (.iload_n 2, 1) := by decide +kernel
theorem dX9_tilesOf_55 : decode cX9_tilesOf 55 = .ok (.ireturn, 1) := by decide +kernel
theorem dX9_oldestSlot_0 : decode cX9_oldestSlot 0 = .ok (.iconst (-1), 1) := by decide +kernel
theorem dX9_oldestSlot_1 : decode cX9_oldestSlot 1 = .ok (.istore_n 1, 1) := by decide +kernel
theorem dX9_oldestSlot_2 : decode cX9_oldestSlot 2 = .ok (.aload_n 0, 1) := by decide +kernel
theorem dX9_oldestSlot_3 : decode cX9_oldestSlot 3 = .ok (.getfield 50, 3) := by decide +kernel
theorem dX9_oldestSlot_6 : decode cX9_oldestSlot 6 = .ok (.iconst 1, 1) := by decide +kernel
theorem dX9_oldestSlot_7 : decode cX9_oldestSlot 7 = .ok (.iadd, 1) := by decide +kernel
theorem dX9_oldestSlot_8 : decode cX9_oldestSlot 8 = .ok (.istore_n 2, 1) := by decide +kernel
theorem dX9_oldestSlot_9 : decode cX9_oldestSlot 9 = .ok (.iconst 0, 1) := by decide +kernel
theorem dX9_oldestSlot_10 : decode cX9_oldestSlot 10 = .ok (.istore_n 3, 1) := by decide +kernel
theorem dX9_oldestSlot_11 : decode cX9_oldestSlot 11 = .ok (.iload_n 3, 1) := by decide +kernel
theorem dX9_oldestSlot_12 : decode cX9_oldestSlot 12 = .ok (.aload_n 0, 1) := by decide +kernel
theorem dX9_oldestSlot_13 : decode cX9_oldestSlot 13 = .ok (.getfield 17, 3) := by decide +kernel
theorem dX9_oldestSlot_16 : decode cX9_oldestSlot 16 = .ok (.arraylength, 1) := by decide +kernel
theorem dX9_oldestSlot_17 : decode cX9_oldestSlot 17 = .ok (.if_icmp .ge 37, 3) := by decide +kernel
theorem dX9_oldestSlot_20 : decode cX9_oldestSlot 20 = .ok (.aload_n 0, 1) := by decide +kernel
theorem dX9_oldestSlot_21 : decode cX9_oldestSlot 21 = .ok (.getfield 17, 3) := by decide +kernel
theorem dX9_oldestSlot_24 : decode cX9_oldestSlot 24 = .ok (.iload_n 3, 1) := by decide +kernel
theorem dX9_oldestSlot_25 : decode cX9_oldestSlot 25 = .ok (.iaload, 1) := by decide +kernel
theorem dX9_oldestSlot_26 : decode cX9_oldestSlot 26 = .ok (.ifCond .le 22, 3) := by decide +kernel
theorem dX9_oldestSlot_29 : decode cX9_oldestSlot 29 = .ok (.aload_n 0, 1) := by decide +kernel
theorem dX9_oldestSlot_30 : decode cX9_oldestSlot 30 = .ok (.getfield 17, 3) := by decide +kernel
theorem dX9_oldestSlot_33 : decode cX9_oldestSlot 33 = .ok (.iload_n 3, 1) := by decide +kernel
theorem dX9_oldestSlot_34 : decode cX9_oldestSlot 34 = .ok (.iaload, 1) := by decide +kernel
theorem dX9_oldestSlot_35 : decode cX9_oldestSlot 35 = .ok (.iload_n 2, 1) := by decide +kernel
theorem dX9_oldestSlot_36 : decode cX9_oldestSlot 36 = .ok (.if_icmp .ge 12, 3) := by decide +kernel
theorem dX9_oldestSlot_39 : decode cX9_oldestSlot 39 = .ok (.aload_n 0, 1) := by decide +kernel
theorem dX9_oldestSlot_40 : decode cX9_oldestSlot 40 = .ok (.getfield 17, 3) := by decide +kernel
theorem dX9_oldestSlot_43 : decode cX9_oldestSlot 43 = .ok (.iload_n 3, 1) := by decide +kernel
theorem dX9_oldestSlot_44 : decode cX9_oldestSlot 44 = .ok (.iaload, 1) := by decide +kernel
theorem dX9_oldestSlot_45 : decode cX9_oldestSlot 45 = .ok (.istore_n 2, 1) := by decide +kernel
theorem dX9_oldestSlot_46 : decode cX9_oldestSlot 46 = .ok (.iload_n 3, 1) := by decide +kernel
theorem dX9_oldestSlot_47 : decode cX9_oldestSlot 47 = .ok (.istore_n 1, 1) := by decide +kernel
theorem dX9_oldestSlot_48 : decode cX9_oldestSlot 48 = .ok (.iinc 3 1, 3) := by decide +kernel
theorem dX9_oldestSlot_51 : decode cX9_oldestSlot 51 = .ok (.goto (-40), 3) := by decide +kernel
theorem dX9_oldestSlot_54 : decode cX9_oldestSlot 54 = .ok (.iload_n 1, 1) := by decide +kernel
theorem dX9_oldestSlot_55 : decode cX9_oldestSlot 55 = .ok (.ireturn, 1) := by decide +kernel
theorem dX9_dropSurplus_0 : decode cX9_dropSurplus 0 = .ok (.iconst 0, 1) := by decide +kernel
theorem dX9_dropSurplus_1 : decode cX9_dropSurplus 1 = .ok (.aload_n 0, 1) := by decide +kernel
theorem dX9_dropSurplus_2 : decode cX9_dropSurplus 2 = .ok (.getfield 47, 3) := by decide +kernel
theorem dX9_dropSurplus_5 : decode cX9_dropSurplus 5 = .ok (.aload_n 0, 1) := by decide +kernel
theorem dX9_dropSurplus_6 : decode cX9_dropSurplus 6 = .ok (.getfield 25, 3) := by decide +kernel
theorem dX9_dropSurplus_9 : decode cX9_dropSurplus 9 = .ok (.isub, 1) := by decide +kernel
theorem dX9_dropSurplus_10 : decode cX9_dropSurplus 10 = .ok (.invokestatic 53, 3) := by decide +kernel
theorem dX9_dropSurplus_13 : decode cX9_dropSurplus 13 = .ok (.istore_n 1, 1) := by decide +kernel
theorem dX9_dropSurplus_14 : decode cX9_dropSurplus 14 = .ok (.iconst 0, 1) := by decide +kernel
theorem dX9_dropSurplus_15 : decode cX9_dropSurplus 15 = .ok (.istore_n 2, 1) := by decide +kernel
theorem dX9_dropSurplus_16 : decode cX9_dropSurplus 16 = .ok (.iload_n 2, 1) := by decide +kernel
theorem dX9_dropSurplus_17 : decode cX9_dropSurplus 17 = .ok (.iload_n 1, 1) := by decide +kernel
theorem dX9_dropSurplus_18 : decode cX9_dropSurplus 18 = .ok (.if_icmp .ge 18, 3) := by decide +kernel
theorem dX9_dropSurplus_21 : decode cX9_dropSurplus 21 = .ok (.aload_n 0, 1) := by decide +kernel
theorem dX9_dropSurplus_22 : decode cX9_dropSurplus 22 = .ok (.aload_n 0, 1) := by decide +kernel
theorem dX9_dropSurplus_23 : decode cX9_dropSurplus 23 = .ok (.invokevirtual 58, 3) := by decide +kernel
theorem dX9_dropSurplus_26 : decode cX9_dropSurplus 26 = .ok (.invokevirtual 62, 3) := by decide +kernel
theorem dX9_dropSurplus_29 : decode cX9_dropSurplus 29 = .ok (.pop, 1) := by decide +kernel
theorem dX9_dropSurplus_30 : decode cX9_dropSurplus 30 = .ok (.iinc 2 1, 3) := by decide +kernel
theorem dX9_dropSurplus_33 : decode cX9_dropSurplus 33 = .ok (.goto (-17), 3) := by decide +kernel
theorem dX9_dropSurplus_36 : decode cX9_dropSurplus 36 = .ok (.aload_n 0, 1) := by decide +kernel
theorem dX9_dropSurplus_37 : decode cX9_dropSurplus 37 = .ok (.dup, 1) := by decide +kernel
theorem dX9_dropSurplus_38 : decode cX9_dropSurplus 38 = .ok (.getfield 66, 3) := by decide +kernel
theorem dX9_dropSurplus_41 : decode cX9_dropSurplus 41 = .ok (.iload_n 1, 1) := by decide +kernel
theorem dX9_dropSurplus_42 : decode cX9_dropSurplus 42 = .ok (.iadd, 1) := by decide +kernel
theorem dX9_dropSurplus_43 : decode cX9_dropSurplus 43 = .ok (.putfield 66, 3) := by decide +kernel
theorem dX9_dropSurplus_46 : decode cX9_dropSurplus 46 = .ok (.iload_n 1, 1) := by decide +kernel
theorem dX9_dropSurplus_47 : decode cX9_dropSurplus 47 = .ok (.ireturn, 1) := by decide +kernel
theorem dX9_removeAll_0 : decode cX9_removeAll 0 = .ok (.aload_n 0, 1) := by decide +kernel
theorem dX9_removeAll_1 : decode cX9_removeAll 1 = .ok (.iconst 0, 1) := by decide +kernel
theorem dX9_removeAll_2 : decode cX9_removeAll 2 = .ok (.invokevirtual 69, 3) := by decide +kernel
theorem dX9_removeAll_5 : decode cX9_removeAll 5 = .ok (.ireturn, 1) := by decide +kernel
theorem dX9_removeFrom_0 : decode cX9_removeFrom 0 = .ok (.aload_n 0, 1) := by decide +kernel
theorem dX9_removeFrom_1 : decode cX9_removeFrom 1 = .ok (.iload_n 1, 1) := by decide +kernel
theorem dX9_removeFrom_2 : decode cX9_removeFrom 2 = .ok (.bipush 64, 2) := by decide +kernel
theorem dX9_removeFrom_4 : decode cX9_removeFrom 4 = .ok (.imul, 1) := by decide +kernel
theorem dX9_removeFrom_5 : decode cX9_removeFrom 5 = .ok (.aload_n 0, 1) := by decide +kernel
theorem dX9_removeFrom_6 : decode cX9_removeFrom 6 = .ok (.getfield 17, 3) := by decide +kernel
theorem dX9_removeFrom_9 : decode cX9_removeFrom 9 = .ok (.arraylength, 1) := by decide +kernel
theorem dX9_removeFrom_10 : decode cX9_removeFrom 10 = .ok (.invokevirtual 72, 3) := by decide +kernel
theorem dX9_removeFrom_13 : decode cX9_removeFrom 13 = .ok (.ireturn, 1) := by decide +kernel
theorem dX9_removeTouched_0 : decode cX9_removeTouched 0 = .ok (.iconst 0, 1) := by decide +kernel
theorem dX9_removeTouched_1 : decode cX9_removeTouched 1 = .ok (.istore 6, 2) := by decide +kernel
theorem dX9_removeTouched_3 : decode cX9_removeTouched 3 = .ok (.aload_n 0, 1) := by decide +kernel
theorem dX9_removeTouched_4 : decode cX9_removeTouched 4 = .ok (.iload_n 3, 1) := by decide +kernel
theorem dX9_removeTouched_5 : decode cX9_removeTouched 5 = .ok (.invokevirtual 75, 3) := by decide +kernel
theorem dX9_removeTouched_8 : decode cX9_removeTouched 8 = .ok (.istore 7, 2) := by decide +kernel
theorem dX9_removeTouched_10 : decode cX9_removeTouched 10 = .ok (.iload 7, 2) := by decide +kernel
theorem dX9_removeTouched_12 : decode cX9_removeTouched 12 = .ok (.aload_n 0, 1) := by decide +kernel
theorem dX9_removeTouched_13 : decode cX9_removeTouched 13 = .ok (.iload 5, 2) := by decide +kernel
theorem dX9_removeTouched_15 : decode cX9_removeTouched 15 = .ok (.invokevirtual 75, 3) := by decide +kernel
theorem dX9_removeTouched_18 : decode cX9_removeTouched 18 = .ok (.if_icmp .gt 50, 3) := by decide +kernel
theorem dX9_removeTouched_21 : decode cX9_removeTouched 21 = .ok (.aload_n 0, 1) := by decide +kernel
theorem dX9_removeTouched_22 : decode cX9_removeTouched 22 = .ok (.iload_n 2, 1) := by decide +kernel
theorem dX9_removeTouched_23 : decode cX9_removeTouched 23 = .ok (.invokevirtual 75, 3) := by decide +kernel
theorem dX9_removeTouched_26 : decode cX9_removeTouched 26 = .ok (.istore 8, 2) := by decide +kernel
theorem dX9_removeTouched_28 : decode cX9_removeTouched 28 = .ok (.iload 8, 2) := by decide +kernel
theorem dX9_removeTouched_30 : decode cX9_removeTouched 30 = .ok (.aload_n 0, 1) := by decide +kernel
theorem dX9_removeTouched_31 : decode cX9_removeTouched 31 = .ok (.iload 4, 2) := by decide +kernel
theorem dX9_removeTouched_33 : decode cX9_removeTouched 33 = .ok (.invokevirtual 75, 3) := by decide +kernel
theorem dX9_removeTouched_36 : decode cX9_removeTouched 36 = .ok (.if_icmp .gt 26, 3) := by decide +kernel
theorem dX9_removeTouched_39 : decode cX9_removeTouched 39 = .ok (.iload 6, 2) := by decide +kernel
theorem dX9_removeTouched_41 : decode cX9_removeTouched 41 = .ok (.aload_n 0, 1) := by decide +kernel
theorem dX9_removeTouched_42 : decode cX9_removeTouched 42 = .ok (.iload_n 1, 1) := by decide +kernel
theorem dX9_removeTouched_43 : decode cX9_removeTouched 43 = .ok (.iload 8, 2) := by decide +kernel
theorem dX9_removeTouched_45 : decode cX9_removeTouched 45 = .ok (.iload 7, 2) := by decide +kernel
theorem dX9_removeTouched_47 : decode cX9_removeTouched 47 = .ok (.invokestatic 33, 3) := by decide +kernel
theorem dX9_removeTouched_50 : decode cX9_removeTouched 50 = .ok (.invokevirtual 62, 3) := by decide +kernel
theorem dX9_removeTouched_53 : decode cX9_removeTouched 53 = .ok (.iadd, 1) := by decide +kernel
theorem dX9_removeTouched_54 : decode cX9_removeTouched 54 = .ok (.istore 6, 2) := by decide +kernel
theorem dX9_removeTouched_56 : decode cX9_removeTouched 56 = .ok (.iinc 8 1, 3) := by decide +kernel
theorem dX9_removeTouched_59 : decode cX9_removeTouched 59 = .ok (.goto (-31), 3) := by decide +kernel
theorem dX9_removeTouched_62 : decode cX9_removeTouched 62 = .ok (.iinc 7 1, 3) := by decide +kernel
theorem dX9_removeTouched_65 : decode cX9_removeTouched 65 = .ok (.goto (-55), 3) := by decide +kernel
theorem dX9_removeTouched_68 : decode cX9_removeTouched 68 = .ok (.iload 6, 2) := by decide +kernel
theorem dX9_removeTouched_70 : decode cX9_removeTouched 70 = .ok (.ireturn, 1) := by decide +kernel
theorem dX9_removeLowest_0 : decode cX9_removeLowest 0 = .ok (.iload_n 1, 1) := by decide +kernel
theorem dX9_removeLowest_1 : decode cX9_removeLowest 1 = .ok (.iconst 1, 1) := by decide +kernel
theorem dX9_removeLowest_2 : decode cX9_removeLowest 2 = .ok (.if_icmp .ge 4, 3) := by decide +kernel
theorem dX9_removeLowest_5 : decode cX9_removeLowest 5 = .ok (.return_, 1) := by decide +kernel
theorem dX9_removeLowest_6 : decode cX9_removeLowest 6 = .ok (.iload_n 1, 1) := by decide +kernel
theorem dX9_removeLowest_7 : decode cX9_removeLowest 7 = .ok (.bipush 64, 2) := by decide +kernel
theorem dX9_removeLowest_9 : decode cX9_removeLowest 9 = .ok (.imul, 1) := by decide +kernel
theorem dX9_removeLowest_10 : decode cX9_removeLowest 10 = .ok (.istore_n 2, 1) := by decide +kernel
theorem dX9_removeLowest_11 : decode cX9_removeLowest 11 = .ok (.aload_n 0, 1) := by decide +kernel
theorem dX9_removeLowest_12 : decode cX9_removeLowest 12 = .ok (.iconst 0, 1) := by decide +kernel
theorem dX9_removeLowest_13 : decode cX9_removeLowest 13 = .ok (.iload_n 2, 1) := by decide +kernel
theorem dX9_removeLowest_14 : decode cX9_removeLowest 14 = .ok (.invokevirtual 72, 3) := by decide +kernel
theorem dX9_removeLowest_17 : decode cX9_removeLowest 17 = .ok (.pop, 1) := by decide +kernel
theorem dX9_removeLowest_18 : decode cX9_removeLowest 18 = .ok (.iload_n 2, 1) := by decide +kernel
theorem dX9_removeLowest_19 : decode cX9_removeLowest 19 = .ok (.istore_n 3, 1) := by decide +kernel
theorem dX9_removeLowest_20 : decode cX9_removeLowest 20 = .ok (.iload_n 3, 1) := by decide +kernel
theorem dX9_removeLowest_21 : decode cX9_removeLowest 21 = .ok (.aload_n 0, 1) := by decide +kernel
theorem dX9_removeLowest_22 : decode cX9_removeLowest 22 = .ok (.getfield 17, 3) := by decide +kernel
theorem dX9_removeLowest_25 : decode cX9_removeLowest 25 = .ok (.arraylength, 1) := by decide +kernel
theorem dX9_removeLowest_26 : decode cX9_removeLowest 26 = .ok (.if_icmp .ge 30, 3) := by decide +kernel
theorem dX9_removeLowest_29 : decode cX9_removeLowest 29 = .ok (.aload_n 0, 1) := by decide +kernel
theorem dX9_removeLowest_30 : decode cX9_removeLowest 30 = .ok (.getfield 17, 3) := by decide +kernel
theorem dX9_removeLowest_33 : decode cX9_removeLowest 33 = .ok (.iload_n 3, 1) := by decide +kernel
theorem dX9_removeLowest_34 : decode cX9_removeLowest 34 = .ok (.iload_n 2, 1) := by decide +kernel
theorem dX9_removeLowest_35 : decode cX9_removeLowest 35 = .ok (.isub, 1) := by decide +kernel
theorem dX9_removeLowest_36 : decode cX9_removeLowest 36 = .ok (.aload_n 0, 1) := by decide +kernel
theorem dX9_removeLowest_37 : decode cX9_removeLowest 37 = .ok (.getfield 17, 3) := by decide +kernel
theorem dX9_removeLowest_40 : decode cX9_removeLowest 40 = .ok (.iload_n 3, 1) := by decide +kernel
theorem dX9_removeLowest_41 : decode cX9_removeLowest 41 = .ok (.iaload, 1) := by decide +kernel
theorem dX9_removeLowest_42 : decode cX9_removeLowest 42 = .ok (.iastore, 1) := by decide +kernel
theorem dX9_removeLowest_43 : decode cX9_removeLowest 43 = .ok (.aload_n 0, 1) := by decide +kernel
theorem dX9_removeLowest_44 : decode cX9_removeLowest 44 = .ok (.getfield 17, 3) := by decide +kernel
theorem dX9_removeLowest_47 : decode cX9_removeLowest 47 = .ok (.iload_n 3, 1) := by decide +kernel
theorem dX9_removeLowest_48 : decode cX9_removeLowest 48 = .ok (.iconst 0, 1) := by decide +kernel
theorem dX9_removeLowest_49 : decode cX9_removeLowest 49 = .ok (.iastore, 1) := by decide +kernel
theorem dX9_removeLowest_50 : decode cX9_removeLowest 50 = .ok (.iinc 3 1, 3) := by decide +kernel
theorem dX9_removeLowest_53 : decode cX9_removeLowest 53 = .ok (.goto (-33), 3) := by decide +kernel
theorem dX9_removeLowest_56 : decode cX9_removeLowest 56 = .ok (.iload_n 1, 1) := by decide +kernel
theorem dX9_removeLowest_57 : decode cX9_removeLowest 57 = .ok (.istore_n 3, 1) := by decide +kernel
theorem dX9_removeLowest_58 : decode cX9_removeLowest 58 = .ok (.iload_n 3, 1) := by decide +kernel
theorem dX9_removeLowest_59 : decode cX9_removeLowest 59 = .ok (.aload_n 0, 1) := by decide +kernel
theorem dX9_removeLowest_60 : decode cX9_removeLowest 60 = .ok (.getfield 13, 3) := by decide +kernel
theorem dX9_removeLowest_63 : decode cX9_removeLowest 63 = .ok (.arraylength, 1) := by decide +kernel
theorem dX9_removeLowest_64 : decode cX9_removeLowest 64 = .ok (.if_icmp .ge 44, 3) := by decide +kernel
theorem dX9_removeLowest_67 : decode cX9_removeLowest 67 = .ok (.aload_n 0, 1) := by decide +kernel
theorem dX9_removeLowest_68 : decode cX9_removeLowest 68 = .ok (.getfield 13, 3) := by decide +kernel
theorem dX9_removeLowest_71 : decode cX9_removeLowest 71 = .ok (.iload_n 3, 1) := by decide +kernel
theorem dX9_removeLowest_72 : decode cX9_removeLowest 72 = .ok (.aaload, 1) := by decide +kernel
theorem dX9_removeLowest_73 : decode cX9_removeLowest 73 = .ok (.astore 4, 2) := by decide +kernel
theorem dX9_removeLowest_75 : decode cX9_removeLowest 75 = .ok (.aload_n 0, 1) := by decide +kernel
theorem dX9_removeLowest_76 : decode cX9_removeLowest 76 = .ok (.getfield 13, 3) := by decide +kernel
theorem dX9_removeLowest_79 : decode cX9_removeLowest 79 = .ok (.iload_n 3, 1) := by decide +kernel
theorem dX9_removeLowest_80 : decode cX9_removeLowest 80 = .ok (.iload_n 1, 1) := by decide +kernel
theorem dX9_removeLowest_81 : decode cX9_removeLowest 81 = .ok (.isub, 1) := by decide +kernel
theorem dX9_removeLowest_82 : decode cX9_removeLowest 82 = .ok (.aaload, 1) := by decide +kernel
theorem dX9_removeLowest_83 : decode cX9_removeLowest 83 = .ok (.astore 5, 2) := by decide +kernel
theorem dX9_removeLowest_85 : decode cX9_removeLowest 85 = .ok (.aload 4, 2) := by decide +kernel
theorem dX9_removeLowest_87 : decode cX9_removeLowest 87 = .ok (.ifnull 15, 3) := by decide +kernel
theorem dX9_removeLowest_90 : decode cX9_removeLowest 90 = .ok (.aload 5, 2) := by decide +kernel
theorem dX9_removeLowest_92 : decode cX9_removeLowest 92 = .ok (.ifnull 10, 3) := by decide +kernel
theorem dX9_removeLowest_95 : decode cX9_removeLowest 95 = .ok (.aload 5, 2) := by decide +kernel
theorem dX9_removeLowest_97 : decode cX9_removeLowest 97 = .ok (.aload 4, 2) := by decide +kernel
theorem dX9_removeLowest_99 : decode cX9_removeLowest 99 = .ok (.invokevirtual 78, 3) := by decide +kernel
theorem dX9_removeLowest_102 : decode cX9_removeLowest 102 = .ok (.iinc 3 1, 3) := by decide +kernel
theorem dX9_removeLowest_105 : decode cX9_removeLowest 105 = .ok (.goto (-47), 3) := by decide +kernel
theorem dX9_removeLowest_108 : decode cX9_removeLowest 108 = .ok (.return_, 1) := by decide +kernel
theorem dX9_removeSlots_0 : decode cX9_removeSlots 0 = .ok (.iconst 0, 1) := by decide +kernel
theorem dX9_removeSlots_1 : decode cX9_removeSlots 1 = .ok (.istore_n 3, 1) := by decide +kernel
theorem dX9_removeSlots_2 : decode cX9_removeSlots 2 = .ok (.iconst 0, 1) := by decide +kernel
theorem dX9_removeSlots_3 : decode cX9_removeSlots 3 = .ok (.iload_n 1, 1) := by decide +kernel
theorem dX9_removeSlots_4 : decode cX9_removeSlots 4 = .ok (.invokestatic 53, 3) := by decide +kernel
theorem dX9_removeSlots_7 : decode cX9_removeSlots 7 = .ok (.istore 4, 2) := by decide +kernel
theorem dX9_removeSlots_9 : decode cX9_removeSlots 9 = .ok (.iload 4, 2) := by decide +kernel
theorem dX9_removeSlots_11 : decode cX9_removeSlots 11 = .ok (.iload_n 2, 1) := by decide +kernel
theorem dX9_removeSlots_12 : decode cX9_removeSlots 12 = .ok (.if_icmp .ge 28, 3) := by decide +kernel
theorem dX9_removeSlots_15 : decode cX9_removeSlots 15 = .ok (.iload 4, 2) := by decide +kernel
theorem dX9_removeSlots_17 : decode cX9_removeSlots 17 = .ok (.aload_n 0, 1) := by decide +kernel
theorem dX9_removeSlots_18 : decode cX9_removeSlots 18 = .ok (.getfield 17, 3) := by decide +kernel
theorem dX9_removeSlots_21 : decode cX9_removeSlots 21 = .ok (.arraylength, 1) := by decide +kernel
theorem dX9_removeSlots_22 : decode cX9_removeSlots 22 = .ok (.if_icmp .ge 18, 3) := by decide +kernel
theorem dX9_removeSlots_25 : decode cX9_removeSlots 25 = .ok (.iload_n 3, 1) := by decide +kernel
theorem dX9_removeSlots_26 : decode cX9_removeSlots 26 = .ok (.aload_n 0, 1) := by decide +kernel
theorem dX9_removeSlots_27 : decode cX9_removeSlots 27 = .ok (.iload 4, 2) := by decide +kernel
theorem dX9_removeSlots_29 : decode cX9_removeSlots 29 = .ok (.invokevirtual 62, 3) := by decide +kernel
theorem dX9_removeSlots_32 : decode cX9_removeSlots 32 = .ok (.iadd, 1) := by decide +kernel
theorem dX9_removeSlots_33 : decode cX9_removeSlots 33 = .ok (.istore_n 3, 1) := by decide +kernel
theorem dX9_removeSlots_34 : decode cX9_removeSlots 34 = .ok (.iinc 4 1, 3) := by decide +kernel
theorem dX9_removeSlots_37 : decode cX9_removeSlots 37 = .ok (.goto (-28), 3) := by decide +kernel
theorem dX9_removeSlots_40 : decode cX9_removeSlots 40 = .ok (.iload_n 3, 1) := by decide +kernel
theorem dX9_removeSlots_41 : decode cX9_removeSlots 41 = .ok (.ireturn, 1) := by decide +kernel
theorem dX9_remove_0 : decode cX9_remove 0 = .ok (.iload_n 1, 1) := by decide +kernel
theorem dX9_remove_1 : decode cX9_remove 1 = .ok (.ifCond .lt 21, 3) := by decide +kernel
theorem dX9_remove_4 : decode cX9_remove 4 = .ok (.iload_n 1, 1) := by decide +kernel
theorem dX9_remove_5 : decode cX9_remove 5 = .ok (.aload_n 0, 1) := by decide +kernel
theorem dX9_remove_6 : decode cX9_remove 6 = .ok (.getfield 17, 3) := by decide +kernel
theorem dX9_remove_9 : decode cX9_remove 9 = .ok (.arraylength, 1) := by decide +kernel
theorem dX9_remove_10 : decode cX9_remove 10 = .ok (.if_icmp .ge 12, 3) := by decide +kernel
theorem dX9_remove_13 : decode cX9_remove 13 = .ok (.aload_n 0, 1) := by decide +kernel
theorem dX9_remove_14 : decode cX9_remove 14 = .ok (.getfield 17, 3) := by decide +kernel
theorem dX9_remove_17 : decode cX9_remove 17 = .ok (.iload_n 1, 1) := by decide +kernel
theorem dX9_remove_18 : decode cX9_remove 18 = .ok (.iaload, 1) := by decide +kernel
theorem dX9_remove_19 : decode cX9_remove 19 = .ok (.ifCond .ne 5, 3) := by decide +kernel
theorem dX9_remove_22 : decode cX9_remove 22 = .ok (.iconst 0, 1) := by decide +kernel
theorem dX9_remove_23 : decode cX9_remove 23 = .ok (.ireturn, 1) := by decide +kernel
theorem dX9_remove_24 : decode cX9_remove 24 = .ok (.aload_n 0, 1) := by decide +kernel
theorem dX9_remove_25 : decode cX9_remove 25 = .ok (.getfield 17, 3) := by decide +kernel
theorem dX9_remove_28 : decode cX9_remove 28 = .ok (.iload_n 1, 1) := by decide +kernel
theorem dX9_remove_29 : decode cX9_remove 29 = .ok (.iconst 0, 1) := by decide +kernel
theorem dX9_remove_30 : decode cX9_remove 30 = .ok (.iastore, 1) := by decide +kernel
theorem dX9_remove_31 : decode cX9_remove 31 = .ok (.aload_n 0, 1) := by decide +kernel
theorem dX9_remove_32 : decode cX9_remove 32 = .ok (.dup, 1) := by decide +kernel
theorem dX9_remove_33 : decode cX9_remove 33 = .ok (.getfield 47, 3) := by decide +kernel
theorem dX9_remove_36 : decode cX9_remove 36 = .ok (.iconst 1, 1) := by decide +kernel
theorem dX9_remove_37 : decode cX9_remove 37 = .ok (.isub, 1) := by decide +kernel
theorem dX9_remove_38 : decode cX9_remove 38 = .ok (.putfield 47, 3) := by decide +kernel
theorem dX9_remove_41 : decode cX9_remove 41 = .ok (.iconst 1, 1) := by decide +kernel
theorem dX9_remove_42 : decode cX9_remove 42 = .ok (.ireturn, 1) := by decide +kernel
theorem dX10_init_0 : decode cX10_init 0 = .ok (.aload_n 0, 1) := by decide +kernel
theorem dX10_init_1 : decode cX10_init 1 = .ok (.invokespecial 1, 3) := by decide +kernel
theorem dX10_init_4 : decode cX10_init 4 = .ok (.aload_n 0, 1) := by decide +kernel
theorem dX10_init_5 : decode cX10_init 5 = .ok (.new 7, 3) := by decide +kernel
theorem dX10_init_8 : decode cX10_init 8 = .ok (.dup, 1) := by decide +kernel
theorem dX10_init_9 : decode cX10_init 9 = .ok (.invokespecial 9, 3) := by decide +kernel
theorem dX10_init_12 : decode cX10_init 12 = .ok (.putfield 10, 3) := by decide +kernel
theorem dX10_init_15 : decode cX10_init 15 = .ok (.aload_n 0, 1) := by decide +kernel
theorem dX10_init_16 : decode cX10_init 16 = .ok (.new 7, 3) := by decide +kernel
theorem dX10_init_19 : decode cX10_init 19 = .ok (.dup, 1) := by decide +kernel
theorem dX10_init_20 : decode cX10_init 20 = .ok (.invokespecial 9, 3) := by decide +kernel
theorem dX10_init_23 : decode cX10_init 23 = .ok (.putfield 16, 3) := by decide +kernel
theorem dX10_init_26 : decode cX10_init 26 = .ok (.aload_n 0, 1) := by decide +kernel
theorem dX10_init_27 : decode cX10_init 27 = .ok (.new 19, 3) := by decide +kernel
theorem dX10_init_30 : decode cX10_init 30 = .ok (.dup, 1) := by decide +kernel
theorem dX10_init_31 : decode cX10_init 31 = .ok (.invokespecial 21, 3) := by decide +kernel
theorem dX10_init_34 : decode cX10_init 34 = .ok (.putfield 22, 3) := by decide +kernel
theorem dX10_init_37 : decode cX10_init 37 = .ok (.aload_n 0, 1) := by decide +kernel
theorem dX10_init_38 : decode cX10_init 38 = .ok (.iconst 2, 1) := by decide +kernel
theorem dX10_init_39 : decode cX10_init 39 = .ok (.anewarray 7, 3) := by decide +kernel
theorem dX10_init_42 : decode cX10_init 42 = .ok (.putfield 26, 3) := by decide +kernel
theorem dX10_init_45 : decode cX10_init 45 = .ok (.aload_n 0, 1) := by decide +kernel
theorem dX10_init_46 : decode cX10_init 46 = .ok (.new 30, 3) := by decide +kernel
theorem dX10_init_49 : decode cX10_init 49 = .ok (.dup, 1) := by decide +kernel
theorem dX10_init_50 : decode cX10_init 50 = .ok (.invokespecial 32, 3) := by decide +kernel
theorem dX10_init_53 : decode cX10_init 53 = .ok (.putfield 33, 3) := by decide +kernel
theorem dX10_init_56 : decode cX10_init 56 = .ok (.aload_n 0, 1) := by decide +kernel
theorem dX10_init_57 : decode cX10_init 57 = .ok (.new 37, 3) := by decide +kernel
theorem dX10_init_60 : decode cX10_init 60 = .ok (.dup, 1) := by decide +kernel
theorem dX10_init_61 : decode cX10_init 61 = .ok (.invokespecial 39, 3) := by decide +kernel
theorem dX10_init_64 : decode cX10_init 64 = .ok (.putfield 40, 3) := by decide +kernel
theorem dX10_init_67 : decode cX10_init 67 = .ok (.aload_n 0, 1) := by decide +kernel
theorem dX10_init_68 : decode cX10_init 68 = .ok (.new 44, 3) := by decide +kernel
theorem dX10_init_71 : decode cX10_init 71 = .ok (.dup, 1) := by decide +kernel
theorem dX10_init_72 : decode cX10_init 72 = .ok (.invokespecial 46, 3) := by decide +kernel
theorem dX10_init_75 : decode cX10_init 75 = .ok (.putfield 47, 3) := by decide +kernel
theorem dX10_init_78 : decode cX10_init 78 = .ok (.aload_n 0, 1) := by decide +kernel
theorem dX10_init_79 : decode cX10_init 79 = .ok (.new 51, 3) := by decide +kernel
theorem dX10_init_82 : decode cX10_init 82 = .ok (.dup, 1) := by decide +kernel
theorem dX10_init_83 : decode cX10_init 83 = .ok (.invokespecial 53, 3) := by decide +kernel
theorem dX10_init_86 : decode cX10_init 86 = .ok (.putfield 54, 3) := by decide +kernel
theorem dX10_init_89 : decode cX10_init 89 = .ok (.aload_n 0, 1) := by decide +kernel
theorem dX10_init_90 : decode cX10_init 90 = .ok (.new 51, 3) := by decide +kernel
theorem dX10_init_93 : decode cX10_init 93 = .ok (.dup, 1) := by decide +kernel
theorem dX10_init_94 : decode cX10_init 94 = .ok (.invokespecial 53, 3) := by decide +kernel
theorem dX10_init_97 : decode cX10_init 97 = .ok (.putfield 58, 3) := by decide +kernel
theorem dX10_init_100 : decode cX10_init 100 = .ok (.aload_n 0, 1) := by decide +kernel
theorem dX10_init_101 : decode cX10_init 101 = .ok (.getfield 10, 3) := by decide +kernel
theorem dX10_init_104 : decode cX10_init 104 = .ok (.getfield 61, 3) := by decide +kernel
theorem dX10_init_107 : decode cX10_init 107 = .ok (.bipush 8, 2) := by decide +kernel
theorem dX10_init_109 : decode cX10_init 109 = .ok (.bipush 8, 2) := by decide +kernel
theorem dX10_init_111 : decode cX10_init 111 = .ok (.invokevirtual 64, 3) := by decide +kernel
theorem dX10_init_114 : decode cX10_init 114 = .ok (.return_, 1) := by decide +kernel
theorem dX10_newImage_0 : decode cX10_newImage 0 = .ok (.iload_n 1, 1) := by decide +kernel
theorem dX10_newImage_1 : decode cX10_newImage 1 = .ok (.iconst 4, 1) := by decide +kernel
theorem dX10_newImage_2 : decode cX10_newImage 2 = .ok (.bipush 16, 2) := by decide +kernel
theorem dX10_newImage_4 : decode cX10_newImage 4 = .ok (.invokestatic 68, 3) := by decide +kernel
theorem dX10_newImage_7 : decode cX10_newImage 7 = .ok (.ifCond .eq 13, 3) := by decide +kernel
theorem dX10_newImage_10 : decode cX10_newImage 10 = .ok (.iload_n 2, 1) := by decide +kernel
theorem dX10_newImage_11 : decode cX10_newImage 11 = .ok (.iconst 4, 1) := by decide +kernel
theorem dX10_newImage_12 : decode cX10_newImage 12 = .ok (.bipush 16, 2) := by decide +kernel
theorem dX10_newImage_14 : decode cX10_newImage 14 = .ok (.invokestatic 68, 3) := by decide +kernel
theorem dX10_newImage_17 : decode cX10_newImage 17 = .ok (.ifCond .ne 7, 3) := by decide +kernel
theorem dX10_newImage_20 : decode cX10_newImage 20 = .ok (.sipush (-1001), 3) := by decide +kernel
theorem dX10_newImage_23 : decode cX10_newImage 23 = .ok (.ireturn, 1) := by decide +kernel
theorem dX10_newImage_24 : decode cX10_newImage 24 = .ok (.aload_n 0, 1) := by decide +kernel
theorem dX10_newImage_25 : decode cX10_newImage 25 = .ok (.getfield 22, 3) := by decide +kernel
theorem dX10_newImage_28 : decode cX10_newImage 28 = .ok (.aload_n 0, 1) := by decide +kernel
theorem dX10_newImage_29 : decode cX10_newImage 29 = .ok (.getfield 10, 3) := by decide +kernel
theorem dX10_newImage_32 : decode cX10_newImage 32 = .ok (.invokevirtual 72, 3) := by decide +kernel
theorem dX10_newImage_35 : decode cX10_newImage 35 = .ok (.aload_n 0, 1) := by decide +kernel
theorem dX10_newImage_36 : decode cX10_newImage 36 = .ok (.getfield 10, 3) := by decide +kernel
theorem dX10_newImage_39 : decode cX10_newImage 39 = .ok (.getfield 61, 3) := by decide +kernel
theorem dX10_newImage_42 : decode cX10_newImage 42 = .ok (.iload_n 1, 1) := by decide +kernel
theorem dX10_newImage_43 : decode cX10_newImage 43 = .ok (.iload_n 2, 1) := by decide +kernel
theorem dX10_newImage_44 : decode cX10_newImage 44 = .ok (.invokevirtual 64, 3) := by decide +kernel
theorem dX10_newImage_47 : decode cX10_newImage 47 = .ok (.aload_n 0, 1) := by decide +kernel
theorem dX10_newImage_48 : decode cX10_newImage 48 = .ok (.getfield 40, 3) := by decide +kernel
theorem dX10_newImage_51 : decode cX10_newImage 51 = .ok (.invokevirtual 76, 3) := by decide +kernel
theorem dX10_newImage_54 : decode cX10_newImage 54 = .ok (.pop, 1) := by decide +kernel
theorem dX10_newImage_55 : decode cX10_newImage 55 = .ok (.iload_n 1, 1) := by decide +kernel
theorem dX10_newImage_56 : decode cX10_newImage 56 = .ok (.iload_n 2, 1) := by decide +kernel
theorem dX10_newImage_57 : decode cX10_newImage 57 = .ok (.imul, 1) := by decide +kernel
theorem dX10_newImage_58 : decode cX10_newImage 58 = .ok (.ireturn, 1) := by decide +kernel
theorem dX10_setPixel_0 : decode cX10_setPixel 0 = .ok (.aload_n 0, 1) := by decide +kernel
theorem dX10_setPixel_1 : decode cX10_setPixel 1 = .ok (.getfield 10, 3) := by decide +kernel
theorem dX10_setPixel_4 : decode cX10_setPixel 4 = .ok (.getfield 61, 3) := by decide +kernel
theorem dX10_setPixel_7 : decode cX10_setPixel 7 = .ok (.iload_n 1, 1) := by decide +kernel
theorem dX10_setPixel_8 : decode cX10_setPixel 8 = .ok (.iload_n 2, 1) := by decide +kernel
theorem dX10_setPixel_9 : decode cX10_setPixel 9 = .ok (.invokevirtual 80, 3) := by decide +kernel
theorem dX10_setPixel_12 : decode cX10_setPixel 12 = .ok (.ifCond .eq 14, 3) := by decide +kernel
theorem dX10_setPixel_15 : decode cX10_setPixel 15 = .ok (.iload_n 3, 1) := by decide +kernel
theorem dX10_setPixel_16 : decode cX10_setPixel 16 = .ok (.iconst 0, 1) := by decide +kernel
theorem dX10_setPixel_17 : decode cX10_setPixel 17 = .ok (.sipush 255, 3) := by decide +kernel
theorem dX10_setPixel_20 : decode cX10_setPixel 20 = .ok (.invokestatic 68, 3) := by decide +kernel
theorem dX10_setPixel_23 : decode cX10_setPixel 23 = .ok (.ifCond .ne 7, 3) := by decide +kernel
theorem dX10_setPixel_26 : decode cX10_setPixel 26 = .ok (.sipush (-1001), 3) := by decide +kernel
theorem dX10_setPixel_29 : decode cX10_setPixel 29 = .ok (.ireturn, 1) := by decide +kernel
theorem dX10_setPixel_30 : decode cX10_setPixel 30 = .ok (.aload_n 0, 1) := by decide +kernel
theorem dX10_setPixel_31 : decode cX10_setPixel 31 = .ok (.iload_n 1, 1) := by decide +kernel
theorem dX10_setPixel_32 : decode cX10_setPixel 32 = .ok (.iload_n 2, 1) := by decide +kernel
theorem dX10_setPixel_33 : decode cX10_setPixel 33 = .ok (.iload_n 1, 1) := by decide +kernel
theorem dX10_setPixel_34 : decode cX10_setPixel 34 = .ok (.iload_n 2, 1) := by decide +kernel
theorem dX10_setPixel_35 : decode cX10_setPixel 35 = .ok (.iload_n 3, 1) := by decide +kernel
theorem dX10_setPixel_36 : decode cX10_setPixel 36 = .ok (.invokevirtual 84, 3) := by decide +kernel
theorem dX10_setPixel_39 : decode cX10_setPixel 39 = .ok (.ireturn, 1) := by decide +kernel
theorem dX10_fillRectangle_0 : decode cX10_fillRectangle 0 = .ok (.aload_n 0, 1) := by decide +kernel
theorem dX10_fillRectangle_1 : decode cX10_fillRectangle 1 = .ok (.getfield 10, 3) := by decide +kernel
theorem dX10_fillRectangle_4 : decode cX10_fillRectangle 4 = .ok (.getfield 61, 3) := by decide +kernel
theorem dX10_fillRectangle_7 : decode cX10_fillRectangle 7 = .ok (.astore 6, 2) := by decide +kernel
theorem dX10_fillRectangle_9 : decode cX10_fillRectangle 9 = .ok (.aload 6, 2) := by decide +kernel
theorem dX10_fillRectangle_11 : decode cX10_fillRectangle 11 = .ok (.iload_n 1, 1) := by decide +kernel
theorem dX10_fillRectangle_12 : decode cX10_fillRectangle 12 = .ok (.iload_n 2, 1) := by decide +kernel
theorem dX10_fillRectangle_13 : decode cX10_fillRectangle 13 = .ok (.invokevirtual 80, 3) := by decide +kernel
theorem dX10_fillRectangle_16 : decode cX10_fillRectangle 16 = .ok (.ifCond .eq 38, 3) := by decide +kernel
theorem dX10_fillRectangle_19 : decode cX10_fillRectangle 19 = .ok (.iload_n 3, 1) := by decide +kernel
theorem dX10_fillRectangle_20 : decode cX10_fillRectangle 20 = .ok (.iconst 1, 1) := by decide +kernel
theorem dX10_fillRectangle_21 : decode cX10_fillRectangle 21 = .ok (.aload 6, 2) := by decide +kernel
theorem dX10_fillRectangle_23 : decode cX10_fillRectangle 23 = .ok (.getfield 88, 3) := by decide +kernel
theorem dX10_fillRectangle_26 : decode cX10_fillRectangle 26 = .ok (.iload_n 1, 1) := by decide +kernel
theorem dX10_fillRectangle_27 : decode cX10_fillRectangle 27 = .ok (.isub, 1) := by decide +kernel
theorem dX10_fillRectangle_28 : decode cX10_fillRectangle 28 = .ok (.invokestatic 68, 3) := by decide +kernel
theorem dX10_fillRectangle_31 : decode cX10_fillRectangle 31 = .ok (.ifCond .eq 23, 3) := by decide +kernel
theorem dX10_fillRectangle_34 : decode cX10_fillRectangle 34 = .ok (.iload 4, 2) := by decide +kernel
theorem dX10_fillRectangle_36 : decode cX10_fillRectangle 36 = .ok (.iconst 1, 1) := by decide +kernel
theorem dX10_fillRectangle_37 : decode cX10_fillRectangle 37 = .ok (.aload 6, 2) := by decide +kernel
theorem dX10_fillRectangle_39 : decode cX10_fillRectangle 39 = .ok (.getfield 92, 3) := by decide +kernel
theorem dX10_fillRectangle_42 : decode cX10_fillRectangle 42 = .ok (.iload_n 2, 1) := by decide +kernel
theorem dX10_fillRectangle_43 : decode cX10_fillRectangle 43 = .ok (.isub, 1) := by decide +kernel
theorem dX10_fillRectangle_44 : decode cX10_fillRectangle 44 = .ok (.invokestatic 68, 3) := by decide +kernel
theorem dX10_fillRectangle_47 : decode cX10_fillRectangle 47 = .ok (.ifCond .eq 7, 3) := by decide +kernel
theorem dX10_fillRectangle_50 : decode cX10_fillRectangle 50 = .ok (.iconst 1, 1) := by decide +kernel
theorem dX10_fillRectangle_51 : decode cX10_fillRectangle 51 = .ok (.goto 4, 3) := by decide +kernel
theorem dX10_fillRectangle_54 : decode cX10_fillRectangle 54 = .ok (.iconst 0, 1) := by decide +kernel
theorem dX10_fillRectangle_55 : decode cX10_fillRectangle 55 = .ok (.istore 7, 2) := by decide +kernel
theorem dX10_fillRectangle_57 : decode cX10_fillRectangle 57 = .ok (.iload 7, 2) := by decide +kernel
theorem dX10_fillRectangle_59 : decode cX10_fillRectangle 59 = .ok (.ifCond .eq 15, 3) := by decide +kernel
theorem dX10_fillRectangle_62 : decode cX10_fillRectangle 62 = .ok (.iload 5, 2) := by decide +kernel
theorem dX10_fillRectangle_64 : decode cX10_fillRectangle 64 = .ok (.iconst 0, 1) := by decide +kernel
theorem dX10_fillRectangle_65 : decode cX10_fillRectangle 65 = .ok (.sipush 255, 3) := by decide +kernel
theorem dX10_fillRectangle_68 : decode cX10_fillRectangle 68 = .ok (.invokestatic 68, 3) := by decide +kernel
theorem dX10_fillRectangle_71 : decode cX10_fillRectangle 71 = .ok (.ifCond .ne 7, 3) := by decide +kernel
theorem dX10_fillRectangle_74 : decode cX10_fillRectangle 74 = .ok (.sipush (-1001), 3) := by decide +kernel
theorem dX10_fillRectangle_77 : decode cX10_fillRectangle 77 = .ok (.ireturn, 1) := by decide +kernel
theorem dX10_fillRectangle_78 : decode cX10_fillRectangle 78 = .ok (.aload_n 0, 1) := by decide +kernel
theorem dX10_fillRectangle_79 : decode cX10_fillRectangle 79 = .ok (.iload_n 1, 1) := by decide +kernel
theorem dX10_fillRectangle_80 : decode cX10_fillRectangle 80 = .ok (.iload_n 2, 1) := by decide +kernel
theorem dX10_fillRectangle_81 : decode cX10_fillRectangle 81 = .ok (.iload_n 1, 1) := by decide +kernel
theorem dX10_fillRectangle_82 : decode cX10_fillRectangle 82 = .ok (.iload_n 3, 1) := by decide +kernel
theorem dX10_fillRectangle_83 : decode cX10_fillRectangle 83 = .ok (.iadd, 1) := by decide +kernel
theorem dX10_fillRectangle_84 : decode cX10_fillRectangle 84 = .ok (.iconst 1, 1) := by decide +kernel
theorem dX10_fillRectangle_85 : decode cX10_fillRectangle 85 = .ok (.isub, 1) := by decide +kernel
theorem dX10_fillRectangle_86 : decode cX10_fillRectangle 86 = .ok (.iload_n 2, 1) := by decide +kernel
theorem dX10_fillRectangle_87 : decode cX10_fillRectangle 87 = .ok (.iload 4, 2) := by decide +kernel
theorem dX10_fillRectangle_89 : decode cX10_fillRectangle 89 = .ok (.iadd, 1) := by decide +kernel
theorem dX10_fillRectangle_90 : decode cX10_fillRectangle 90 = .ok (.iconst 1, 1) := by decide +kernel
theorem dX10_fillRectangle_91 : decode cX10_fillRectangle 91 = .ok (.isub, 1) := by decide +kernel
theorem dX10_fillRectangle_92 : decode cX10_fillRectangle 92 = .ok (.iload 5, 2) := by decide +kernel
theorem dX10_fillRectangle_94 : decode cX10_fillRectangle 94 = .ok (.invokevirtual 84, 3) := by decide +kernel
theorem dX10_fillRectangle_97 : decode cX10_fillRectangle 97 = .ok (.ireturn, 1) := by decide +kernel
theorem dX10_size_0 : decode cX10_size 0 = .ok (.iload_n 1, 1) := by decide +kernel
theorem dX10_size_1 : decode cX10_size 1 = .ok (.tableswitch 95 0 5 #[39, 50, 61, 69, 77, 87], 39) := by decide +kernel
theorem dX10_size_40 : decode cX10_size 40 = .ok (.aload_n 0, 1) := by decide +kernel
theorem dX10_size_41 : decode cX10_size 41 = .ok (.getfield 10, 3) := by decide +kernel
theorem dX10_size_44 : decode cX10_size 44 = .ok (.getfield 61, 3) := by decide +kernel
theorem dX10_size_47 : decode cX10_size 47 = .ok (.getfield 88, 3) := by decide +kernel
theorem dX10_size_50 : decode cX10_size 50 = .ok (.ireturn, 1) := by decide +kernel
theorem dX10_size_51 : decode cX10_size 51 = .ok (.aload_n 0, 1) := by decide +kernel
theorem dX10_size_52 : decode cX10_size 52 = .ok (.getfield 10, 3) := by decide +kernel
theorem dX10_size_55 : decode cX10_size 55 = .ok (.getfield 61, 3) := by decide +kernel
theorem dX10_size_58 : decode cX10_size 58 = .ok (.getfield 92, 3) := by decide +kernel
theorem dX10_size_61 : decode cX10_size 61 = .ok (.ireturn, 1) := by decide +kernel
theorem dX10_size_62 : decode cX10_size 62 = .ok (.aload_n 0, 1) := by decide +kernel
theorem dX10_size_63 : decode cX10_size 63 = .ok (.getfield 10, 3) := by decide +kernel
theorem dX10_size_66 : decode cX10_size 66 = .ok (.invokevirtual 95, 3) := by decide +kernel
theorem dX10_size_69 : decode cX10_size 69 = .ok (.ireturn, 1) := by decide +kernel
theorem dX10_size_70 : decode cX10_size 70 = .ok (.aload_n 0, 1) := by decide +kernel
theorem dX10_size_71 : decode cX10_size 71 = .ok (.getfield 40, 3) := by decide +kernel
theorem dX10_size_74 : decode cX10_size 74 = .ok (.getfield 98, 3) := by decide +kernel
theorem dX10_size_77 : decode cX10_size 77 = .ok (.ireturn, 1) := by decide +kernel
theorem dX10_size_78 : decode cX10_size 78 = .ok (.aload_n 0, 1) := by decide +kernel
theorem dX10_size_79 : decode cX10_size 79 = .ok (.invokevirtual 101, 3) := by decide +kernel
theorem dX10_size_82 : decode cX10_size 82 = .ok (.aload_n 0, 1) := by decide +kernel
theorem dX10_size_83 : decode cX10_size 83 = .ok (.invokevirtual 104, 3) := by decide +kernel
theorem dX10_size_86 : decode cX10_size 86 = .ok (.imul, 1) := by decide +kernel
theorem dX10_size_87 : decode cX10_size 87 = .ok (.ireturn, 1) := by decide +kernel
theorem dX10_size_88 : decode cX10_size 88 = .ok (.aload_n 0, 1) := by decide +kernel
theorem dX10_size_89 : decode cX10_size 89 = .ok (.getfield 40, 3) := by decide +kernel
theorem dX10_size_92 : decode cX10_size 92 = .ok (.getfield 107, 3) := by decide +kernel
theorem dX10_size_95 : decode cX10_size 95 = .ok (.ireturn, 1) := by decide +kernel
theorem dX10_size_96 : decode cX10_size 96 = .ok (.sipush (-1001), 3) := by decide +kernel
theorem dX10_size_99 : decode cX10_size 99 = .ok (.ireturn, 1) := by decide +kernel
theorem dX10_paint_0 : decode cX10_paint 0 = .ok (.aload_n 0, 1) := by decide +kernel
theorem dX10_paint_1 : decode cX10_paint 1 = .ok (.getfield 22, 3) := by decide +kernel
theorem dX10_paint_4 : decode cX10_paint 4 = .ok (.aload_n 0, 1) := by decide +kernel
theorem dX10_paint_5 : decode cX10_paint 5 = .ok (.getfield 10, 3) := by decide +kernel
theorem dX10_paint_8 : decode cX10_paint 8 = .ok (.invokevirtual 72, 3) := by decide +kernel
theorem dX10_paint_11 : decode cX10_paint 11 = .ok (.iload_n 2, 1) := by decide +kernel
theorem dX10_paint_12 : decode cX10_paint 12 = .ok (.istore 6, 2) := by decide +kernel
theorem dX10_paint_14 : decode cX10_paint 14 = .ok (.iload 6, 2) := by decide +kernel
theorem dX10_paint_16 : decode cX10_paint 16 = .ok (.iload 4, 2) := by decide +kernel
theorem dX10_paint_18 : decode cX10_paint 18 = .ok (.if_icmp .gt 40, 3) := by decide +kernel
theorem dX10_paint_21 : decode cX10_paint 21 = .ok (.iload_n 1, 1) := by decide +kernel
theorem dX10_paint_22 : decode cX10_paint 22 = .ok (.istore 7, 2) := by decide +kernel
theorem dX10_paint_24 : decode cX10_paint 24 = .ok (.iload 7, 2) := by decide +kernel
theorem dX10_paint_26 : decode cX10_paint 26 = .ok (.iload_n 3, 1) := by decide +kernel
theorem dX10_paint_27 : decode cX10_paint 27 = .ok (.if_icmp .gt 25, 3) := by decide +kernel
theorem dX10_paint_30 : decode cX10_paint 30 = .ok (.aload_n 0, 1) := by decide +kernel
theorem dX10_paint_31 : decode cX10_paint 31 = .ok (.getfield 10, 3) := by decide +kernel
theorem dX10_paint_34 : decode cX10_paint 34 = .ok (.getfield 61, 3) := by decide +kernel
theorem dX10_paint_37 : decode cX10_paint 37 = .ok (.iload 7, 2) := by decide +kernel
theorem dX10_paint_39 : decode cX10_paint 39 = .ok (.iload 6, 2) := by decide +kernel
theorem dX10_paint_41 : decode cX10_paint 41 = .ok (.iload 5, 2) := by decide +kernel
theorem dX10_paint_43 : decode cX10_paint 43 = .ok (.invokevirtual 110, 3) := by decide +kernel
theorem dX10_paint_46 : decode cX10_paint 46 = .ok (.iinc 7 1, 3) := by decide +kernel
theorem dX10_paint_49 : decode cX10_paint 49 = .ok (.goto (-25), 3) := by decide +kernel
theorem dX10_paint_52 : decode cX10_paint 52 = .ok (.iinc 6 1, 3) := by decide +kernel
theorem dX10_paint_55 : decode cX10_paint 55 = .ok (.goto (-41), 3) := by decide +kernel
theorem dX10_paint_58 : decode cX10_paint 58 = .ok (.aload_n 0, 1) := by decide +kernel
theorem dX10_paint_59 : decode cX10_paint 59 = .ok (.iload_n 1, 1) := by decide +kernel
theorem dX10_paint_60 : decode cX10_paint 60 = .ok (.iload_n 2, 1) := by decide +kernel
theorem dX10_paint_61 : decode cX10_paint 61 = .ok (.iload_n 3, 1) := by decide +kernel
theorem dX10_paint_62 : decode cX10_paint 62 = .ok (.iload 4, 2) := by decide +kernel
theorem dX10_paint_64 : decode cX10_paint 64 = .ok (.invokevirtual 114, 3) := by decide +kernel
theorem dX10_paint_67 : decode cX10_paint 67 = .ok (.ireturn, 1) := by decide +kernel
theorem dX10_removeTilesThatSee_0 : decode cX10_removeTilesThatSee 0 = .ok (.iconst 0, 1) := by decide +kernel
theorem dX10_removeTilesThatSee_1 : decode cX10_removeTilesThatSee 1 = .ok (.istore 5, 2) := by decide +kernel
theorem dX10_removeTilesThatSee_3 : decode cX10_removeTilesThatSee 3 = .ok (.iconst 0, 1) := by decide +kernel
theorem dX10_removeTilesThatSee_4 : decode cX10_removeTilesThatSee 4 = .ok (.istore 6, 2) := by decide +kernel
theorem dX10_removeTilesThatSee_6 : decode cX10_removeTilesThatSee 6 = .ok (.iconst 0, 1) := by decide +kernel
theorem dX10_removeTilesThatSee_7 : decode cX10_removeTilesThatSee 7 = .ok (.istore 7, 2) := by decide +kernel
theorem dX10_removeTilesThatSee_9 : decode cX10_removeTilesThatSee 9 = .ok (.iload 7, 2) := by decide +kernel
theorem dX10_removeTilesThatSee_11 : decode cX10_removeTilesThatSee 11 = .ok (.aload_n 0, 1) := by decide +kernel
theorem dX10_removeTilesThatSee_12 : decode cX10_removeTilesThatSee 12 = .ok (.getfield 10, 3) := by decide +kernel
theorem dX10_removeTilesThatSee_15 : decode cX10_removeTilesThatSee 15 = .ok (.invokevirtual 95, 3) := by decide +kernel
theorem dX10_removeTilesThatSee_18 : decode cX10_removeTilesThatSee 18 = .ok (.if_icmp .ge 112, 3) := by decide +kernel
theorem dX10_removeTilesThatSee_21 : decode cX10_removeTilesThatSee 21 = .ok (.aload_n 0, 1) := by decide +kernel
theorem dX10_removeTilesThatSee_22 : decode cX10_removeTilesThatSee 22 = .ok (.getfield 10, 3) := by decide +kernel
theorem dX10_removeTilesThatSee_25 : decode cX10_removeTilesThatSee 25 = .ok (.iload 7, 2) := by decide +kernel
theorem dX10_removeTilesThatSee_27 : decode cX10_removeTilesThatSee 27 = .ok (.invokevirtual 118, 3) := by decide +kernel
theorem dX10_removeTilesThatSee_30 : decode cX10_removeTilesThatSee 30 = .ok (.astore 8, 2) := by decide +kernel
theorem dX10_removeTilesThatSee_32 : decode cX10_removeTilesThatSee 32 = .ok (.aload 8, 2) := by decide +kernel
theorem dX10_removeTilesThatSee_34 : decode cX10_removeTilesThatSee 34 = .ok (.ifnull 90, 3) := by decide +kernel
theorem dX10_removeTilesThatSee_37 : decode cX10_removeTilesThatSee 37 = .ok (.aload 8, 2) := by decide +kernel
theorem dX10_removeTilesThatSee_39 : decode cX10_removeTilesThatSee 39 = .ok (.getfield 122, 3) := by decide +kernel
theorem dX10_removeTilesThatSee_42 : decode cX10_removeTilesThatSee 42 = .ok (.ifCond .eq 82, 3) := by decide +kernel
theorem dX10_removeTilesThatSee_45 : decode cX10_removeTilesThatSee 45 = .ok (.iload 5, 2) := by decide +kernel
theorem dX10_removeTilesThatSee_47 : decode cX10_removeTilesThatSee 47 = .ok (.aload 8, 2) := by decide +kernel
theorem dX10_removeTilesThatSee_49 : decode cX10_removeTilesThatSee 49 = .ok (.invokevirtual 128, 3) := by decide +kernel
theorem dX10_removeTilesThatSee_52 : decode cX10_removeTilesThatSee 52 = .ok (.iadd, 1) := by decide +kernel
theorem dX10_removeTilesThatSee_53 : decode cX10_removeTilesThatSee 53 = .ok (.istore 5, 2) := by decide +kernel
theorem dX10_removeTilesThatSee_55 : decode cX10_removeTilesThatSee 55 = .ok (.iload 6, 2) := by decide +kernel
theorem dX10_removeTilesThatSee_57 : decode cX10_removeTilesThatSee 57 = .ok (.aload_n 0, 1) := by decide +kernel
theorem dX10_removeTilesThatSee_58 : decode cX10_removeTilesThatSee 58 = .ok (.getfield 40, 3) := by decide +kernel
theorem dX10_removeTilesThatSee_61 : decode cX10_removeTilesThatSee 61 = .ok (.iload 7, 2) := by decide +kernel
theorem dX10_removeTilesThatSee_63 : decode cX10_removeTilesThatSee 63 = .ok (.iload_n 1, 1) := by decide +kernel
theorem dX10_removeTilesThatSee_64 : decode cX10_removeTilesThatSee 64 = .ok (.iload 5, 2) := by decide +kernel
theorem dX10_removeTilesThatSee_66 : decode cX10_removeTilesThatSee 66 = .ok (.isub, 1) := by decide +kernel
theorem dX10_removeTilesThatSee_67 : decode cX10_removeTilesThatSee 67 = .ok (.iconst 0, 1) := by decide +kernel
theorem dX10_removeTilesThatSee_68 : decode cX10_removeTilesThatSee 68 = .ok (.invokestatic 131, 3) := by decide +kernel
theorem dX10_removeTilesThatSee_71 : decode cX10_removeTilesThatSee 71 = .ok (.iload_n 2, 1) := by decide +kernel
theorem dX10_removeTilesThatSee_72 : decode cX10_removeTilesThatSee 72 = .ok (.iload 5, 2) := by decide +kernel
theorem dX10_removeTilesThatSee_74 : decode cX10_removeTilesThatSee 74 = .ok (.isub, 1) := by decide +kernel
theorem dX10_removeTilesThatSee_75 : decode cX10_removeTilesThatSee 75 = .ok (.iconst 0, 1) := by decide +kernel
theorem dX10_removeTilesThatSee_76 : decode cX10_removeTilesThatSee 76 = .ok (.invokestatic 131, 3) := by decide +kernel
theorem dX10_removeTilesThatSee_79 : decode cX10_removeTilesThatSee 79 = .ok (.iload_n 3, 1) := by decide +kernel
theorem dX10_removeTilesThatSee_80 : decode cX10_removeTilesThatSee 80 = .ok (.iload 5, 2) := by decide +kernel
theorem dX10_removeTilesThatSee_82 : decode cX10_removeTilesThatSee 82 = .ok (.iadd, 1) := by decide +kernel
theorem dX10_removeTilesThatSee_83 : decode cX10_removeTilesThatSee 83 = .ok (.aload_n 0, 1) := by decide +kernel
theorem dX10_removeTilesThatSee_84 : decode cX10_removeTilesThatSee 84 = .ok (.getfield 10, 3) := by decide +kernel
theorem dX10_removeTilesThatSee_87 : decode cX10_removeTilesThatSee 87 = .ok (.getfield 61, 3) := by decide +kernel
theorem dX10_removeTilesThatSee_90 : decode cX10_removeTilesThatSee 90 = .ok (.getfield 88, 3) := by decide +kernel
theorem dX10_removeTilesThatSee_93 : decode cX10_removeTilesThatSee 93 = .ok (.iconst 1, 1) := by decide +kernel
theorem dX10_removeTilesThatSee_94 : decode cX10_removeTilesThatSee 94 = .ok (.isub, 1) := by decide +kernel
theorem dX10_removeTilesThatSee_95 : decode cX10_removeTilesThatSee 95 = .ok (.invokestatic 137, 3) := by decide +kernel
theorem dX10_removeTilesThatSee_98 : decode cX10_removeTilesThatSee 98 = .ok (.iload 4, 2) := by decide +kernel
theorem dX10_removeTilesThatSee_100 : decode cX10_removeTilesThatSee 100 = .ok (.iload 5, 2) := by decide +kernel
theorem dX10_removeTilesThatSee_102 : decode cX10_removeTilesThatSee 102 = .ok (.iadd, 1) := by decide +kernel
theorem dX10_removeTilesThatSee_103 : decode cX10_removeTilesThatSee 103 = .ok (.aload_n 0, 1) := by decide +kernel
theorem dX10_removeTilesThatSee_104 : decode cX10_removeTilesThatSee 104 = .ok (.getfield 10, 3) := by decide +kernel
theorem dX10_removeTilesThatSee_107 : decode cX10_removeTilesThatSee 107 = .ok (.getfield 61, 3) := by decide +kernel
theorem dX10_removeTilesThatSee_110 : decode cX10_removeTilesThatSee 110 = .ok (.getfield 92, 3) := by decide +kernel
theorem dX10_removeTilesThatSee_113 : decode cX10_removeTilesThatSee 113 = .ok (.iconst 1, 1) := by decide +kernel
theorem dX10_removeTilesThatSee_114 : decode cX10_removeTilesThatSee 114 = .ok (.isub, 1) := by decide +kernel
theorem dX10_removeTilesThatSee_115 : decode cX10_removeTilesThatSee 115 = .ok (.invokestatic 137, 3) := by decide +kernel
theorem dX10_removeTilesThatSee_118 : decode cX10_removeTilesThatSee 118 = .ok (.invokevirtual 140, 3) := by decide +kernel
theorem dX10_removeTilesThatSee_121 : decode cX10_removeTilesThatSee 121 = .ok (.iadd, 1) := by decide +kernel
theorem dX10_removeTilesThatSee_122 : decode cX10_removeTilesThatSee 122 = .ok (.istore 6, 2) := by decide +kernel
theorem dX10_removeTilesThatSee_124 : decode cX10_removeTilesThatSee 124 = .ok (.iinc 7 1, 3) := by decide +kernel
theorem dX10_removeTilesThatSee_127 : decode cX10_removeTilesThatSee 127 = .ok (.goto (-118), 3) := by decide +kernel
theorem dX10_removeTilesThatSee_130 : decode cX10_removeTilesThatSee 130 = .ok (.iload 6, 2) := by decide +kernel
theorem dX10_removeTilesThatSee_132 : decode cX10_removeTilesThatSee 132 = .ok (.ireturn, 1) := by decide +kernel
theorem dX10_addLayer_0 : decode cX10_addLayer 0 = .ok (.iload_n 1, 1) := by decide +kernel
theorem dX10_addLayer_1 : decode cX10_addLayer 1 = .ok (.iload_n 2, 1) := by decide +kernel
theorem dX10_addLayer_2 : decode cX10_addLayer 2 = .ok (.iload_n 3, 1) := by decide +kernel
theorem dX10_addLayer_3 : decode cX10_addLayer 3 = .ok (.invokestatic 143, 3) := by decide +kernel
theorem dX10_addLayer_6 : decode cX10_addLayer 6 = .ok (.ifCond .ne 7, 3) := by decide +kernel
theorem dX10_addLayer_9 : decode cX10_addLayer 9 = .ok (.sipush (-1001), 3) := by decide +kernel
theorem dX10_addLayer_12 : decode cX10_addLayer 12 = .ok (.ireturn, 1) := by decide +kernel
theorem dX10_addLayer_13 : decode cX10_addLayer 13 = .ok (.aload_n 0, 1) := by decide +kernel
theorem dX10_addLayer_14 : decode cX10_addLayer 14 = .ok (.getfield 10, 3) := by decide +kernel
theorem dX10_addLayer_17 : decode cX10_addLayer 17 = .ok (.invokevirtual 148, 3) := by decide +kernel
theorem dX10_addLayer_20 : decode cX10_addLayer 20 = .ok (.ifCond .eq 7, 3) := by decide +kernel
theorem dX10_addLayer_23 : decode cX10_addLayer 23 = .ok (.sipush (-1003), 3) := by decide +kernel
theorem dX10_addLayer_26 : decode cX10_addLayer 26 = .ok (.ireturn, 1) := by decide +kernel
theorem dX10_addLayer_27 : decode cX10_addLayer 27 = .ok (.aload_n 0, 1) := by decide +kernel
theorem dX10_addLayer_28 : decode cX10_addLayer 28 = .ok (.getfield 22, 3) := by decide +kernel
theorem dX10_addLayer_31 : decode cX10_addLayer 31 = .ok (.aload_n 0, 1) := by decide +kernel
theorem dX10_addLayer_32 : decode cX10_addLayer 32 = .ok (.getfield 10, 3) := by decide +kernel
theorem dX10_addLayer_35 : decode cX10_addLayer 35 = .ok (.invokevirtual 72, 3) := by decide +kernel
theorem dX10_addLayer_38 : decode cX10_addLayer 38 = .ok (.aload_n 0, 1) := by decide +kernel
theorem dX10_addLayer_39 : decode cX10_addLayer 39 = .ok (.getfield 10, 3) := by decide +kernel
theorem dX10_addLayer_42 : decode cX10_addLayer 42 = .ok (.iload_n 1, 1) := by decide +kernel
theorem dX10_addLayer_43 : decode cX10_addLayer 43 = .ok (.iload_n 2, 1) := by decide +kernel
theorem dX10_addLayer_44 : decode cX10_addLayer 44 = .ok (.iload_n 3, 1) := by decide +kernel
theorem dX10_addLayer_45 : decode cX10_addLayer 45 = .ok (.invokevirtual 152, 3) := by decide +kernel
theorem dX10_addLayer_48 : decode cX10_addLayer 48 = .ok (.pop, 1) := by decide +kernel
theorem dX10_addLayer_49 : decode cX10_addLayer 49 = .ok (.aload_n 0, 1) := by decide +kernel
theorem dX10_addLayer_50 : decode cX10_addLayer 50 = .ok (.getfield 10, 3) := by decide +kernel
theorem dX10_addLayer_53 : decode cX10_addLayer 53 = .ok (.invokevirtual 95, 3) := by decide +kernel
theorem dX10_addLayer_56 : decode cX10_addLayer 56 = .ok (.iconst 1, 1) := by decide +kernel
theorem dX10_addLayer_57 : decode cX10_addLayer 57 = .ok (.isub, 1) := by decide +kernel
theorem dX10_addLayer_58 : decode cX10_addLayer 58 = .ok (.ireturn, 1) := by decide +kernel
theorem dX10_setBlend_0 : decode cX10_setBlend 0 = .ok (.aload_n 0, 1) := by decide +kernel
theorem dX10_setBlend_1 : decode cX10_setBlend 1 = .ok (.getfield 10, 3) := by decide +kernel
theorem dX10_setBlend_4 : decode cX10_setBlend 4 = .ok (.iload_n 1, 1) := by decide +kernel
theorem dX10_setBlend_5 : decode cX10_setBlend 5 = .ok (.invokevirtual 118, 3) := by decide +kernel
theorem dX10_setBlend_8 : decode cX10_setBlend 8 = .ok (.astore 4, 2) := by decide +kernel
theorem dX10_setBlend_10 : decode cX10_setBlend 10 = .ok (.aload 4, 2) := by decide +kernel
theorem dX10_setBlend_12 : decode cX10_setBlend 12 = .ok (.ifnull 23, 3) := by decide +kernel
theorem dX10_setBlend_15 : decode cX10_setBlend 15 = .ok (.iload_n 2, 1) := by decide +kernel
theorem dX10_setBlend_16 : decode cX10_setBlend 16 = .ok (.iconst 0, 1) := by decide +kernel
theorem dX10_setBlend_17 : decode cX10_setBlend 17 = .ok (.bipush 7, 2) := by decide +kernel
theorem dX10_setBlend_19 : decode cX10_setBlend 19 = .ok (.invokestatic 68, 3) := by decide +kernel
theorem dX10_setBlend_22 : decode cX10_setBlend 22 = .ok (.ifCond .eq 13, 3) := by decide +kernel
theorem dX10_setBlend_25 : decode cX10_setBlend 25 = .ok (.iload_n 3, 1) := by decide +kernel
theorem dX10_setBlend_26 : decode cX10_setBlend 26 = .ok (.iconst 0, 1) := by decide +kernel
theorem dX10_setBlend_27 : decode cX10_setBlend 27 = .ok (.bipush 100, 2) := by decide +kernel
theorem dX10_setBlend_29 : decode cX10_setBlend 29 = .ok (.invokestatic 68, 3) := by decide +kernel
theorem dX10_setBlend_32 : decode cX10_setBlend 32 = .ok (.ifCond .ne 7, 3) := by decide +kernel
theorem dX10_setBlend_35 : decode cX10_setBlend 35 = .ok (.sipush (-1001), 3) := by decide +kernel
theorem dX10_setBlend_38 : decode cX10_setBlend 38 = .ok (.ireturn, 1) := by decide +kernel
theorem dX10_setBlend_39 : decode cX10_setBlend 39 = .ok (.aload 4, 2) := by decide +kernel
theorem dX10_setBlend_41 : decode cX10_setBlend 41 = .ok (.getfield 169, 3) := by decide +kernel
theorem dX10_setBlend_44 : decode cX10_setBlend 44 = .ok (.istore 5, 2) := by decide +kernel
theorem dX10_setBlend_46 : decode cX10_setBlend 46 = .ok (.aload_n 0, 1) := by decide +kernel
theorem dX10_setBlend_47 : decode cX10_setBlend 47 = .ok (.iload_n 1, 1) := by decide +kernel
theorem dX10_setBlend_48 : decode cX10_setBlend 48 = .ok (.invokevirtual 162, 3) := by decide +kernel
theorem dX10_setBlend_51 : decode cX10_setBlend 51 = .ok (.aload 4, 2) := by decide +kernel
theorem dX10_setBlend_53 : decode cX10_setBlend 53 = .ok (.iload_n 2, 1) := by decide +kernel
theorem dX10_setBlend_54 : decode cX10_setBlend 54 = .ok (.putfield 172, 3) := by decide +kernel
theorem dX10_setBlend_57 : decode cX10_setBlend 57 = .ok (.aload 4, 2) := by decide +kernel
theorem dX10_setBlend_59 : decode cX10_setBlend 59 = .ok (.iload_n 3, 1) := by decide +kernel
theorem dX10_setBlend_60 : decode cX10_setBlend 60 = .ok (.putfield 169, 3) := by decide +kernel
theorem dX10_setBlend_63 : decode cX10_setBlend 63 = .ok (.iload 5, 2) := by decide +kernel
theorem dX10_setBlend_65 : decode cX10_setBlend 65 = .ok (.ireturn, 1) := by decide +kernel
theorem dX10_setEnabled_0 : decode cX10_setEnabled 0 = .ok (.aload_n 0, 1) := by decide +kernel
theorem dX10_setEnabled_1 : decode cX10_setEnabled 1 = .ok (.getfield 10, 3) := by decide +kernel
theorem dX10_setEnabled_4 : decode cX10_setEnabled 4 = .ok (.iload_n 1, 1) := by decide +kernel
theorem dX10_setEnabled_5 : decode cX10_setEnabled 5 = .ok (.invokevirtual 118, 3) := by decide +kernel
theorem dX10_setEnabled_8 : decode cX10_setEnabled 8 = .ok (.astore_n 3, 1) := by decide +kernel
theorem dX10_setEnabled_9 : decode cX10_setEnabled 9 = .ok (.aload_n 3, 1) := by decide +kernel
theorem dX10_setEnabled_10 : decode cX10_setEnabled 10 = .ok (.ifnull 12, 3) := by decide +kernel
theorem dX10_setEnabled_13 : decode cX10_setEnabled 13 = .ok (.iload_n 2, 1) := by decide +kernel
theorem dX10_setEnabled_14 : decode cX10_setEnabled 14 = .ok (.iconst 0, 1) := by decide +kernel
theorem dX10_setEnabled_15 : decode cX10_setEnabled 15 = .ok (.iconst 1, 1) := by decide +kernel
theorem dX10_setEnabled_16 : decode cX10_setEnabled 16 = .ok (.invokestatic 68, 3) := by decide +kernel
theorem dX10_setEnabled_19 : decode cX10_setEnabled 19 = .ok (.ifCond .ne 7, 3) := by decide +kernel
theorem dX10_setEnabled_22 : decode cX10_setEnabled 22 = .ok (.sipush (-1001), 3) := by decide +kernel
theorem dX10_setEnabled_25 : decode cX10_setEnabled 25 = .ok (.ireturn, 1) := by decide +kernel
theorem dX10_setEnabled_26 : decode cX10_setEnabled 26 = .ok (.iload_n 2, 1) := by decide +kernel
theorem dX10_setEnabled_27 : decode cX10_setEnabled 27 = .ok (.iconst 1, 1) := by decide +kernel
theorem dX10_setEnabled_28 : decode cX10_setEnabled 28 = .ok (.if_icmp .ne 7, 3) := by decide +kernel
theorem dX10_setEnabled_31 : decode cX10_setEnabled 31 = .ok (.iconst 1, 1) := by decide +kernel
theorem dX10_setEnabled_32 : decode cX10_setEnabled 32 = .ok (.goto 4, 3) := by decide +kernel
theorem dX10_setEnabled_35 : decode cX10_setEnabled 35 = .ok (.iconst 0, 1) := by decide +kernel
theorem dX10_setEnabled_36 : decode cX10_setEnabled 36 = .ok (.istore 4, 2) := by decide +kernel
theorem dX10_setEnabled_38 : decode cX10_setEnabled 38 = .ok (.aload_n 3, 1) := by decide +kernel
theorem dX10_setEnabled_39 : decode cX10_setEnabled 39 = .ok (.getfield 122, 3) := by decide +kernel
theorem dX10_setEnabled_42 : decode cX10_setEnabled 42 = .ok (.iload 4, 2) := by decide +kernel
theorem dX10_setEnabled_44 : decode cX10_setEnabled 44 = .ok (.if_icmp .ne 7, 3) := by decide +kernel
theorem dX10_setEnabled_47 : decode cX10_setEnabled 47 = .ok (.sipush (-1002), 3) := by decide +kernel
theorem dX10_setEnabled_50 : decode cX10_setEnabled 50 = .ok (.ireturn, 1) := by decide +kernel
theorem dX10_setEnabled_51 : decode cX10_setEnabled 51 = .ok (.aload_n 0, 1) := by decide +kernel
theorem dX10_setEnabled_52 : decode cX10_setEnabled 52 = .ok (.iload_n 1, 1) := by decide +kernel
theorem dX10_setEnabled_53 : decode cX10_setEnabled 53 = .ok (.invokevirtual 162, 3) := by decide +kernel
theorem dX10_setEnabled_56 : decode cX10_setEnabled 56 = .ok (.aload_n 3, 1) := by decide +kernel
theorem dX10_setEnabled_57 : decode cX10_setEnabled 57 = .ok (.iload 4, 2) := by decide +kernel
theorem dX10_setEnabled_59 : decode cX10_setEnabled 59 = .ok (.putfield 122, 3) := by decide +kernel
theorem dX10_setEnabled_62 : decode cX10_setEnabled 62 = .ok (.aload_n 0, 1) := by decide +kernel
theorem dX10_setEnabled_63 : decode cX10_setEnabled 63 = .ok (.getfield 10, 3) := by decide +kernel
theorem dX10_setEnabled_66 : decode cX10_setEnabled 66 = .ok (.invokevirtual 175, 3) := by decide +kernel
theorem dX10_setEnabled_69 : decode cX10_setEnabled 69 = .ok (.ireturn, 1) := by decide +kernel
theorem dX10_moveLayer_0 : decode cX10_moveLayer 0 = .ok (.aload_n 0, 1) := by decide +kernel
theorem dX10_moveLayer_1 : decode cX10_moveLayer 1 = .ok (.getfield 10, 3) := by decide +kernel
theorem dX10_moveLayer_4 : decode cX10_moveLayer 4 = .ok (.iload_n 1, 1) := by decide +kernel
theorem dX10_moveLayer_5 : decode cX10_moveLayer 5 = .ok (.invokevirtual 118, 3) := by decide +kernel
theorem dX10_moveLayer_8 : decode cX10_moveLayer 8 = .ok (.astore_n 3, 1) := by decide +kernel
theorem dX10_moveLayer_9 : decode cX10_moveLayer 9 = .ok (.aload_n 3, 1) := by decide +kernel
theorem dX10_moveLayer_10 : decode cX10_moveLayer 10 = .ok (.ifnull 19, 3) := by decide +kernel
theorem dX10_moveLayer_13 : decode cX10_moveLayer 13 = .ok (.aload_n 0, 1) := by decide +kernel
theorem dX10_moveLayer_14 : decode cX10_moveLayer 14 = .ok (.getfield 10, 3) := by decide +kernel
theorem dX10_moveLayer_17 : decode cX10_moveLayer 17 = .ok (.iload_n 2, 1) := by decide +kernel
theorem dX10_moveLayer_18 : decode cX10_moveLayer 18 = .ok (.invokevirtual 118, 3) := by decide +kernel
theorem dX10_moveLayer_21 : decode cX10_moveLayer 21 = .ok (.ifnull 8, 3) := by decide +kernel
theorem dX10_moveLayer_24 : decode cX10_moveLayer 24 = .ok (.iload_n 1, 1) := by decide +kernel
theorem dX10_moveLayer_25 : decode cX10_moveLayer 25 = .ok (.iload_n 2, 1) := by decide +kernel
theorem dX10_moveLayer_26 : decode cX10_moveLayer 26 = .ok (.if_icmp .ne 7, 3) := by decide +kernel
theorem dX10_moveLayer_29 : decode cX10_moveLayer 29 = .ok (.sipush (-1001), 3) := by decide +kernel
theorem dX10_moveLayer_32 : decode cX10_moveLayer 32 = .ok (.ireturn, 1) := by decide +kernel
theorem dX10_moveLayer_33 : decode cX10_moveLayer 33 = .ok (.aload_n 0, 1) := by decide +kernel
theorem dX10_moveLayer_34 : decode cX10_moveLayer 34 = .ok (.iload_n 1, 1) := by decide +kernel
theorem dX10_moveLayer_35 : decode cX10_moveLayer 35 = .ok (.iload_n 2, 1) := by decide +kernel
theorem dX10_moveLayer_36 : decode cX10_moveLayer 36 = .ok (.invokestatic 137, 3) := by decide +kernel
theorem dX10_moveLayer_39 : decode cX10_moveLayer 39 = .ok (.invokevirtual 162, 3) := by decide +kernel
theorem dX10_moveLayer_42 : decode cX10_moveLayer 42 = .ok (.aload_n 0, 1) := by decide +kernel
theorem dX10_moveLayer_43 : decode cX10_moveLayer 43 = .ok (.getfield 10, 3) := by decide +kernel
theorem dX10_moveLayer_46 : decode cX10_moveLayer 46 = .ok (.iload_n 1, 1) := by decide +kernel
theorem dX10_moveLayer_47 : decode cX10_moveLayer 47 = .ok (.iload_n 2, 1) := by decide +kernel
theorem dX10_moveLayer_48 : decode cX10_moveLayer 48 = .ok (.invokevirtual 178, 3) := by decide +kernel
theorem dX10_moveLayer_51 : decode cX10_moveLayer 51 = .ok (.aload_n 3, 1) := by decide +kernel
theorem dX10_moveLayer_52 : decode cX10_moveLayer 52 = .ok (.getfield 156, 3) := by decide +kernel
theorem dX10_moveLayer_55 : decode cX10_moveLayer 55 = .ok (.ireturn, 1) := by decide +kernel
theorem dX10_duplicateLayer_0 : decode cX10_duplicateLayer 0 = .ok (.aload_n 0, 1) := by decide +kernel
theorem dX10_duplicateLayer_1 : decode cX10_duplicateLayer 1 = .ok (.getfield 10, 3) := by decide +kernel
theorem dX10_duplicateLayer_4 : decode cX10_duplicateLayer 4 = .ok (.iload_n 1, 1) := by decide +kernel
theorem dX10_duplicateLayer_5 : decode cX10_duplicateLayer 5 = .ok (.invokevirtual 118, 3) := by decide +kernel
theorem dX10_duplicateLayer_8 : decode cX10_duplicateLayer 8 = .ok (.ifnonnull 7, 3) := by decide +kernel
theorem dX10_duplicateLayer_11 : decode cX10_duplicateLayer 11 = .ok (.sipush (-1001), 3) := by decide +kernel
theorem dX10_duplicateLayer_14 : decode cX10_duplicateLayer 14 = .ok (.ireturn, 1) := by decide +kernel
theorem dX10_duplicateLayer_15 : decode cX10_duplicateLayer 15 = .ok (.aload_n 0, 1) := by decide +kernel
theorem dX10_duplicateLayer_16 : decode cX10_duplicateLayer 16 = .ok (.getfield 10, 3) := by decide +kernel
theorem dX10_duplicateLayer_19 : decode cX10_duplicateLayer 19 = .ok (.invokevirtual 148, 3) := by decide +kernel
theorem dX10_duplicateLayer_22 : decode cX10_duplicateLayer 22 = .ok (.ifCond .eq 7, 3) := by decide +kernel
theorem dX10_duplicateLayer_25 : decode cX10_duplicateLayer 25 = .ok (.sipush (-1003), 3) := by decide +kernel
theorem dX10_duplicateLayer_28 : decode cX10_duplicateLayer 28 = .ok (.ireturn, 1) := by decide +kernel
theorem dX10_duplicateLayer_29 : decode cX10_duplicateLayer 29 = .ok (.aload_n 0, 1) := by decide +kernel
theorem dX10_duplicateLayer_30 : decode cX10_duplicateLayer 30 = .ok (.iload_n 1, 1) := by decide +kernel
theorem dX10_duplicateLayer_31 : decode cX10_duplicateLayer 31 = .ok (.iconst 1, 1) := by decide +kernel
theorem dX10_duplicateLayer_32 : decode cX10_duplicateLayer 32 = .ok (.iadd, 1) := by decide +kernel
theorem dX10_duplicateLayer_33 : decode cX10_duplicateLayer 33 = .ok (.invokevirtual 162, 3) := by decide +kernel
theorem dX10_duplicateLayer_36 : decode cX10_duplicateLayer 36 = .ok (.aload_n 0, 1) := by decide +kernel
theorem dX10_duplicateLayer_37 : decode cX10_duplicateLayer 37 = .ok (.getfield 10, 3) := by decide +kernel
theorem dX10_duplicateLayer_40 : decode cX10_duplicateLayer 40 = .ok (.iload_n 1, 1) := by decide +kernel
theorem dX10_duplicateLayer_41 : decode cX10_duplicateLayer 41 = .ok (.invokevirtual 181, 3) := by decide +kernel
theorem dX10_duplicateLayer_44 : decode cX10_duplicateLayer 44 = .ok (.iload_n 1, 1) := by decide +kernel
theorem dX10_duplicateLayer_45 : decode cX10_duplicateLayer 45 = .ok (.iconst 1, 1) := by decide +kernel
theorem dX10_duplicateLayer_46 : decode cX10_duplicateLayer 46 = .ok (.iadd, 1) := by decide +kernel
theorem dX10_duplicateLayer_47 : decode cX10_duplicateLayer 47 = .ok (.ireturn, 1) := by decide +kernel
theorem dX10_removeLayer_0 : decode cX10_removeLayer 0 = .ok (.aload_n 0, 1) := by decide +kernel
theorem dX10_removeLayer_1 : decode cX10_removeLayer 1 = .ok (.getfield 10, 3) := by decide +kernel
theorem dX10_removeLayer_4 : decode cX10_removeLayer 4 = .ok (.iload_n 1, 1) := by decide +kernel
theorem dX10_removeLayer_5 : decode cX10_removeLayer 5 = .ok (.invokevirtual 118, 3) := by decide +kernel
theorem dX10_removeLayer_8 : decode cX10_removeLayer 8 = .ok (.ifnonnull 7, 3) := by decide +kernel
theorem dX10_removeLayer_11 : decode cX10_removeLayer 11 = .ok (.sipush (-1001), 3) := by decide +kernel
theorem dX10_removeLayer_14 : decode cX10_removeLayer 14 = .ok (.ireturn, 1) := by decide +kernel
theorem dX10_removeLayer_15 : decode cX10_removeLayer 15 = .ok (.aload_n 0, 1) := by decide +kernel
theorem dX10_removeLayer_16 : decode cX10_removeLayer 16 = .ok (.iload_n 1, 1) := by decide +kernel
theorem dX10_removeLayer_17 : decode cX10_removeLayer 17 = .ok (.invokevirtual 162, 3) := by decide +kernel
theorem dX10_removeLayer_20 : decode cX10_removeLayer 20 = .ok (.aload_n 0, 1) := by decide +kernel
theorem dX10_removeLayer_21 : decode cX10_removeLayer 21 = .ok (.getfield 10, 3) := by decide +kernel
theorem dX10_removeLayer_24 : decode cX10_removeLayer 24 = .ok (.iload_n 1, 1) := by decide +kernel
theorem dX10_removeLayer_25 : decode cX10_removeLayer 25 = .ok (.invokevirtual 184, 3) := by decide +kernel
theorem dX10_removeLayer_28 : decode cX10_removeLayer 28 = .ok (.aload_n 0, 1) := by decide +kernel
theorem dX10_removeLayer_29 : decode cX10_removeLayer 29 = .ok (.getfield 10, 3) := by decide +kernel
theorem dX10_removeLayer_32 : decode cX10_removeLayer 32 = .ok (.invokevirtual 95, 3) := by decide +kernel
theorem dX10_removeLayer_35 : decode cX10_removeLayer 35 = .ok (.ireturn, 1) := by decide +kernel
theorem dX10_flatten_0 : decode cX10_flatten 0 = .ok (.aload_n 0, 1) := by decide +kernel
theorem dX10_flatten_1 : decode cX10_flatten 1 = .ok (.getfield 10, 3) := by decide +kernel
theorem dX10_flatten_4 : decode cX10_flatten 4 = .ok (.iload_n 1, 1) := by decide +kernel
theorem dX10_flatten_5 : decode cX10_flatten 5 = .ok (.invokevirtual 118, 3) := by decide +kernel
theorem dX10_flatten_8 : decode cX10_flatten 8 = .ok (.ifnonnull 7, 3) := by decide +kernel
theorem dX10_flatten_11 : decode cX10_flatten 11 = .ok (.sipush (-1001), 3) := by decide +kernel
theorem dX10_flatten_14 : decode cX10_flatten 14 = .ok (.ireturn, 1) := by decide +kernel
theorem dX10_flatten_15 : decode cX10_flatten 15 = .ok (.aload_n 0, 1) := by decide +kernel
theorem dX10_flatten_16 : decode cX10_flatten 16 = .ok (.getfield 22, 3) := by decide +kernel
theorem dX10_flatten_19 : decode cX10_flatten 19 = .ok (.aload_n 0, 1) := by decide +kernel
theorem dX10_flatten_20 : decode cX10_flatten 20 = .ok (.getfield 10, 3) := by decide +kernel
theorem dX10_flatten_23 : decode cX10_flatten 23 = .ok (.invokevirtual 72, 3) := by decide +kernel
theorem dX10_flatten_26 : decode cX10_flatten 26 = .ok (.aload_n 0, 1) := by decide +kernel
theorem dX10_flatten_27 : decode cX10_flatten 27 = .ok (.getfield 47, 3) := by decide +kernel
theorem dX10_flatten_30 : decode cX10_flatten 30 = .ok (.aload_n 0, 1) := by decide +kernel
theorem dX10_flatten_31 : decode cX10_flatten 31 = .ok (.getfield 10, 3) := by decide +kernel
theorem dX10_flatten_34 : decode cX10_flatten 34 = .ok (.iload_n 1, 1) := by decide +kernel
theorem dX10_flatten_35 : decode cX10_flatten 35 = .ok (.aload_n 0, 1) := by decide +kernel
theorem dX10_flatten_36 : decode cX10_flatten 36 = .ok (.getfield 54, 3) := by decide +kernel
theorem dX10_flatten_39 : decode cX10_flatten 39 = .ok (.invokevirtual 187, 3) := by decide +kernel
theorem dX10_flatten_42 : decode cX10_flatten 42 = .ok (.aload_n 0, 1) := by decide +kernel
theorem dX10_flatten_43 : decode cX10_flatten 43 = .ok (.getfield 10, 3) := by decide +kernel
theorem dX10_flatten_46 : decode cX10_flatten 46 = .ok (.getfield 61, 3) := by decide +kernel
theorem dX10_flatten_49 : decode cX10_flatten 49 = .ok (.aload_n 0, 1) := by decide +kernel
theorem dX10_flatten_50 : decode cX10_flatten 50 = .ok (.getfield 54, 3) := by decide +kernel
theorem dX10_flatten_53 : decode cX10_flatten 53 = .ok (.invokevirtual 191, 3) := by decide +kernel
theorem dX10_flatten_56 : decode cX10_flatten 56 = .ok (.iconst 0, 1) := by decide +kernel
theorem dX10_flatten_57 : decode cX10_flatten 57 = .ok (.istore_n 2, 1) := by decide +kernel
theorem dX10_flatten_58 : decode cX10_flatten 58 = .ok (.iload_n 2, 1) := by decide +kernel
theorem dX10_flatten_59 : decode cX10_flatten 59 = .ok (.iload_n 1, 1) := by decide +kernel
theorem dX10_flatten_60 : decode cX10_flatten 60 = .ok (.if_icmp .gt 17, 3) := by decide +kernel
theorem dX10_flatten_63 : decode cX10_flatten 63 = .ok (.aload_n 0, 1) := by decide +kernel
theorem dX10_flatten_64 : decode cX10_flatten 64 = .ok (.getfield 10, 3) := by decide +kernel
theorem dX10_flatten_67 : decode cX10_flatten 67 = .ok (.iconst 0, 1) := by decide +kernel
theorem dX10_flatten_68 : decode cX10_flatten 68 = .ok (.invokevirtual 184, 3) := by decide +kernel
theorem dX10_flatten_71 : decode cX10_flatten 71 = .ok (.iinc 2 1, 3) := by decide +kernel
theorem dX10_flatten_74 : decode cX10_flatten 74 = .ok (.goto (-16), 3) := by decide +kernel
theorem dX10_flatten_77 : decode cX10_flatten 77 = .ok (.aload_n 0, 1) := by decide +kernel
theorem dX10_flatten_78 : decode cX10_flatten 78 = .ok (.getfield 40, 3) := by decide +kernel
theorem dX10_flatten_81 : decode cX10_flatten 81 = .ok (.iload_n 1, 1) := by decide +kernel
theorem dX10_flatten_82 : decode cX10_flatten 82 = .ok (.iconst 1, 1) := by decide +kernel
theorem dX10_flatten_83 : decode cX10_flatten 83 = .ok (.iadd, 1) := by decide +kernel
theorem dX10_flatten_84 : decode cX10_flatten 84 = .ok (.invokevirtual 195, 3) := by decide +kernel
theorem dX10_flatten_87 : decode cX10_flatten 87 = .ok (.aload_n 0, 1) := by decide +kernel
theorem dX10_flatten_88 : decode cX10_flatten 88 = .ok (.getfield 10, 3) := by decide +kernel
theorem dX10_flatten_91 : decode cX10_flatten 91 = .ok (.invokevirtual 95, 3) := by decide +kernel
theorem dX10_flatten_94 : decode cX10_flatten 94 = .ok (.ireturn, 1) := by decide +kernel
theorem dX10_layer_0 : decode cX10_layer 0 = .ok (.aload_n 0, 1) := by decide +kernel
theorem dX10_layer_1 : decode cX10_layer 1 = .ok (.getfield 10, 3) := by decide +kernel
theorem dX10_layer_4 : decode cX10_layer 4 = .ok (.iload_n 1, 1) := by decide +kernel
theorem dX10_layer_5 : decode cX10_layer 5 = .ok (.invokevirtual 118, 3) := by decide +kernel
theorem dX10_layer_8 : decode cX10_layer 8 = .ok (.astore_n 3, 1) := by decide +kernel
theorem dX10_layer_9 : decode cX10_layer 9 = .ok (.aload_n 3, 1) := by decide +kernel
theorem dX10_layer_10 : decode cX10_layer 10 = .ok (.ifnonnull 7, 3) := by decide +kernel
theorem dX10_layer_13 : decode cX10_layer 13 = .ok (.sipush (-1001), 3) := by decide +kernel
theorem dX10_layer_16 : decode cX10_layer 16 = .ok (.ireturn, 1) := by decide +kernel
theorem dX10_layer_17 : decode cX10_layer 17 = .ok (.iload_n 2, 1) := by decide +kernel
theorem dX10_layer_18 : decode cX10_layer 18 = .ok (.tableswitch 117 0 8 #[50, 55, 64, 73, 78, 83, 96, 101, 109], 50) := by decide +kernel
theorem dX10_layer_68 : decode cX10_layer 68 = .ok (.aload_n 3, 1) := by decide +kernel
theorem dX10_layer_69 : decode cX10_layer 69 = .ok (.getfield 156, 3) := by decide +kernel
theorem dX10_layer_72 : decode cX10_layer 72 = .ok (.ireturn, 1) := by decide +kernel
theorem dX10_layer_73 : decode cX10_layer 73 = .ok (.aload_n 3, 1) := by decide +kernel
theorem dX10_layer_74 : decode cX10_layer 74 = .ok (.getfield 159, 3) := by decide +kernel
theorem dX10_layer_77 : decode cX10_layer 77 = .ok (.sipush 1000, 3) := by decide +kernel
theorem dX10_layer_80 : decode cX10_layer 80 = .ok (.iadd, 1) := by decide +kernel
theorem dX10_layer_81 : decode cX10_layer 81 = .ok (.ireturn, 1) := by decide +kernel
theorem dX10_layer_82 : decode cX10_layer 82 = .ok (.aload_n 3, 1) := by decide +kernel
theorem dX10_layer_83 : decode cX10_layer 83 = .ok (.getfield 166, 3) := by decide +kernel
theorem dX10_layer_86 : decode cX10_layer 86 = .ok (.sipush 1000, 3) := by decide +kernel
theorem dX10_layer_89 : decode cX10_layer 89 = .ok (.iadd, 1) := by decide +kernel
theorem dX10_layer_90 : decode cX10_layer 90 = .ok (.ireturn, 1) := by decide +kernel
theorem dX10_layer_91 : decode cX10_layer 91 = .ok (.aload_n 3, 1) := by decide +kernel
theorem dX10_layer_92 : decode cX10_layer 92 = .ok (.getfield 172, 3) := by decide +kernel
theorem dX10_layer_95 : decode cX10_layer 95 = .ok (.ireturn, 1) := by decide +kernel
theorem dX10_layer_96 : decode cX10_layer 96 = .ok (.aload_n 3, 1) := by decide +kernel
theorem dX10_layer_97 : decode cX10_layer 97 = .ok (.getfield 169, 3) := by decide +kernel
theorem dX10_layer_100 : decode cX10_layer 100 = .ok (.ireturn, 1) := by decide +kernel
theorem dX10_layer_101 : decode cX10_layer 101 = .ok (.aload_n 3, 1) := by decide +kernel
theorem dX10_layer_102 : decode cX10_layer 102 = .ok (.getfield 122, 3) := by decide +kernel
theorem dX10_layer_105 : decode cX10_layer 105 = .ok (.ifCond .eq 7, 3) := by decide +kernel
theorem dX10_layer_108 : decode cX10_layer 108 = .ok (.iconst 1, 1) := by decide +kernel
theorem dX10_layer_109 : decode cX10_layer 109 = .ok (.goto 4, 3) := by decide +kernel
theorem dX10_layer_112 : decode cX10_layer 112 = .ok (.iconst 0, 1) := by decide +kernel
theorem dX10_layer_113 : decode cX10_layer 113 = .ok (.ireturn, 1) := by decide +kernel
theorem dX10_layer_114 : decode cX10_layer 114 = .ok (.aload_n 3, 1) := by decide +kernel
theorem dX10_layer_115 : decode cX10_layer 115 = .ok (.invokevirtual 128, 3) := by decide +kernel
theorem dX10_layer_118 : decode cX10_layer 118 = .ok (.ireturn, 1) := by decide +kernel
theorem dX10_layer_119 : decode cX10_layer 119 = .ok (.aload_n 3, 1) := by decide +kernel
theorem dX10_layer_120 : decode cX10_layer 120 = .ok (.getfield 198, 3) := by decide +kernel
theorem dX10_layer_123 : decode cX10_layer 123 = .ok (.getfield 202, 3) := by decide +kernel
theorem dX10_layer_126 : decode cX10_layer 126 = .ok (.ireturn, 1) := by decide +kernel
theorem dX10_layer_127 : decode cX10_layer 127 = .ok (.aload_n 3, 1) := by decide +kernel
theorem dX10_layer_128 : decode cX10_layer 128 = .ok (.getfield 198, 3) := by decide +kernel
theorem dX10_layer_131 : decode cX10_layer 131 = .ok (.getfield 205, 3) := by decide +kernel
theorem dX10_layer_134 : decode cX10_layer 134 = .ok (.ireturn, 1) := by decide +kernel
theorem dX10_layer_135 : decode cX10_layer 135 = .ok (.sipush (-1001), 3) := by decide +kernel
theorem dX10_layer_138 : decode cX10_layer 138 = .ok (.ireturn, 1) := by decide +kernel
theorem dX10_startChangeOf_0 : decode cX10_startChangeOf 0 = .ok (.aload_n 0, 1) := by decide +kernel
theorem dX10_startChangeOf_1 : decode cX10_startChangeOf 1 = .ok (.getfield 22, 3) := by decide +kernel
theorem dX10_startChangeOf_4 : decode cX10_startChangeOf 4 = .ok (.aload_n 0, 1) := by decide +kernel
theorem dX10_startChangeOf_5 : decode cX10_startChangeOf 5 = .ok (.getfield 10, 3) := by decide +kernel
theorem dX10_startChangeOf_8 : decode cX10_startChangeOf 8 = .ok (.invokevirtual 72, 3) := by decide +kernel
theorem dX10_startChangeOf_11 : decode cX10_startChangeOf 11 = .ok (.aload_n 0, 1) := by decide +kernel
theorem dX10_startChangeOf_12 : decode cX10_startChangeOf 12 = .ok (.getfield 40, 3) := by decide +kernel
theorem dX10_startChangeOf_15 : decode cX10_startChangeOf 15 = .ok (.iload_n 1, 1) := by decide +kernel
theorem dX10_startChangeOf_16 : decode cX10_startChangeOf 16 = .ok (.invokevirtual 208, 3) := by decide +kernel
theorem dX10_startChangeOf_19 : decode cX10_startChangeOf 19 = .ok (.pop, 1) := by decide +kernel
theorem dX10_startChangeOf_20 : decode cX10_startChangeOf 20 = .ok (.return_, 1) := by decide +kernel
theorem dX10_setMask_0 : decode cX10_setMask 0 = .ok (.aload_n 0, 1) := by decide +kernel
theorem dX10_setMask_1 : decode cX10_setMask 1 = .ok (.getfield 10, 3) := by decide +kernel
theorem dX10_setMask_4 : decode cX10_setMask 4 = .ok (.iload_n 1, 1) := by decide +kernel
theorem dX10_setMask_5 : decode cX10_setMask 5 = .ok (.invokevirtual 118, 3) := by decide +kernel
theorem dX10_setMask_8 : decode cX10_setMask 8 = .ok (.astore 7, 2) := by decide +kernel
theorem dX10_setMask_10 : decode cX10_setMask 10 = .ok (.aload 7, 2) := by decide +kernel
theorem dX10_setMask_12 : decode cX10_setMask 12 = .ok (.ifnull 17, 3) := by decide +kernel
theorem dX10_setMask_15 : decode cX10_setMask 15 = .ok (.iload_n 2, 1) := by decide +kernel
theorem dX10_setMask_16 : decode cX10_setMask 16 = .ok (.iload_n 3, 1) := by decide +kernel
theorem dX10_setMask_17 : decode cX10_setMask 17 = .ok (.iload 4, 2) := by decide +kernel
theorem dX10_setMask_19 : decode cX10_setMask 19 = .ok (.iload 5, 2) := by decide +kernel
theorem dX10_setMask_21 : decode cX10_setMask 21 = .ok (.iload 6, 2) := by decide +kernel
theorem dX10_setMask_23 : decode cX10_setMask 23 = .ok (.invokestatic 212, 3) := by decide +kernel
theorem dX10_setMask_26 : decode cX10_setMask 26 = .ok (.ifCond .ne 7, 3) := by decide +kernel
theorem dX10_setMask_29 : decode cX10_setMask 29 = .ok (.sipush (-1001), 3) := by decide +kernel
theorem dX10_setMask_32 : decode cX10_setMask 32 = .ok (.ireturn, 1) := by decide +kernel
theorem dX10_setMask_33 : decode cX10_setMask 33 = .ok (.aload 7, 2) := by decide +kernel
theorem dX10_setMask_35 : decode cX10_setMask 35 = .ok (.getfield 198, 3) := by decide +kernel
theorem dX10_setMask_38 : decode cX10_setMask 38 = .ok (.getfield 202, 3) := by decide +kernel
theorem dX10_setMask_41 : decode cX10_setMask 41 = .ok (.istore 8, 2) := by decide +kernel
theorem dX10_setMask_43 : decode cX10_setMask 43 = .ok (.aload_n 0, 1) := by decide +kernel
theorem dX10_setMask_44 : decode cX10_setMask 44 = .ok (.iload_n 1, 1) := by decide +kernel
theorem dX10_setMask_45 : decode cX10_setMask 45 = .ok (.invokevirtual 162, 3) := by decide +kernel
theorem dX10_setMask_48 : decode cX10_setMask 48 = .ok (.aload 7, 2) := by decide +kernel
theorem dX10_setMask_50 : decode cX10_setMask 50 = .ok (.getfield 198, 3) := by decide +kernel
theorem dX10_setMask_53 : decode cX10_setMask 53 = .ok (.iload_n 2, 1) := by decide +kernel
theorem dX10_setMask_54 : decode cX10_setMask 54 = .ok (.iload_n 3, 1) := by decide +kernel
theorem dX10_setMask_55 : decode cX10_setMask 55 = .ok (.iload 4, 2) := by decide +kernel
theorem dX10_setMask_57 : decode cX10_setMask 57 = .ok (.iload 5, 2) := by decide +kernel
theorem dX10_setMask_59 : decode cX10_setMask 59 = .ok (.iload 6, 2) := by decide +kernel
theorem dX10_setMask_61 : decode cX10_setMask 61 = .ok (.invokevirtual 216, 3) := by decide +kernel
theorem dX10_setMask_64 : decode cX10_setMask 64 = .ok (.iload 8, 2) := by decide +kernel
theorem dX10_setMask_66 : decode cX10_setMask 66 = .ok (.ireturn, 1) := by decide +kernel
theorem dX10_setFeather_0 : decode cX10_setFeather 0 = .ok (.aload_n 0, 1) := by decide +kernel
theorem dX10_setFeather_1 : decode cX10_setFeather 1 = .ok (.getfield 10, 3) := by decide +kernel
theorem dX10_setFeather_4 : decode cX10_setFeather 4 = .ok (.iload_n 1, 1) := by decide +kernel
theorem dX10_setFeather_5 : decode cX10_setFeather 5 = .ok (.invokevirtual 118, 3) := by decide +kernel
theorem dX10_setFeather_8 : decode cX10_setFeather 8 = .ok (.astore_n 3, 1) := by decide +kernel
theorem dX10_setFeather_9 : decode cX10_setFeather 9 = .ok (.aload_n 3, 1) := by decide +kernel
theorem dX10_setFeather_10 : decode cX10_setFeather 10 = .ok (.ifnull 12, 3) := by decide +kernel
theorem dX10_setFeather_13 : decode cX10_setFeather 13 = .ok (.iload_n 2, 1) := by decide +kernel
theorem dX10_setFeather_14 : decode cX10_setFeather 14 = .ok (.iconst 0, 1) := by decide +kernel
theorem dX10_setFeather_15 : decode cX10_setFeather 15 = .ok (.iconst 5, 1) := by decide +kernel
theorem dX10_setFeather_16 : decode cX10_setFeather 16 = .ok (.invokestatic 68, 3) := by decide +kernel
theorem dX10_setFeather_19 : decode cX10_setFeather 19 = .ok (.ifCond .ne 7, 3) := by decide +kernel
theorem dX10_setFeather_22 : decode cX10_setFeather 22 = .ok (.sipush (-1001), 3) := by decide +kernel
theorem dX10_setFeather_25 : decode cX10_setFeather 25 = .ok (.ireturn, 1) := by decide +kernel
theorem dX10_setFeather_26 : decode cX10_setFeather 26 = .ok (.aload_n 3, 1) := by decide +kernel
theorem dX10_setFeather_27 : decode cX10_setFeather 27 = .ok (.getfield 198, 3) := by decide +kernel
theorem dX10_setFeather_30 : decode cX10_setFeather 30 = .ok (.getfield 220, 3) := by decide +kernel
theorem dX10_setFeather_33 : decode cX10_setFeather 33 = .ok (.istore 4, 2) := by decide +kernel
theorem dX10_setFeather_35 : decode cX10_setFeather 35 = .ok (.aload_n 0, 1) := by decide +kernel
theorem dX10_setFeather_36 : decode cX10_setFeather 36 = .ok (.iload_n 1, 1) := by decide +kernel
theorem dX10_setFeather_37 : decode cX10_setFeather 37 = .ok (.invokevirtual 162, 3) := by decide +kernel
theorem dX10_setFeather_40 : decode cX10_setFeather 40 = .ok (.aload_n 3, 1) := by decide +kernel
theorem dX10_setFeather_41 : decode cX10_setFeather 41 = .ok (.getfield 198, 3) := by decide +kernel
theorem dX10_setFeather_44 : decode cX10_setFeather 44 = .ok (.iload_n 2, 1) := by decide +kernel
theorem dX10_setFeather_45 : decode cX10_setFeather 45 = .ok (.putfield 220, 3) := by decide +kernel
theorem dX10_setFeather_48 : decode cX10_setFeather 48 = .ok (.iload 4, 2) := by decide +kernel
theorem dX10_setFeather_50 : decode cX10_setFeather 50 = .ok (.ireturn, 1) := by decide +kernel
theorem dX10_invertMask_0 : decode cX10_invertMask 0 = .ok (.aload_n 0, 1) := by decide +kernel
theorem dX10_invertMask_1 : decode cX10_invertMask 1 = .ok (.getfield 10, 3) := by decide +kernel
theorem dX10_invertMask_4 : decode cX10_invertMask 4 = .ok (.iload_n 1, 1) := by decide +kernel
theorem dX10_invertMask_5 : decode cX10_invertMask 5 = .ok (.invokevirtual 118, 3) := by decide +kernel
theorem dX10_invertMask_8 : decode cX10_invertMask 8 = .ok (.astore_n 2, 1) := by decide +kernel
theorem dX10_invertMask_9 : decode cX10_invertMask 9 = .ok (.aload_n 2, 1) := by decide +kernel
theorem dX10_invertMask_10 : decode cX10_invertMask 10 = .ok (.ifnonnull 7, 3) := by decide +kernel
theorem dX10_invertMask_13 : decode cX10_invertMask 13 = .ok (.sipush (-1001), 3) := by decide +kernel
theorem dX10_invertMask_16 : decode cX10_invertMask 16 = .ok (.ireturn, 1) := by decide +kernel
theorem dX10_invertMask_17 : decode cX10_invertMask 17 = .ok (.aload_n 0, 1) := by decide +kernel
theorem dX10_invertMask_18 : decode cX10_invertMask 18 = .ok (.iload_n 1, 1) := by decide +kernel
theorem dX10_invertMask_19 : decode cX10_invertMask 19 = .ok (.invokevirtual 162, 3) := by decide +kernel
theorem dX10_invertMask_22 : decode cX10_invertMask 22 = .ok (.aload_n 2, 1) := by decide +kernel
theorem dX10_invertMask_23 : decode cX10_invertMask 23 = .ok (.getfield 198, 3) := by decide +kernel
theorem dX10_invertMask_26 : decode cX10_invertMask 26 = .ok (.aload_n 2, 1) := by decide +kernel
theorem dX10_invertMask_27 : decode cX10_invertMask 27 = .ok (.getfield 198, 3) := by decide +kernel
theorem dX10_invertMask_30 : decode cX10_invertMask 30 = .ok (.getfield 223, 3) := by decide +kernel
theorem dX10_invertMask_33 : decode cX10_invertMask 33 = .ok (.ifCond .ne 7, 3) := by decide +kernel
theorem dX10_invertMask_36 : decode cX10_invertMask 36 = .ok (.iconst 1, 1) := by decide +kernel
theorem dX10_invertMask_37 : decode cX10_invertMask 37 = .ok (.goto 4, 3) := by decide +kernel
theorem dX10_invertMask_40 : decode cX10_invertMask 40 = .ok (.iconst 0, 1) := by decide +kernel
theorem dX10_invertMask_41 : decode cX10_invertMask 41 = .ok (.putfield 223, 3) := by decide +kernel
theorem dX10_invertMask_44 : decode cX10_invertMask 44 = .ok (.aload_n 2, 1) := by decide +kernel
theorem dX10_invertMask_45 : decode cX10_invertMask 45 = .ok (.getfield 198, 3) := by decide +kernel
theorem dX10_invertMask_48 : decode cX10_invertMask 48 = .ok (.getfield 223, 3) := by decide +kernel
theorem dX10_invertMask_51 : decode cX10_invertMask 51 = .ok (.ifCond .eq 7, 3) := by decide +kernel
theorem dX10_invertMask_54 : decode cX10_invertMask 54 = .ok (.iconst 1, 1) := by decide +kernel
theorem dX10_invertMask_55 : decode cX10_invertMask 55 = .ok (.goto 4, 3) := by decide +kernel
theorem dX10_invertMask_58 : decode cX10_invertMask 58 = .ok (.iconst 0, 1) := by decide +kernel
theorem dX10_invertMask_59 : decode cX10_invertMask 59 = .ok (.ireturn, 1) := by decide +kernel
theorem dX10_dab_0 : decode cX10_dab 0 = .ok (.aload_n 0, 1) := by decide +kernel
theorem dX10_dab_1 : decode cX10_dab 1 = .ok (.getfield 10, 3) := by decide +kernel
theorem dX10_dab_4 : decode cX10_dab 4 = .ok (.iload_n 1, 1) := by decide +kernel
theorem dX10_dab_5 : decode cX10_dab 5 = .ok (.invokevirtual 118, 3) := by decide +kernel
theorem dX10_dab_8 : decode cX10_dab 8 = .ok (.astore 5, 2) := by decide +kernel
theorem dX10_dab_10 : decode cX10_dab 10 = .ok (.aload 5, 2) := by decide +kernel
theorem dX10_dab_12 : decode cX10_dab 12 = .ok (.ifnull 34, 3) := by decide +kernel
theorem dX10_dab_15 : decode cX10_dab 15 = .ok (.iload_n 2, 1) := by decide +kernel
theorem dX10_dab_16 : decode cX10_dab 16 = .ok (.iconst 0, 1) := by decide +kernel
theorem dX10_dab_17 : decode cX10_dab 17 = .ok (.bipush 15, 2) := by decide +kernel
theorem dX10_dab_19 : decode cX10_dab 19 = .ok (.invokestatic 68, 3) := by decide +kernel
theorem dX10_dab_22 : decode cX10_dab 22 = .ok (.ifCond .eq 24, 3) := by decide +kernel
theorem dX10_dab_25 : decode cX10_dab 25 = .ok (.iload_n 3, 1) := by decide +kernel
theorem dX10_dab_26 : decode cX10_dab 26 = .ok (.iconst 0, 1) := by decide +kernel
theorem dX10_dab_27 : decode cX10_dab 27 = .ok (.bipush 15, 2) := by decide +kernel
theorem dX10_dab_29 : decode cX10_dab 29 = .ok (.invokestatic 68, 3) := by decide +kernel
theorem dX10_dab_32 : decode cX10_dab 32 = .ok (.ifCond .eq 14, 3) := by decide +kernel
theorem dX10_dab_35 : decode cX10_dab 35 = .ok (.iload 4, 2) := by decide +kernel
theorem dX10_dab_37 : decode cX10_dab 37 = .ok (.iconst 0, 1) := by decide +kernel
theorem dX10_dab_38 : decode cX10_dab 38 = .ok (.bipush 8, 2) := by decide +kernel
theorem dX10_dab_40 : decode cX10_dab 40 = .ok (.invokestatic 68, 3) := by decide +kernel
theorem dX10_dab_43 : decode cX10_dab 43 = .ok (.ifCond .ne 7, 3) := by decide +kernel
theorem dX10_dab_46 : decode cX10_dab 46 = .ok (.sipush (-1001), 3) := by decide +kernel
theorem dX10_dab_49 : decode cX10_dab 49 = .ok (.ireturn, 1) := by decide +kernel
theorem dX10_dab_50 : decode cX10_dab 50 = .ok (.aload 5, 2) := by decide +kernel
theorem dX10_dab_52 : decode cX10_dab 52 = .ok (.getfield 198, 3) := by decide +kernel
theorem dX10_dab_55 : decode cX10_dab 55 = .ok (.getfield 205, 3) := by decide +kernel
theorem dX10_dab_58 : decode cX10_dab 58 = .ok (.bipush 6, 2) := by decide +kernel
theorem dX10_dab_60 : decode cX10_dab 60 = .ok (.if_icmp .lt 7, 3) := by decide +kernel
theorem dX10_dab_63 : decode cX10_dab 63 = .ok (.sipush (-1003), 3) := by decide +kernel
theorem dX10_dab_66 : decode cX10_dab 66 = .ok (.ireturn, 1) := by decide +kernel
theorem dX10_dab_67 : decode cX10_dab 67 = .ok (.aload_n 0, 1) := by decide +kernel
theorem dX10_dab_68 : decode cX10_dab 68 = .ok (.iload_n 1, 1) := by decide +kernel
theorem dX10_dab_69 : decode cX10_dab 69 = .ok (.invokevirtual 162, 3) := by decide +kernel
theorem dX10_dab_72 : decode cX10_dab 72 = .ok (.aload 5, 2) := by decide +kernel
theorem dX10_dab_74 : decode cX10_dab 74 = .ok (.getfield 198, 3) := by decide +kernel
theorem dX10_dab_77 : decode cX10_dab 77 = .ok (.iconst 4, 1) := by decide +kernel
theorem dX10_dab_78 : decode cX10_dab 78 = .ok (.iconst 0, 1) := by decide +kernel
theorem dX10_dab_79 : decode cX10_dab 79 = .ok (.iconst 0, 1) := by decide +kernel
theorem dX10_dab_80 : decode cX10_dab 80 = .ok (.iconst 0, 1) := by decide +kernel
theorem dX10_dab_81 : decode cX10_dab 81 = .ok (.iconst 0, 1) := by decide +kernel
theorem dX10_dab_82 : decode cX10_dab 82 = .ok (.invokevirtual 216, 3) := by decide +kernel
theorem dX10_dab_85 : decode cX10_dab 85 = .ok (.aload 5, 2) := by decide +kernel
theorem dX10_dab_87 : decode cX10_dab 87 = .ok (.getfield 198, 3) := by decide +kernel
theorem dX10_dab_90 : decode cX10_dab 90 = .ok (.iload_n 2, 1) := by decide +kernel
theorem dX10_dab_91 : decode cX10_dab 91 = .ok (.iload_n 3, 1) := by decide +kernel
theorem dX10_dab_92 : decode cX10_dab 92 = .ok (.iload 4, 2) := by decide +kernel
theorem dX10_dab_94 : decode cX10_dab 94 = .ok (.invokevirtual 226, 3) := by decide +kernel
theorem dX10_dab_97 : decode cX10_dab 97 = .ok (.aload 5, 2) := by decide +kernel
theorem dX10_dab_99 : decode cX10_dab 99 = .ok (.getfield 198, 3) := by decide +kernel
theorem dX10_dab_102 : decode cX10_dab 102 = .ok (.getfield 205, 3) := by decide +kernel
theorem dX10_dab_105 : decode cX10_dab 105 = .ok (.ireturn, 1) := by decide +kernel
theorem dX10_pixel_0 : decode cX10_pixel 0 = .ok (.aload_n 0, 1) := by decide +kernel
theorem dX10_pixel_1 : decode cX10_pixel 1 = .ok (.iload_n 1, 1) := by decide +kernel
theorem dX10_pixel_2 : decode cX10_pixel 2 = .ok (.invokevirtual 249, 3) := by decide +kernel
theorem dX10_pixel_5 : decode cX10_pixel 5 = .ok (.ifCond .eq 18, 3) := by decide +kernel
theorem dX10_pixel_8 : decode cX10_pixel 8 = .ok (.aload_n 0, 1) := by decide +kernel
theorem dX10_pixel_9 : decode cX10_pixel 9 = .ok (.getfield 10, 3) := by decide +kernel
theorem dX10_pixel_12 : decode cX10_pixel 12 = .ok (.getfield 61, 3) := by decide +kernel
theorem dX10_pixel_15 : decode cX10_pixel 15 = .ok (.iload_n 2, 1) := by decide +kernel
theorem dX10_pixel_16 : decode cX10_pixel 16 = .ok (.iload_n 3, 1) := by decide +kernel
theorem dX10_pixel_17 : decode cX10_pixel 17 = .ok (.invokevirtual 80, 3) := by decide +kernel
theorem dX10_pixel_20 : decode cX10_pixel 20 = .ok (.ifCond .ne 7, 3) := by decide +kernel
theorem dX10_pixel_23 : decode cX10_pixel 23 = .ok (.sipush (-1001), 3) := by decide +kernel
theorem dX10_pixel_26 : decode cX10_pixel 26 = .ok (.ireturn, 1) := by decide +kernel
theorem dX10_pixel_27 : decode cX10_pixel 27 = .ok (.aload_n 0, 1) := by decide +kernel
theorem dX10_pixel_28 : decode cX10_pixel 28 = .ok (.iload_n 1, 1) := by decide +kernel
theorem dX10_pixel_29 : decode cX10_pixel 29 = .ok (.aload_n 0, 1) := by decide +kernel
theorem dX10_pixel_30 : decode cX10_pixel 30 = .ok (.getfield 40, 3) := by decide +kernel
theorem dX10_pixel_33 : decode cX10_pixel 33 = .ok (.iload_n 2, 1) := by decide +kernel
theorem dX10_pixel_34 : decode cX10_pixel 34 = .ok (.invokevirtual 253, 3) := by decide +kernel
theorem dX10_pixel_37 : decode cX10_pixel 37 = .ok (.aload_n 0, 1) := by decide +kernel
theorem dX10_pixel_38 : decode cX10_pixel 38 = .ok (.getfield 40, 3) := by decide +kernel
theorem dX10_pixel_41 : decode cX10_pixel 41 = .ok (.iload_n 3, 1) := by decide +kernel
theorem dX10_pixel_42 : decode cX10_pixel 42 = .ok (.invokevirtual 253, 3) := by decide +kernel
theorem dX10_pixel_45 : decode cX10_pixel 45 = .ok (.invokevirtual 256, 3) := by decide +kernel
theorem dX10_pixel_48 : decode cX10_pixel 48 = .ok (.aload_n 0, 1) := by decide +kernel
theorem dX10_pixel_49 : decode cX10_pixel 49 = .ok (.aload_n 0, 1) := by decide +kernel
theorem dX10_pixel_50 : decode cX10_pixel 50 = .ok (.getfield 10, 3) := by decide +kernel
theorem dX10_pixel_53 : decode cX10_pixel 53 = .ok (.iload_n 1, 1) := by decide +kernel
theorem dX10_pixel_54 : decode cX10_pixel 54 = .ok (.invokevirtual 259, 3) := by decide +kernel
theorem dX10_pixel_57 : decode cX10_pixel 57 = .ok (.invokevirtual 262, 3) := by decide +kernel
theorem dX10_pixel_60 : decode cX10_pixel 60 = .ok (.iload_n 2, 1) := by decide +kernel
theorem dX10_pixel_61 : decode cX10_pixel 61 = .ok (.iload_n 3, 1) := by decide +kernel
theorem dX10_pixel_62 : decode cX10_pixel 62 = .ok (.invokevirtual 229, 3) := by decide +kernel
theorem dX10_pixel_65 : decode cX10_pixel 65 = .ok (.istore 4, 2) := by decide +kernel
theorem dX10_pixel_67 : decode cX10_pixel 67 = .ok (.aload_n 0, 1) := by decide +kernel
theorem dX10_pixel_68 : decode cX10_pixel 68 = .ok (.getfield 40, 3) := by decide +kernel
theorem dX10_pixel_71 : decode cX10_pixel 71 = .ok (.invokevirtual 266, 3) := by decide +kernel
theorem dX10_pixel_74 : decode cX10_pixel 74 = .ok (.pop, 1) := by decide +kernel
theorem dX10_pixel_75 : decode cX10_pixel 75 = .ok (.iload 4, 2) := by decide +kernel
theorem dX10_pixel_77 : decode cX10_pixel 77 = .ok (.ireturn, 1) := by decide +kernel
theorem dX10_prefetch_0 : decode cX10_prefetch 0 = .ok (.aload_n 0, 1) := by decide +kernel
theorem dX10_prefetch_1 : decode cX10_prefetch 1 = .ok (.getfield 10, 3) := by decide +kernel
theorem dX10_prefetch_4 : decode cX10_prefetch 4 = .ok (.iload_n 1, 1) := by decide +kernel
theorem dX10_prefetch_5 : decode cX10_prefetch 5 = .ok (.invokevirtual 118, 3) := by decide +kernel
theorem dX10_prefetch_8 : decode cX10_prefetch 8 = .ok (.ifnonnull 7, 3) := by decide +kernel
theorem dX10_prefetch_11 : decode cX10_prefetch 11 = .ok (.sipush (-1001), 3) := by decide +kernel
theorem dX10_prefetch_14 : decode cX10_prefetch 14 = .ok (.ireturn, 1) := by decide +kernel
theorem dX10_prefetch_15 : decode cX10_prefetch 15 = .ok (.aload_n 0, 1) := by decide +kernel
theorem dX10_prefetch_16 : decode cX10_prefetch 16 = .ok (.getfield 40, 3) := by decide +kernel
theorem dX10_prefetch_19 : decode cX10_prefetch 19 = .ok (.getfield 269, 3) := by decide +kernel
theorem dX10_prefetch_22 : decode cX10_prefetch 22 = .ok (.istore_n 2, 1) := by decide +kernel
theorem dX10_prefetch_23 : decode cX10_prefetch 23 = .ok (.iconst 0, 1) := by decide +kernel
theorem dX10_prefetch_24 : decode cX10_prefetch 24 = .ok (.istore_n 3, 1) := by decide +kernel
theorem dX10_prefetch_25 : decode cX10_prefetch 25 = .ok (.iload_n 3, 1) := by decide +kernel
theorem dX10_prefetch_26 : decode cX10_prefetch 26 = .ok (.aload_n 0, 1) := by decide +kernel
theorem dX10_prefetch_27 : decode cX10_prefetch 27 = .ok (.invokevirtual 104, 3) := by decide +kernel
theorem dX10_prefetch_30 : decode cX10_prefetch 30 = .ok (.if_icmp .ge 35, 3) := by decide +kernel
theorem dX10_prefetch_33 : decode cX10_prefetch 33 = .ok (.iconst 0, 1) := by decide +kernel
theorem dX10_prefetch_34 : decode cX10_prefetch 34 = .ok (.istore 4, 2) := by decide +kernel
theorem dX10_prefetch_36 : decode cX10_prefetch 36 = .ok (.iload 4, 2) := by decide +kernel
theorem dX10_prefetch_38 : decode cX10_prefetch 38 = .ok (.aload_n 0, 1) := by decide +kernel
theorem dX10_prefetch_39 : decode cX10_prefetch 39 = .ok (.invokevirtual 101, 3) := by decide +kernel
theorem dX10_prefetch_42 : decode cX10_prefetch 42 = .ok (.if_icmp .ge 17, 3) := by decide +kernel
theorem dX10_prefetch_45 : decode cX10_prefetch 45 = .ok (.aload_n 0, 1) := by decide +kernel
theorem dX10_prefetch_46 : decode cX10_prefetch 46 = .ok (.iload_n 1, 1) := by decide +kernel
theorem dX10_prefetch_47 : decode cX10_prefetch 47 = .ok (.iload 4, 2) := by decide +kernel
theorem dX10_prefetch_49 : decode cX10_prefetch 49 = .ok (.iload_n 3, 1) := by decide +kernel
theorem dX10_prefetch_50 : decode cX10_prefetch 50 = .ok (.invokevirtual 256, 3) := by decide +kernel
theorem dX10_prefetch_53 : decode cX10_prefetch 53 = .ok (.iinc 4 1, 3) := by decide +kernel
theorem dX10_prefetch_56 : decode cX10_prefetch 56 = .ok (.goto (-20), 3) := by decide +kernel
theorem dX10_prefetch_59 : decode cX10_prefetch 59 = .ok (.iinc 3 1, 3) := by decide +kernel
theorem dX10_prefetch_62 : decode cX10_prefetch 62 = .ok (.goto (-37), 3) := by decide +kernel
theorem dX10_prefetch_65 : decode cX10_prefetch 65 = .ok (.aload_n 0, 1) := by decide +kernel
theorem dX10_prefetch_66 : decode cX10_prefetch 66 = .ok (.getfield 40, 3) := by decide +kernel
theorem dX10_prefetch_69 : decode cX10_prefetch 69 = .ok (.invokevirtual 266, 3) := by decide +kernel
theorem dX10_prefetch_72 : decode cX10_prefetch 72 = .ok (.pop, 1) := by decide +kernel
theorem dX10_prefetch_73 : decode cX10_prefetch 73 = .ok (.aload_n 0, 1) := by decide +kernel
theorem dX10_prefetch_74 : decode cX10_prefetch 74 = .ok (.getfield 40, 3) := by decide +kernel
theorem dX10_prefetch_77 : decode cX10_prefetch 77 = .ok (.getfield 269, 3) := by decide +kernel
theorem dX10_prefetch_80 : decode cX10_prefetch 80 = .ok (.iload_n 2, 1) := by decide +kernel
theorem dX10_prefetch_81 : decode cX10_prefetch 81 = .ok (.isub, 1) := by decide +kernel
