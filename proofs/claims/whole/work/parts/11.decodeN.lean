theorem d_M_layBest_85 : decode b_M_layBest 85 = .ok (.aload_n 0, 1) := by decide +kernel
theorem d_M_layBest_86 : decode b_M_layBest 86 = .ok (.getfield 265, 3) := by decide +kernel
theorem d_M_layBest_89 : decode b_M_layBest 89 = .ok (.ifCond .le 7, 3) := by decide +kernel
theorem d_M_layBest_92 : decode b_M_layBest 92 = .ok (.iconst 1, 1) := by decide +kernel
theorem d_M_layBest_93 : decode b_M_layBest 93 = .ok (.goto 4, 3) := by decide +kernel
theorem d_M_layBest_96 : decode b_M_layBest 96 = .ok (.iconst 0, 1) := by decide +kernel
theorem d_M_layBest_97 : decode b_M_layBest 97 = .ok (.ireturn, 1) := by decide +kernel
theorem d_M_layBlushes_0 : decode b_M_layBlushes 0 = .ok (.iload_n 1, 1) := by decide +kernel
theorem d_M_layBlushes_1 : decode b_M_layBlushes 1 = .ok (.invokestatic 71, 3) := by decide +kernel
theorem d_M_layBlushes_4 : decode b_M_layBlushes 4 = .ok (.ifCond .ne 5, 3) := by decide +kernel
theorem d_M_layBlushes_7 : decode b_M_layBlushes 7 = .ok (.iconst (-1), 1) := by decide +kernel
theorem d_M_layBlushes_8 : decode b_M_layBlushes 8 = .ok (.ireturn, 1) := by decide +kernel
theorem d_M_layBlushes_9 : decode b_M_layBlushes 9 = .ok (.aload_n 0, 1) := by decide +kernel
theorem d_M_layBlushes_10 : decode b_M_layBlushes 10 = .ok (.getfield 136, 3) := by decide +kernel
theorem d_M_layBlushes_13 : decode b_M_layBlushes 13 = .ok (.ifCond .ne 6, 3) := by decide +kernel
theorem d_M_layBlushes_16 : decode b_M_layBlushes 16 = .ok (.bipush (-4), 2) := by decide +kernel
theorem d_M_layBlushes_18 : decode b_M_layBlushes 18 = .ok (.ireturn, 1) := by decide +kernel
theorem d_M_layBlushes_19 : decode b_M_layBlushes 19 = .ok (.aload_n 0, 1) := by decide +kernel
theorem d_M_layBlushes_20 : decode b_M_layBlushes 20 = .ok (.getfield 16, 3) := by decide +kernel
theorem d_M_layBlushes_23 : decode b_M_layBlushes 23 = .ok (.iload_n 1, 1) := by decide +kernel
theorem d_M_layBlushes_24 : decode b_M_layBlushes 24 = .ok (.iaload, 1) := by decide +kernel
theorem d_M_layBlushes_25 : decode b_M_layBlushes 25 = .ok (.ifCond .ge 9, 3) := by decide +kernel
theorem d_M_layBlushes_28 : decode b_M_layBlushes 28 = .ok (.aload_n 0, 1) := by decide +kernel
theorem d_M_layBlushes_29 : decode b_M_layBlushes 29 = .ok (.iconst 1, 1) := by decide +kernel
theorem d_M_layBlushes_30 : decode b_M_layBlushes 30 = .ok (.invokevirtual 75, 3) := by decide +kernel
theorem d_M_layBlushes_33 : decode b_M_layBlushes 33 = .ok (.ireturn, 1) := by decide +kernel
theorem d_M_layBlushes_34 : decode b_M_layBlushes 34 = .ok (.aload_n 0, 1) := by decide +kernel
theorem d_M_layBlushes_35 : decode b_M_layBlushes 35 = .ok (.getfield 16, 3) := by decide +kernel
theorem d_M_layBlushes_38 : decode b_M_layBlushes 38 = .ok (.iload_n 1, 1) := by decide +kernel
theorem d_M_layBlushes_39 : decode b_M_layBlushes 39 = .ok (.iaload, 1) := by decide +kernel
theorem d_M_layBlushes_40 : decode b_M_layBlushes 40 = .ok (.aload_n 0, 1) := by decide +kernel
theorem d_M_layBlushes_41 : decode b_M_layBlushes 41 = .ok (.getfield 136, 3) := by decide +kernel
theorem d_M_layBlushes_44 : decode b_M_layBlushes 44 = .ok (.if_icmp .eq 9, 3) := by decide +kernel
theorem d_M_layBlushes_47 : decode b_M_layBlushes 47 = .ok (.aload_n 0, 1) := by decide +kernel
theorem d_M_layBlushes_48 : decode b_M_layBlushes 48 = .ok (.iconst 5, 1) := by decide +kernel
theorem d_M_layBlushes_49 : decode b_M_layBlushes 49 = .ok (.invokevirtual 75, 3) := by decide +kernel
theorem d_M_layBlushes_52 : decode b_M_layBlushes 52 = .ok (.ireturn, 1) := by decide +kernel
theorem d_M_layBlushes_53 : decode b_M_layBlushes 53 = .ok (.aload_n 0, 1) := by decide +kernel
theorem d_M_layBlushes_54 : decode b_M_layBlushes 54 = .ok (.iconst 0, 1) := by decide +kernel
theorem d_M_layBlushes_55 : decode b_M_layBlushes 55 = .ok (.putfield 305, 3) := by decide +kernel
theorem d_M_layBlushes_58 : decode b_M_layBlushes 58 = .ok (.aload_n 0, 1) := by decide +kernel
theorem d_M_layBlushes_59 : decode b_M_layBlushes 59 = .ok (.bipush (-9), 2) := by decide +kernel
theorem d_M_layBlushes_61 : decode b_M_layBlushes 61 = .ok (.putfield 308, 3) := by decide +kernel
theorem d_M_layBlushes_64 : decode b_M_layBlushes 64 = .ok (.aload_n 0, 1) := by decide +kernel
theorem d_M_layBlushes_65 : decode b_M_layBlushes 65 = .ok (.iconst 0, 1) := by decide +kernel
theorem d_M_layBlushes_66 : decode b_M_layBlushes 66 = .ok (.putfield 311, 3) := by decide +kernel
theorem d_M_layBlushes_69 : decode b_M_layBlushes 69 = .ok (.iconst 0, 1) := by decide +kernel
theorem d_M_layBlushes_70 : decode b_M_layBlushes 70 = .ok (.istore_n 2, 1) := by decide +kernel
theorem d_M_layBlushes_71 : decode b_M_layBlushes 71 = .ok (.iload_n 2, 1) := by decide +kernel
theorem d_M_layBlushes_72 : decode b_M_layBlushes 72 = .ok (.iconst 1, 1) := by decide +kernel
theorem d_M_layBlushes_73 : decode b_M_layBlushes 73 = .ok (.aload_n 0, 1) := by decide +kernel
theorem d_M_layBlushes_74 : decode b_M_layBlushes 74 = .ok (.getfield 7, 3) := by decide +kernel
theorem d_M_layBlushes_77 : decode b_M_layBlushes 77 = .ok (.iconst 1, 1) := by decide +kernel
theorem d_M_layBlushes_78 : decode b_M_layBlushes 78 = .ok (.iaload, 1) := by decide +kernel
theorem d_M_layBlushes_79 : decode b_M_layBlushes 79 = .ok (.ishl, 1) := by decide +kernel
theorem d_M_layBlushes_80 : decode b_M_layBlushes 80 = .ok (.if_icmp .ge 76, 3) := by decide +kernel
theorem d_M_layBlushes_83 : decode b_M_layBlushes 83 = .ok (.aload_n 0, 1) := by decide +kernel
theorem d_M_layBlushes_84 : decode b_M_layBlushes 84 = .ok (.iload_n 2, 1) := by decide +kernel
theorem d_M_layBlushes_85 : decode b_M_layBlushes 85 = .ok (.invokevirtual 314, 3) := by decide +kernel
theorem d_M_layBlushes_88 : decode b_M_layBlushes 88 = .ok (.ifCond .eq 62, 3) := by decide +kernel
theorem d_M_layBlushes_91 : decode b_M_layBlushes 91 = .ok (.aload_n 0, 1) := by decide +kernel
theorem d_M_layBlushes_92 : decode b_M_layBlushes 92 = .ok (.iload_n 1, 1) := by decide +kernel
theorem d_M_layBlushes_93 : decode b_M_layBlushes 93 = .ok (.iload_n 2, 1) := by decide +kernel
theorem d_M_layBlushes_94 : decode b_M_layBlushes 94 = .ok (.invokevirtual 317, 3) := by decide +kernel
theorem d_M_layBlushes_97 : decode b_M_layBlushes 97 = .ok (.ifCond .eq 53, 3) := by decide +kernel
theorem d_M_layBlushes_100 : decode b_M_layBlushes 100 = .ok (.aload_n 0, 1) := by decide +kernel
theorem d_M_layBlushes_101 : decode b_M_layBlushes 101 = .ok (.aload_n 0, 1) := by decide +kernel
theorem d_M_layBlushes_102 : decode b_M_layBlushes 102 = .ok (.getfield 305, 3) := by decide +kernel
theorem d_M_layBlushes_105 : decode b_M_layBlushes 105 = .ok (.ifCond .ne 7, 3) := by decide +kernel
theorem d_M_layBlushes_108 : decode b_M_layBlushes 108 = .ok (.iload_n 2, 1) := by decide +kernel
theorem d_M_layBlushes_109 : decode b_M_layBlushes 109 = .ok (.goto 7, 3) := by decide +kernel
theorem d_M_layBlushes_112 : decode b_M_layBlushes 112 = .ok (.aload_n 0, 1) := by decide +kernel
theorem d_M_layBlushes_113 : decode b_M_layBlushes 113 = .ok (.getfield 308, 3) := by decide +kernel
theorem d_M_layBlushes_116 : decode b_M_layBlushes 116 = .ok (.putfield 308, 3) := by decide +kernel
theorem d_M_layBlushes_119 : decode b_M_layBlushes 119 = .ok (.aload_n 0, 1) := by decide +kernel
theorem d_M_layBlushes_120 : decode b_M_layBlushes 120 = .ok (.aload_n 0, 1) := by decide +kernel
theorem d_M_layBlushes_121 : decode b_M_layBlushes 121 = .ok (.getfield 305, 3) := by decide +kernel
theorem d_M_layBlushes_124 : decode b_M_layBlushes 124 = .ok (.ifCond .ne 7, 3) := by decide +kernel
theorem d_M_layBlushes_127 : decode b_M_layBlushes 127 = .ok (.iload_n 2, 1) := by decide +kernel
theorem d_M_layBlushes_128 : decode b_M_layBlushes 128 = .ok (.goto 9, 3) := by decide +kernel
theorem d_M_layBlushes_131 : decode b_M_layBlushes 131 = .ok (.aload_n 0, 1) := by decide +kernel
theorem d_M_layBlushes_132 : decode b_M_layBlushes 132 = .ok (.getfield 311, 3) := by decide +kernel
theorem d_M_layBlushes_135 : decode b_M_layBlushes 135 = .ok (.iload_n 2, 1) := by decide +kernel
theorem d_M_layBlushes_136 : decode b_M_layBlushes 136 = .ok (.iand, 1) := by decide +kernel
theorem d_M_layBlushes_137 : decode b_M_layBlushes 137 = .ok (.putfield 311, 3) := by decide +kernel
theorem d_M_layBlushes_140 : decode b_M_layBlushes 140 = .ok (.aload_n 0, 1) := by decide +kernel
theorem d_M_layBlushes_141 : decode b_M_layBlushes 141 = .ok (.dup, 1) := by decide +kernel
theorem d_M_layBlushes_142 : decode b_M_layBlushes 142 = .ok (.getfield 305, 3) := by decide +kernel
theorem d_M_layBlushes_145 : decode b_M_layBlushes 145 = .ok (.iconst 1, 1) := by decide +kernel
theorem d_M_layBlushes_146 : decode b_M_layBlushes 146 = .ok (.iadd, 1) := by decide +kernel
theorem d_M_layBlushes_147 : decode b_M_layBlushes 147 = .ok (.putfield 305, 3) := by decide +kernel
theorem d_M_layBlushes_150 : decode b_M_layBlushes 150 = .ok (.iinc 2 1, 3) := by decide +kernel
theorem d_M_layBlushes_153 : decode b_M_layBlushes 153 = .ok (.goto (-82), 3) := by decide +kernel
theorem d_M_layBlushes_156 : decode b_M_layBlushes 156 = .ok (.iconst 0, 1) := by decide +kernel
theorem d_M_layBlushes_157 : decode b_M_layBlushes 157 = .ok (.ireturn, 1) := by decide +kernel
theorem d_M_layPairs_0 : decode b_M_layPairs 0 = .ok (.aload_n 0, 1) := by decide +kernel
theorem d_M_layPairs_1 : decode b_M_layPairs 1 = .ok (.iconst 0, 1) := by decide +kernel
theorem d_M_layPairs_2 : decode b_M_layPairs 2 = .ok (.putfield 277, 3) := by decide +kernel
theorem d_M_layPairs_5 : decode b_M_layPairs 5 = .ok (.iconst 0, 1) := by decide +kernel
theorem d_M_layPairs_6 : decode b_M_layPairs 6 = .ok (.istore_n 1, 1) := by decide +kernel
theorem d_M_layPairs_7 : decode b_M_layPairs 7 = .ok (.iload_n 1, 1) := by decide +kernel
theorem d_M_layPairs_8 : decode b_M_layPairs 8 = .ok (.aload_n 0, 1) := by decide +kernel
theorem d_M_layPairs_9 : decode b_M_layPairs 9 = .ok (.getfield 136, 3) := by decide +kernel
theorem d_M_layPairs_12 : decode b_M_layPairs 12 = .ok (.if_icmp .ge 72, 3) := by decide +kernel
theorem d_M_layPairs_15 : decode b_M_layPairs 15 = .ok (.iload_n 1, 1) := by decide +kernel
theorem d_M_layPairs_16 : decode b_M_layPairs 16 = .ok (.iconst 1, 1) := by decide +kernel
theorem d_M_layPairs_17 : decode b_M_layPairs 17 = .ok (.iadd, 1) := by decide +kernel
theorem d_M_layPairs_18 : decode b_M_layPairs 18 = .ok (.istore_n 2, 1) := by decide +kernel
theorem d_M_layPairs_19 : decode b_M_layPairs 19 = .ok (.iload_n 2, 1) := by decide +kernel
theorem d_M_layPairs_20 : decode b_M_layPairs 20 = .ok (.aload_n 0, 1) := by decide +kernel
theorem d_M_layPairs_21 : decode b_M_layPairs 21 = .ok (.getfield 136, 3) := by decide +kernel
theorem d_M_layPairs_24 : decode b_M_layPairs 24 = .ok (.if_icmp .ge 54, 3) := by decide +kernel
theorem d_M_layPairs_27 : decode b_M_layPairs 27 = .ok (.aload_n 0, 1) := by decide +kernel
theorem d_M_layPairs_28 : decode b_M_layPairs 28 = .ok (.iload_n 1, 1) := by decide +kernel
theorem d_M_layPairs_29 : decode b_M_layPairs 29 = .ok (.iload_n 2, 1) := by decide +kernel
theorem d_M_layPairs_30 : decode b_M_layPairs 30 = .ok (.invokevirtual 280, 3) := by decide +kernel
theorem d_M_layPairs_33 : decode b_M_layPairs 33 = .ok (.ifCond .eq 39, 3) := by decide +kernel
theorem d_M_layPairs_36 : decode b_M_layPairs 36 = .ok (.aload_n 0, 1) := by decide +kernel
theorem d_M_layPairs_37 : decode b_M_layPairs 37 = .ok (.getfield 50, 3) := by decide +kernel
theorem d_M_layPairs_40 : decode b_M_layPairs 40 = .ok (.iconst 2, 1) := by decide +kernel
theorem d_M_layPairs_41 : decode b_M_layPairs 41 = .ok (.aload_n 0, 1) := by decide +kernel
theorem d_M_layPairs_42 : decode b_M_layPairs 42 = .ok (.getfield 277, 3) := by decide +kernel
theorem d_M_layPairs_45 : decode b_M_layPairs 45 = .ok (.imul, 1) := by decide +kernel
theorem d_M_layPairs_46 : decode b_M_layPairs 46 = .ok (.iload_n 1, 1) := by decide +kernel
theorem d_M_layPairs_47 : decode b_M_layPairs 47 = .ok (.iastore, 1) := by decide +kernel
theorem d_M_layPairs_48 : decode b_M_layPairs 48 = .ok (.aload_n 0, 1) := by decide +kernel
theorem d_M_layPairs_49 : decode b_M_layPairs 49 = .ok (.getfield 50, 3) := by decide +kernel
theorem d_M_layPairs_52 : decode b_M_layPairs 52 = .ok (.iconst 2, 1) := by decide +kernel
theorem d_M_layPairs_53 : decode b_M_layPairs 53 = .ok (.aload_n 0, 1) := by decide +kernel
theorem d_M_layPairs_54 : decode b_M_layPairs 54 = .ok (.getfield 277, 3) := by decide +kernel
theorem d_M_layPairs_57 : decode b_M_layPairs 57 = .ok (.imul, 1) := by decide +kernel
theorem d_M_layPairs_58 : decode b_M_layPairs 58 = .ok (.iconst 1, 1) := by decide +kernel
theorem d_M_layPairs_59 : decode b_M_layPairs 59 = .ok (.iadd, 1) := by decide +kernel
theorem d_M_layPairs_60 : decode b_M_layPairs 60 = .ok (.iload_n 2, 1) := by decide +kernel
theorem d_M_layPairs_61 : decode b_M_layPairs 61 = .ok (.iastore, 1) := by decide +kernel
theorem d_M_layPairs_62 : decode b_M_layPairs 62 = .ok (.aload_n 0, 1) := by decide +kernel
theorem d_M_layPairs_63 : decode b_M_layPairs 63 = .ok (.dup, 1) := by decide +kernel
theorem d_M_layPairs_64 : decode b_M_layPairs 64 = .ok (.getfield 277, 3) := by decide +kernel
theorem d_M_layPairs_67 : decode b_M_layPairs 67 = .ok (.iconst 1, 1) := by decide +kernel
theorem d_M_layPairs_68 : decode b_M_layPairs 68 = .ok (.iadd, 1) := by decide +kernel
theorem d_M_layPairs_69 : decode b_M_layPairs 69 = .ok (.putfield 277, 3) := by decide +kernel
theorem d_M_layPairs_72 : decode b_M_layPairs 72 = .ok (.iinc 2 1, 3) := by decide +kernel
theorem d_M_layPairs_75 : decode b_M_layPairs 75 = .ok (.goto (-56), 3) := by decide +kernel
theorem d_M_layPairs_78 : decode b_M_layPairs 78 = .ok (.iinc 1 1, 3) := by decide +kernel
theorem d_M_layPairs_81 : decode b_M_layPairs 81 = .ok (.goto (-74), 3) := by decide +kernel
theorem d_M_layPairs_84 : decode b_M_layPairs 84 = .ok (.return_, 1) := by decide +kernel
theorem d_M_leastOfRing_0 : decode b_M_leastOfRing 0 = .ok (.bipush 99, 2) := by decide +kernel
theorem d_M_leastOfRing_2 : decode b_M_leastOfRing 2 = .ok (.istore_n 1, 1) := by decide +kernel
theorem d_M_leastOfRing_3 : decode b_M_leastOfRing 3 = .ok (.iconst 0, 1) := by decide +kernel
theorem d_M_leastOfRing_4 : decode b_M_leastOfRing 4 = .ok (.istore_n 2, 1) := by decide +kernel
theorem d_M_leastOfRing_5 : decode b_M_leastOfRing 5 = .ok (.iload_n 2, 1) := by decide +kernel
theorem d_M_leastOfRing_6 : decode b_M_leastOfRing 6 = .ok (.aload_n 0, 1) := by decide +kernel
theorem d_M_leastOfRing_7 : decode b_M_leastOfRing 7 = .ok (.getfield 243, 3) := by decide +kernel
theorem d_M_leastOfRing_10 : decode b_M_leastOfRing 10 = .ok (.if_icmp .ge 40, 3) := by decide +kernel
theorem d_M_leastOfRing_13 : decode b_M_leastOfRing 13 = .ok (.aload_n 0, 1) := by decide +kernel
theorem d_M_leastOfRing_14 : decode b_M_leastOfRing 14 = .ok (.getfield 41, 3) := by decide +kernel
theorem d_M_leastOfRing_17 : decode b_M_leastOfRing 17 = .ok (.aload_n 0, 1) := by decide +kernel
theorem d_M_leastOfRing_18 : decode b_M_leastOfRing 18 = .ok (.getfield 44, 3) := by decide +kernel
theorem d_M_leastOfRing_21 : decode b_M_leastOfRing 21 = .ok (.iload_n 2, 1) := by decide +kernel
theorem d_M_leastOfRing_22 : decode b_M_leastOfRing 22 = .ok (.iaload, 1) := by decide +kernel
theorem d_M_leastOfRing_23 : decode b_M_leastOfRing 23 = .ok (.iaload, 1) := by decide +kernel
theorem d_M_leastOfRing_24 : decode b_M_leastOfRing 24 = .ok (.iload_n 1, 1) := by decide +kernel
theorem d_M_leastOfRing_25 : decode b_M_leastOfRing 25 = .ok (.if_icmp .ge 17, 3) := by decide +kernel
theorem d_M_leastOfRing_28 : decode b_M_leastOfRing 28 = .ok (.aload_n 0, 1) := by decide +kernel
theorem d_M_leastOfRing_29 : decode b_M_leastOfRing 29 = .ok (.getfield 41, 3) := by decide +kernel
theorem d_M_leastOfRing_32 : decode b_M_leastOfRing 32 = .ok (.aload_n 0, 1) := by decide +kernel
theorem d_M_leastOfRing_33 : decode b_M_leastOfRing 33 = .ok (.getfield 44, 3) := by decide +kernel
theorem d_M_leastOfRing_36 : decode b_M_leastOfRing 36 = .ok (.iload_n 2, 1) := by decide +kernel
theorem d_M_leastOfRing_37 : decode b_M_leastOfRing 37 = .ok (.iaload, 1) := by decide +kernel
theorem d_M_leastOfRing_38 : decode b_M_leastOfRing 38 = .ok (.iaload, 1) := by decide +kernel
theorem d_M_leastOfRing_39 : decode b_M_leastOfRing 39 = .ok (.goto 4, 3) := by decide +kernel
theorem d_M_leastOfRing_42 : decode b_M_leastOfRing 42 = .ok (.iload_n 1, 1) := by decide +kernel
theorem d_M_leastOfRing_43 : decode b_M_leastOfRing 43 = .ok (.istore_n 1, 1) := by decide +kernel
theorem d_M_leastOfRing_44 : decode b_M_leastOfRing 44 = .ok (.iinc 2 1, 3) := by decide +kernel
theorem d_M_leastOfRing_47 : decode b_M_leastOfRing 47 = .ok (.goto (-42), 3) := by decide +kernel
theorem d_M_leastOfRing_50 : decode b_M_leastOfRing 50 = .ok (.iload_n 1, 1) := by decide +kernel
theorem d_M_leastOfRing_51 : decode b_M_leastOfRing 51 = .ok (.ireturn, 1) := by decide +kernel
theorem d_M_leave_0 : decode b_M_leave 0 = .ok (.aload_n 0, 1) := by decide +kernel
theorem d_M_leave_1 : decode b_M_leave 1 = .ok (.getfield 7, 3) := by decide +kernel
theorem d_M_leave_4 : decode b_M_leave 4 = .ok (.iconst 2, 1) := by decide +kernel
theorem d_M_leave_5 : decode b_M_leave 5 = .ok (.bipush 6, 2) := by decide +kernel
theorem d_M_leave_7 : decode b_M_leave 7 = .ok (.iload_n 1, 1) := by decide +kernel
theorem d_M_leave_8 : decode b_M_leave 8 = .ok (.imul, 1) := by decide +kernel
theorem d_M_leave_9 : decode b_M_leave 9 = .ok (.iadd, 1) := by decide +kernel
theorem d_M_leave_10 : decode b_M_leave 10 = .ok (.iconst 3, 1) := by decide +kernel
theorem d_M_leave_11 : decode b_M_leave 11 = .ok (.iadd, 1) := by decide +kernel
theorem d_M_leave_12 : decode b_M_leave 12 = .ok (.iload_n 2, 1) := by decide +kernel
theorem d_M_leave_13 : decode b_M_leave 13 = .ok (.iastore, 1) := by decide +kernel
theorem d_M_leave_14 : decode b_M_leave 14 = .ok (.return_, 1) := by decide +kernel
theorem d_M_left_0 : decode b_M_left 0 = .ok (.iload_n 1, 1) := by decide +kernel
theorem d_M_left_1 : decode b_M_left 1 = .ok (.i2l, 1) := by decide +kernel
theorem d_M_left_2 : decode b_M_left 2 = .ok (.lconst 0, 1) := by decide +kernel
theorem d_M_left_3 : decode b_M_left 3 = .ok (.lconst 1, 1) := by decide +kernel
theorem d_M_left_4 : decode b_M_left 4 = .ok (.invokestatic 65, 3) := by decide +kernel
theorem d_M_left_7 : decode b_M_left 7 = .ok (.ifCond .ne 5, 3) := by decide +kernel
theorem d_M_left_10 : decode b_M_left 10 = .ok (.iconst (-1), 1) := by decide +kernel
theorem d_M_left_11 : decode b_M_left 11 = .ok (.ireturn, 1) := by decide +kernel
theorem d_M_left_12 : decode b_M_left 12 = .ok (.aload_n 0, 1) := by decide +kernel
theorem d_M_left_13 : decode b_M_left 13 = .ok (.iconst 0, 1) := by decide +kernel
theorem d_M_left_14 : decode b_M_left 14 = .ok (.putfield 60, 3) := by decide +kernel
theorem d_M_left_17 : decode b_M_left 17 = .ok (.aload_n 0, 1) := by decide +kernel
theorem d_M_left_18 : decode b_M_left 18 = .ok (.iload_n 1, 1) := by decide +kernel
theorem d_M_left_19 : decode b_M_left 19 = .ok (.invokevirtual 255, 3) := by decide +kernel
theorem d_M_left_22 : decode b_M_left 22 = .ok (.aload_n 0, 1) := by decide +kernel
theorem d_M_left_23 : decode b_M_left 23 = .ok (.invokevirtual 271, 3) := by decide +kernel
theorem d_M_left_26 : decode b_M_left 26 = .ok (.ifCond .eq 50, 3) := by decide +kernel
theorem d_M_left_29 : decode b_M_left 29 = .ok (.iconst 0, 1) := by decide +kernel
theorem d_M_left_30 : decode b_M_left 30 = .ok (.istore_n 2, 1) := by decide +kernel
theorem d_M_left_31 : decode b_M_left 31 = .ok (.iload_n 2, 1) := by decide +kernel
theorem d_M_left_32 : decode b_M_left 32 = .ok (.aload_n 0, 1) := by decide +kernel
theorem d_M_left_33 : decode b_M_left 33 = .ok (.getfield 265, 3) := by decide +kernel
theorem d_M_left_36 : decode b_M_left 36 = .ok (.if_icmp .ge 27, 3) := by decide +kernel
theorem d_M_left_39 : decode b_M_left 39 = .ok (.aload_n 0, 1) := by decide +kernel
theorem d_M_left_40 : decode b_M_left 40 = .ok (.getfield 41, 3) := by decide +kernel
theorem d_M_left_43 : decode b_M_left 43 = .ok (.aload_n 0, 1) := by decide +kernel
theorem d_M_left_44 : decode b_M_left 44 = .ok (.getfield 47, 3) := by decide +kernel
theorem d_M_left_47 : decode b_M_left 47 = .ok (.iload_n 2, 1) := by decide +kernel
theorem d_M_left_48 : decode b_M_left 48 = .ok (.iaload, 1) := by decide +kernel
theorem d_M_left_49 : decode b_M_left 49 = .ok (.dup2, 1) := by decide +kernel
theorem d_M_left_50 : decode b_M_left 50 = .ok (.iaload, 1) := by decide +kernel
theorem d_M_left_51 : decode b_M_left 51 = .ok (.aload_n 0, 1) := by decide +kernel
theorem d_M_left_52 : decode b_M_left 52 = .ok (.getfield 268, 3) := by decide +kernel
theorem d_M_left_55 : decode b_M_left 55 = .ok (.isub, 1) := by decide +kernel
theorem d_M_left_56 : decode b_M_left 56 = .ok (.iastore, 1) := by decide +kernel
theorem d_M_left_57 : decode b_M_left 57 = .ok (.iinc 2 1, 3) := by decide +kernel
theorem d_M_left_60 : decode b_M_left 60 = .ok (.goto (-29), 3) := by decide +kernel
theorem d_M_left_63 : decode b_M_left 63 = .ok (.aload_n 0, 1) := by decide +kernel
theorem d_M_left_64 : decode b_M_left 64 = .ok (.dup, 1) := by decide +kernel
theorem d_M_left_65 : decode b_M_left 65 = .ok (.getfield 60, 3) := by decide +kernel
theorem d_M_left_68 : decode b_M_left 68 = .ok (.iconst 1, 1) := by decide +kernel
theorem d_M_left_69 : decode b_M_left 69 = .ok (.iadd, 1) := by decide +kernel
theorem d_M_left_70 : decode b_M_left 70 = .ok (.putfield 60, 3) := by decide +kernel
theorem d_M_left_73 : decode b_M_left 73 = .ok (.goto (-51), 3) := by decide +kernel
theorem d_M_left_76 : decode b_M_left 76 = .ok (.iconst 0, 1) := by decide +kernel
theorem d_M_left_77 : decode b_M_left 77 = .ok (.istore_n 2, 1) := by decide +kernel
theorem d_M_left_78 : decode b_M_left 78 = .ok (.iconst 0, 1) := by decide +kernel
theorem d_M_left_79 : decode b_M_left 79 = .ok (.istore_n 3, 1) := by decide +kernel
theorem d_M_left_80 : decode b_M_left 80 = .ok (.iload_n 3, 1) := by decide +kernel
theorem d_M_left_81 : decode b_M_left 81 = .ok (.bipush 12, 2) := by decide +kernel
theorem d_M_left_83 : decode b_M_left 83 = .ok (.if_icmp .ge 18, 3) := by decide +kernel
theorem d_M_left_86 : decode b_M_left 86 = .ok (.iload_n 2, 1) := by decide +kernel
theorem d_M_left_87 : decode b_M_left 87 = .ok (.aload_n 0, 1) := by decide +kernel
theorem d_M_left_88 : decode b_M_left 88 = .ok (.getfield 41, 3) := by decide +kernel
theorem d_M_left_91 : decode b_M_left 91 = .ok (.iload_n 3, 1) := by decide +kernel
theorem d_M_left_92 : decode b_M_left 92 = .ok (.iaload, 1) := by decide +kernel
theorem d_M_left_93 : decode b_M_left 93 = .ok (.iadd, 1) := by decide +kernel
theorem d_M_left_94 : decode b_M_left 94 = .ok (.istore_n 2, 1) := by decide +kernel
theorem d_M_left_95 : decode b_M_left 95 = .ok (.iinc 3 1, 3) := by decide +kernel
theorem d_M_left_98 : decode b_M_left 98 = .ok (.goto (-18), 3) := by decide +kernel
theorem d_M_left_101 : decode b_M_left 101 = .ok (.iload_n 2, 1) := by decide +kernel
theorem d_M_left_102 : decode b_M_left 102 = .ok (.ireturn, 1) := by decide +kernel
theorem d_M_lessen_0 : decode b_M_lessen 0 = .ok (.iload 4, 2) := by decide +kernel
theorem d_M_lessen_2 : decode b_M_lessen 2 = .ok (.istore 5, 2) := by decide +kernel
theorem d_M_lessen_4 : decode b_M_lessen 4 = .ok (.iconst 0, 1) := by decide +kernel
theorem d_M_lessen_5 : decode b_M_lessen 5 = .ok (.istore 6, 2) := by decide +kernel
theorem d_M_lessen_7 : decode b_M_lessen 7 = .ok (.iload 6, 2) := by decide +kernel
theorem d_M_lessen_9 : decode b_M_lessen 9 = .ok (.aload_n 0, 1) := by decide +kernel
theorem d_M_lessen_10 : decode b_M_lessen 10 = .ok (.getfield 7, 3) := by decide +kernel
theorem d_M_lessen_13 : decode b_M_lessen 13 = .ok (.iconst 1, 1) := by decide +kernel
theorem d_M_lessen_14 : decode b_M_lessen 14 = .ok (.iaload, 1) := by decide +kernel
theorem d_M_lessen_15 : decode b_M_lessen 15 = .ok (.if_icmp .ge 80, 3) := by decide +kernel
theorem d_M_lessen_18 : decode b_M_lessen 18 = .ok (.aload_n 0, 1) := by decide +kernel
theorem d_M_lessen_19 : decode b_M_lessen 19 = .ok (.iload 6, 2) := by decide +kernel
theorem d_M_lessen_21 : decode b_M_lessen 21 = .ok (.iload_n 1, 1) := by decide +kernel
theorem d_M_lessen_22 : decode b_M_lessen 22 = .ok (.iload_n 2, 1) := by decide +kernel
theorem d_M_lessen_23 : decode b_M_lessen 23 = .ok (.invokevirtual 213, 3) := by decide +kernel
theorem d_M_lessen_26 : decode b_M_lessen 26 = .ok (.ifCond .eq 63, 3) := by decide +kernel
theorem d_M_lessen_29 : decode b_M_lessen 29 = .ok (.aload_n 0, 1) := by decide +kernel
theorem d_M_lessen_30 : decode b_M_lessen 30 = .ok (.iload 6, 2) := by decide +kernel
theorem d_M_lessen_32 : decode b_M_lessen 32 = .ok (.iconst 2, 1) := by decide +kernel
theorem d_M_lessen_33 : decode b_M_lessen 33 = .ok (.invokevirtual 146, 3) := by decide +kernel
theorem d_M_lessen_36 : decode b_M_lessen 36 = .ok (.iload_n 3, 1) := by decide +kernel
theorem d_M_lessen_37 : decode b_M_lessen 37 = .ok (.if_icmp .ne 52, 3) := by decide +kernel
theorem d_M_lessen_40 : decode b_M_lessen 40 = .ok (.aload_n 0, 1) := by decide +kernel
theorem d_M_lessen_41 : decode b_M_lessen 41 = .ok (.iload 6, 2) := by decide +kernel
theorem d_M_lessen_43 : decode b_M_lessen 43 = .ok (.iconst 3, 1) := by decide +kernel
theorem d_M_lessen_44 : decode b_M_lessen 44 = .ok (.invokevirtual 146, 3) := by decide +kernel
theorem d_M_lessen_47 : decode b_M_lessen 47 = .ok (.iload 5, 2) := by decide +kernel
theorem d_M_lessen_49 : decode b_M_lessen 49 = .ok (.if_icmp .ge 13, 3) := by decide +kernel
theorem d_M_lessen_52 : decode b_M_lessen 52 = .ok (.aload_n 0, 1) := by decide +kernel
theorem d_M_lessen_53 : decode b_M_lessen 53 = .ok (.iload 6, 2) := by decide +kernel
theorem d_M_lessen_55 : decode b_M_lessen 55 = .ok (.iconst 3, 1) := by decide +kernel
theorem d_M_lessen_56 : decode b_M_lessen 56 = .ok (.invokevirtual 146, 3) := by decide +kernel
theorem d_M_lessen_59 : decode b_M_lessen 59 = .ok (.goto 5, 3) := by decide +kernel
theorem d_M_lessen_62 : decode b_M_lessen 62 = .ok (.iload 5, 2) := by decide +kernel
theorem d_M_lessen_64 : decode b_M_lessen 64 = .ok (.istore 7, 2) := by decide +kernel
theorem d_M_lessen_66 : decode b_M_lessen 66 = .ok (.aload_n 0, 1) := by decide +kernel
theorem d_M_lessen_67 : decode b_M_lessen 67 = .ok (.iload 6, 2) := by decide +kernel
theorem d_M_lessen_69 : decode b_M_lessen 69 = .ok (.aload_n 0, 1) := by decide +kernel
theorem d_M_lessen_70 : decode b_M_lessen 70 = .ok (.iload 6, 2) := by decide +kernel
theorem d_M_lessen_72 : decode b_M_lessen 72 = .ok (.iconst 3, 1) := by decide +kernel
theorem d_M_lessen_73 : decode b_M_lessen 73 = .ok (.invokevirtual 146, 3) := by decide +kernel
theorem d_M_lessen_76 : decode b_M_lessen 76 = .ok (.iload 7, 2) := by decide +kernel
theorem d_M_lessen_78 : decode b_M_lessen 78 = .ok (.isub, 1) := by decide +kernel
theorem d_M_lessen_79 : decode b_M_lessen 79 = .ok (.invokevirtual 219, 3) := by decide +kernel
theorem d_M_lessen_82 : decode b_M_lessen 82 = .ok (.iload 5, 2) := by decide +kernel
theorem d_M_lessen_84 : decode b_M_lessen 84 = .ok (.iload 7, 2) := by decide +kernel
theorem d_M_lessen_86 : decode b_M_lessen 86 = .ok (.isub, 1) := by decide +kernel
theorem d_M_lessen_87 : decode b_M_lessen 87 = .ok (.istore 5, 2) := by decide +kernel
theorem d_M_lessen_89 : decode b_M_lessen 89 = .ok (.iinc 6 1, 3) := by decide +kernel
theorem d_M_lessen_92 : decode b_M_lessen 92 = .ok (.goto (-85), 3) := by decide +kernel
theorem d_M_lessen_95 : decode b_M_lessen 95 = .ok (.return_, 1) := by decide +kernel
theorem d_M_lots_0 : decode b_M_lots 0 = .ok (.iload_n 1, 1) := by decide +kernel
theorem d_M_lots_1 : decode b_M_lots 1 = .ok (.i2l, 1) := by decide +kernel
theorem d_M_lots_2 : decode b_M_lots 2 = .ok (.lconst 1, 1) := by decide +kernel
theorem d_M_lots_3 : decode b_M_lots 3 = .ok (.ldc2_w 329, 3) := by decide +kernel
theorem d_M_lots_6 : decode b_M_lots 6 = .ok (.invokestatic 65, 3) := by decide +kernel
theorem d_M_lots_9 : decode b_M_lots 9 = .ok (.ifCond .eq 15, 3) := by decide +kernel
theorem d_M_lots_12 : decode b_M_lots 12 = .ok (.iload_n 2, 1) := by decide +kernel
theorem d_M_lots_13 : decode b_M_lots 13 = .ok (.i2l, 1) := by decide +kernel
theorem d_M_lots_14 : decode b_M_lots 14 = .ok (.lconst 1, 1) := by decide +kernel
theorem d_M_lots_15 : decode b_M_lots 15 = .ok (.ldc2_w 331, 3) := by decide +kernel
theorem d_M_lots_18 : decode b_M_lots 18 = .ok (.invokestatic 65, 3) := by decide +kernel
theorem d_M_lots_21 : decode b_M_lots 21 = .ok (.ifCond .ne 5, 3) := by decide +kernel
theorem d_M_lots_24 : decode b_M_lots 24 = .ok (.iconst (-1), 1) := by decide +kernel
theorem d_M_lots_25 : decode b_M_lots 25 = .ok (.ireturn, 1) := by decide +kernel
theorem d_M_lots_26 : decode b_M_lots 26 = .ok (.aload_n 0, 1) := by decide +kernel
theorem d_M_lots_27 : decode b_M_lots 27 = .ok (.getfield 136, 3) := by decide +kernel
theorem d_M_lots_30 : decode b_M_lots 30 = .ok (.ifCond .ne 6, 3) := by decide +kernel
theorem d_M_lots_33 : decode b_M_lots 33 = .ok (.bipush (-4), 2) := by decide +kernel
theorem d_M_lots_35 : decode b_M_lots 35 = .ok (.ireturn, 1) := by decide +kernel
theorem d_M_lots_36 : decode b_M_lots 36 = .ok (.aload_n 0, 1) := by decide +kernel
theorem d_M_lots_37 : decode b_M_lots 37 = .ok (.getfield 7, 3) := by decide +kernel
theorem d_M_lots_40 : decode b_M_lots 40 = .ok (.iconst 0, 1) := by decide +kernel
theorem d_M_lots_41 : decode b_M_lots 41 = .ok (.iaload, 1) := by decide +kernel
theorem d_M_lots_42 : decode b_M_lots 42 = .ok (.iload_n 1, 1) := by decide +kernel
theorem d_M_lots_43 : decode b_M_lots 43 = .ok (.iadd, 1) := by decide +kernel
theorem d_M_lots_44 : decode b_M_lots 44 = .ok (.bipush 40, 2) := by decide +kernel
theorem d_M_lots_46 : decode b_M_lots 46 = .ok (.if_icmp .le 6, 3) := by decide +kernel
theorem d_M_lots_49 : decode b_M_lots 49 = .ok (.bipush (-2), 2) := by decide +kernel
theorem d_M_lots_51 : decode b_M_lots 51 = .ok (.ireturn, 1) := by decide +kernel
theorem d_M_lots_52 : decode b_M_lots 52 = .ok (.iload_n 2, 1) := by decide +kernel
theorem d_M_lots_53 : decode b_M_lots 53 = .ok (.i2l, 1) := by decide +kernel
theorem d_M_lots_54 : decode b_M_lots 54 = .ok (.lstore_n 3, 1) := by decide +kernel
theorem d_M_lots_55 : decode b_M_lots 55 = .ok (.iconst 0, 1) := by decide +kernel
theorem d_M_lots_56 : decode b_M_lots 56 = .ok (.istore 5, 2) := by decide +kernel
theorem d_M_lots_58 : decode b_M_lots 58 = .ok (.iconst 0, 1) := by decide +kernel
theorem d_M_lots_59 : decode b_M_lots 59 = .ok (.istore 6, 2) := by decide +kernel
theorem d_M_lots_61 : decode b_M_lots 61 = .ok (.iload 6, 2) := by decide +kernel
theorem d_M_lots_63 : decode b_M_lots 63 = .ok (.iload_n 1, 1) := by decide +kernel
theorem d_M_lots_64 : decode b_M_lots 64 = .ok (.if_icmp .ge 68, 3) := by decide +kernel
theorem d_M_lots_67 : decode b_M_lots 67 = .ok (.lload_n 3, 1) := by decide +kernel
theorem d_M_lots_68 : decode b_M_lots 68 = .ok (.ldc2_w 333, 3) := by decide +kernel
theorem d_M_lots_71 : decode b_M_lots 71 = .ok (.lmul, 1) := by decide +kernel
theorem d_M_lots_72 : decode b_M_lots 72 = .ok (.ldc2_w 335, 3) := by decide +kernel
theorem d_M_lots_75 : decode b_M_lots 75 = .ok (.lrem, 1) := by decide +kernel
theorem d_M_lots_76 : decode b_M_lots 76 = .ok (.lstore_n 3, 1) := by decide +kernel
theorem d_M_lots_77 : decode b_M_lots 77 = .ok (.lload_n 3, 1) := by decide +kernel
theorem d_M_lots_78 : decode b_M_lots 78 = .ok (.aload_n 0, 1) := by decide +kernel
theorem d_M_lots_79 : decode b_M_lots 79 = .ok (.getfield 136, 3) := by decide +kernel
theorem d_M_lots_82 : decode b_M_lots 82 = .ok (.i2l, 1) := by decide +kernel
theorem d_M_lots_83 : decode b_M_lots 83 = .ok (.lrem, 1) := by decide +kernel
theorem d_M_lots_84 : decode b_M_lots 84 = .ok (.l2i, 1) := by decide +kernel
theorem d_M_lots_85 : decode b_M_lots 85 = .ok (.istore 7, 2) := by decide +kernel
theorem d_M_lots_87 : decode b_M_lots 87 = .ok (.iconst 1, 1) := by decide +kernel
theorem d_M_lots_88 : decode b_M_lots 88 = .ok (.lload_n 3, 1) := by decide +kernel
theorem d_M_lots_89 : decode b_M_lots 89 = .ok (.ldc2_w 337, 3) := by decide +kernel
theorem d_M_lots_92 : decode b_M_lots 92 = .ok (.ldiv, 1) := by decide +kernel
theorem d_M_lots_93 : decode b_M_lots 93 = .ok (.aload_n 0, 1) := by decide +kernel
theorem d_M_lots_94 : decode b_M_lots 94 = .ok (.getfield 136, 3) := by decide +kernel
theorem d_M_lots_97 : decode b_M_lots 97 = .ok (.iconst 1, 1) := by decide +kernel
theorem d_M_lots_98 : decode b_M_lots 98 = .ok (.isub, 1) := by decide +kernel
theorem d_M_lots_99 : decode b_M_lots 99 = .ok (.i2l, 1) := by decide +kernel
theorem d_M_lots_100 : decode b_M_lots 100 = .ok (.lrem, 1) := by decide +kernel
theorem d_M_lots_101 : decode b_M_lots 101 = .ok (.l2i, 1) := by decide +kernel
theorem d_M_lots_102 : decode b_M_lots 102 = .ok (.iadd, 1) := by decide +kernel
theorem d_M_lots_103 : decode b_M_lots 103 = .ok (.istore 8, 2) := by decide +kernel
theorem d_M_lots_105 : decode b_M_lots 105 = .ok (.iload 5, 2) := by decide +kernel
theorem d_M_lots_107 : decode b_M_lots 107 = .ok (.aload_n 0, 1) := by decide +kernel
theorem d_M_lots_108 : decode b_M_lots 108 = .ok (.iload 7, 2) := by decide +kernel
theorem d_M_lots_110 : decode b_M_lots 110 = .ok (.iload 7, 2) := by decide +kernel
theorem d_M_lots_112 : decode b_M_lots 112 = .ok (.iload 8, 2) := by decide +kernel
theorem d_M_lots_114 : decode b_M_lots 114 = .ok (.iadd, 1) := by decide +kernel
theorem d_M_lots_115 : decode b_M_lots 115 = .ok (.aload_n 0, 1) := by decide +kernel
theorem d_M_lots_116 : decode b_M_lots 116 = .ok (.getfield 136, 3) := by decide +kernel
theorem d_M_lots_119 : decode b_M_lots 119 = .ok (.irem, 1) := by decide +kernel
theorem d_M_lots_120 : decode b_M_lots 120 = .ok (.invokevirtual 231, 3) := by decide +kernel
theorem d_M_lots_123 : decode b_M_lots 123 = .ok (.iadd, 1) := by decide +kernel
theorem d_M_lots_124 : decode b_M_lots 124 = .ok (.istore 5, 2) := by decide +kernel
theorem d_M_lots_126 : decode b_M_lots 126 = .ok (.iinc 6 1, 3) := by decide +kernel
theorem d_M_lots_129 : decode b_M_lots 129 = .ok (.goto (-68), 3) := by decide +kernel
theorem d_M_lots_132 : decode b_M_lots 132 = .ok (.iload 5, 2) := by decide +kernel
theorem d_M_lots_134 : decode b_M_lots 134 = .ok (.ireturn, 1) := by decide +kernel
theorem d_M_lower_0 : decode b_M_lower 0 = .ok (.aload_n 0, 1) := by decide +kernel
theorem d_M_lower_1 : decode b_M_lower 1 = .ok (.getfield 28, 3) := by decide +kernel
theorem d_M_lower_4 : decode b_M_lower 4 = .ok (.lreturn, 1) := by decide +kernel
theorem d_M_makeRow_0 : decode b_M_makeRow 0 = .ok (.aload_n 0, 1) := by decide +kernel
theorem d_M_makeRow_1 : decode b_M_makeRow 1 = .ok (.getfield 16, 3) := by decide +kernel
theorem d_M_makeRow_4 : decode b_M_makeRow 4 = .ok (.iload_n 1, 1) := by decide +kernel
theorem d_M_makeRow_5 : decode b_M_makeRow 5 = .ok (.iload_n 2, 1) := by decide +kernel
theorem d_M_makeRow_6 : decode b_M_makeRow 6 = .ok (.iastore, 1) := by decide +kernel
theorem d_M_makeRow_7 : decode b_M_makeRow 7 = .ok (.iconst 0, 1) := by decide +kernel
theorem d_M_makeRow_8 : decode b_M_makeRow 8 = .ok (.istore_n 3, 1) := by decide +kernel
theorem d_M_makeRow_9 : decode b_M_makeRow 9 = .ok (.iload_n 3, 1) := by decide +kernel
theorem d_M_makeRow_10 : decode b_M_makeRow 10 = .ok (.bipush 40, 2) := by decide +kernel
theorem d_M_makeRow_12 : decode b_M_makeRow 12 = .ok (.if_icmp .ge 21, 3) := by decide +kernel
theorem d_M_makeRow_15 : decode b_M_makeRow 15 = .ok (.aload_n 0, 1) := by decide +kernel
theorem d_M_makeRow_16 : decode b_M_makeRow 16 = .ok (.getfield 19, 3) := by decide +kernel
theorem d_M_makeRow_19 : decode b_M_makeRow 19 = .ok (.bipush 40, 2) := by decide +kernel
theorem d_M_makeRow_21 : decode b_M_makeRow 21 = .ok (.iload_n 1, 1) := by decide +kernel
theorem d_M_makeRow_22 : decode b_M_makeRow 22 = .ok (.imul, 1) := by decide +kernel
theorem d_M_makeRow_23 : decode b_M_makeRow 23 = .ok (.iload_n 3, 1) := by decide +kernel
theorem d_M_makeRow_24 : decode b_M_makeRow 24 = .ok (.iadd, 1) := by decide +kernel
theorem d_M_makeRow_25 : decode b_M_makeRow 25 = .ok (.iconst 0, 1) := by decide +kernel
theorem d_M_makeRow_26 : decode b_M_makeRow 26 = .ok (.iastore, 1) := by decide +kernel
theorem d_M_makeRow_27 : decode b_M_makeRow 27 = .ok (.iinc 3 1, 3) := by decide +kernel
theorem d_M_makeRow_30 : decode b_M_makeRow 30 = .ok (.goto (-21), 3) := by decide +kernel
theorem d_M_makeRow_33 : decode b_M_makeRow 33 = .ok (.return_, 1) := by decide +kernel
theorem d_M_mark_0 : decode b_M_mark 0 = .ok (.aload_n 0, 1) := by decide +kernel
theorem d_M_mark_1 : decode b_M_mark 1 = .ok (.iload_n 1, 1) := by decide +kernel
theorem d_M_mark_2 : decode b_M_mark 2 = .ok (.invokevirtual 143, 3) := by decide +kernel
theorem d_M_mark_5 : decode b_M_mark 5 = .ok (.ifCond .eq 15, 3) := by decide +kernel
theorem d_M_mark_8 : decode b_M_mark 8 = .ok (.iload_n 2, 1) := by decide +kernel
theorem d_M_mark_9 : decode b_M_mark 9 = .ok (.i2l, 1) := by decide +kernel
theorem d_M_mark_10 : decode b_M_mark 10 = .ok (.lconst 1, 1) := by decide +kernel
theorem d_M_mark_11 : decode b_M_mark 11 = .ok (.ldc2_w 63, 3) := by decide +kernel
theorem d_M_mark_14 : decode b_M_mark 14 = .ok (.invokestatic 65, 3) := by decide +kernel
theorem d_M_mark_17 : decode b_M_mark 17 = .ok (.ifCond .ne 5, 3) := by decide +kernel
theorem d_M_mark_20 : decode b_M_mark 20 = .ok (.iconst (-1), 1) := by decide +kernel
theorem d_M_mark_21 : decode b_M_mark 21 = .ok (.ireturn, 1) := by decide +kernel
theorem d_M_mark_22 : decode b_M_mark 22 = .ok (.aload_n 0, 1) := by decide +kernel
theorem d_M_mark_23 : decode b_M_mark 23 = .ok (.iload_n 1, 1) := by decide +kernel
theorem d_M_mark_24 : decode b_M_mark 24 = .ok (.iload_n 2, 1) := by decide +kernel
theorem d_M_mark_25 : decode b_M_mark 25 = .ok (.invokevirtual 182, 3) := by decide +kernel
theorem d_M_mark_28 : decode b_M_mark 28 = .ok (.ifCond .ne 9, 3) := by decide +kernel
theorem d_M_mark_31 : decode b_M_mark 31 = .ok (.aload_n 0, 1) := by decide +kernel
theorem d_M_mark_32 : decode b_M_mark 32 = .ok (.iconst 3, 1) := by decide +kernel
theorem d_M_mark_33 : decode b_M_mark 33 = .ok (.invokevirtual 75, 3) := by decide +kernel
theorem d_M_mark_36 : decode b_M_mark 36 = .ok (.ireturn, 1) := by decide +kernel
theorem d_M_mark_37 : decode b_M_mark 37 = .ok (.iload_n 2, 1) := by decide +kernel
theorem d_M_mark_38 : decode b_M_mark 38 = .ok (.tableswitch 83 1 4 #[30, 42, 48, 77], 30) := by decide +kernel
theorem d_M_mark_68 : decode b_M_mark 68 = .ok (.aload_n 0, 1) := by decide +kernel
theorem d_M_mark_69 : decode b_M_mark 69 = .ok (.iload_n 1, 1) := by decide +kernel
theorem d_M_mark_70 : decode b_M_mark 70 = .ok (.invokevirtual 185, 3) := by decide +kernel
theorem d_M_mark_73 : decode b_M_mark 73 = .ok (.aload_n 0, 1) := by decide +kernel
theorem d_M_mark_74 : decode b_M_mark 74 = .ok (.iload_n 1, 1) := by decide +kernel
theorem d_M_mark_75 : decode b_M_mark 75 = .ok (.invokevirtual 188, 3) := by decide +kernel
theorem d_M_mark_78 : decode b_M_mark 78 = .ok (.imul, 1) := by decide +kernel
theorem d_M_mark_79 : decode b_M_mark 79 = .ok (.ireturn, 1) := by decide +kernel
theorem d_M_mark_80 : decode b_M_mark 80 = .ok (.aload_n 0, 1) := by decide +kernel
theorem d_M_mark_81 : decode b_M_mark 81 = .ok (.iload_n 1, 1) := by decide +kernel
theorem d_M_mark_82 : decode b_M_mark 82 = .ok (.invokevirtual 191, 3) := by decide +kernel
theorem d_M_mark_85 : decode b_M_mark 85 = .ok (.ireturn, 1) := by decide +kernel
theorem d_M_mark_86 : decode b_M_mark 86 = .ok (.aload_n 0, 1) := by decide +kernel
theorem d_M_mark_87 : decode b_M_mark 87 = .ok (.iload_n 1, 1) := by decide +kernel
theorem d_M_mark_88 : decode b_M_mark 88 = .ok (.iconst 0, 1) := by decide +kernel
theorem d_M_mark_89 : decode b_M_mark 89 = .ok (.invokevirtual 165, 3) := by decide +kernel
theorem d_M_mark_92 : decode b_M_mark 92 = .ok (.aload_n 0, 1) := by decide +kernel
theorem d_M_mark_93 : decode b_M_mark 93 = .ok (.iload_n 1, 1) := by decide +kernel
theorem d_M_mark_94 : decode b_M_mark 94 = .ok (.invokevirtual 168, 3) := by decide +kernel
theorem d_M_mark_97 : decode b_M_mark 97 = .ok (.iadd, 1) := by decide +kernel
theorem d_M_mark_98 : decode b_M_mark 98 = .ok (.aload_n 0, 1) := by decide +kernel
theorem d_M_mark_99 : decode b_M_mark 99 = .ok (.iload_n 1, 1) := by decide +kernel
theorem d_M_mark_100 : decode b_M_mark 100 = .ok (.invokevirtual 162, 3) := by decide +kernel
theorem d_M_mark_103 : decode b_M_mark 103 = .ok (.isub, 1) := by decide +kernel
theorem d_M_mark_104 : decode b_M_mark 104 = .ok (.istore_n 3, 1) := by decide +kernel
theorem d_M_mark_105 : decode b_M_mark 105 = .ok (.iload_n 3, 1) := by decide +kernel
theorem d_M_mark_106 : decode b_M_mark 106 = .ok (.ifCond .le 7, 3) := by decide +kernel
theorem d_M_mark_109 : decode b_M_mark 109 = .ok (.iload_n 3, 1) := by decide +kernel
theorem d_M_mark_110 : decode b_M_mark 110 = .ok (.goto 4, 3) := by decide +kernel
theorem d_M_mark_113 : decode b_M_mark 113 = .ok (.iconst 0, 1) := by decide +kernel
theorem d_M_mark_114 : decode b_M_mark 114 = .ok (.ireturn, 1) := by decide +kernel
theorem d_M_mark_115 : decode b_M_mark 115 = .ok (.aload_n 0, 1) := by decide +kernel
theorem d_M_mark_116 : decode b_M_mark 116 = .ok (.iload_n 1, 1) := by decide +kernel
theorem d_M_mark_117 : decode b_M_mark 117 = .ok (.invokevirtual 194, 3) := by decide +kernel
theorem d_M_mark_120 : decode b_M_mark 120 = .ok (.ireturn, 1) := by decide +kernel
theorem d_M_mark_121 : decode b_M_mark 121 = .ok (.aload_n 0, 1) := by decide +kernel
theorem d_M_mark_122 : decode b_M_mark 122 = .ok (.iload_n 1, 1) := by decide +kernel
theorem d_M_mark_123 : decode b_M_mark 123 = .ok (.iconst 0, 1) := by decide +kernel
theorem d_M_mark_124 : decode b_M_mark 124 = .ok (.invokevirtual 197, 3) := by decide +kernel
theorem d_M_mark_127 : decode b_M_mark 127 = .ok (.aload_n 0, 1) := by decide +kernel
theorem d_M_mark_128 : decode b_M_mark 128 = .ok (.iload_n 1, 1) := by decide +kernel
theorem d_M_mark_129 : decode b_M_mark 129 = .ok (.iconst 1, 1) := by decide +kernel
theorem d_M_mark_130 : decode b_M_mark 130 = .ok (.invokevirtual 197, 3) := by decide +kernel
theorem d_M_mark_133 : decode b_M_mark 133 = .ok (.iadd, 1) := by decide +kernel
theorem d_M_mark_134 : decode b_M_mark 134 = .ok (.ireturn, 1) := by decide +kernel
theorem d_M_mean_0 : decode b_M_mean 0 = .ok (.iload_n 1, 1) := by decide +kernel
theorem d_M_mean_1 : decode b_M_mean 1 = .ok (.invokestatic 71, 3) := by decide +kernel
theorem d_M_mean_4 : decode b_M_mean 4 = .ok (.ifCond .ne 5, 3) := by decide +kernel
theorem d_M_mean_7 : decode b_M_mean 7 = .ok (.iconst (-1), 1) := by decide +kernel
theorem d_M_mean_8 : decode b_M_mean 8 = .ok (.ireturn, 1) := by decide +kernel
theorem d_M_mean_9 : decode b_M_mean 9 = .ok (.aload_n 0, 1) := by decide +kernel
theorem d_M_mean_10 : decode b_M_mean 10 = .ok (.getfield 16, 3) := by decide +kernel
theorem d_M_mean_13 : decode b_M_mean 13 = .ok (.iload_n 1, 1) := by decide +kernel
theorem d_M_mean_14 : decode b_M_mean 14 = .ok (.iaload, 1) := by decide +kernel
theorem d_M_mean_15 : decode b_M_mean 15 = .ok (.ifCond .ge 9, 3) := by decide +kernel
theorem d_M_mean_18 : decode b_M_mean 18 = .ok (.aload_n 0, 1) := by decide +kernel
theorem d_M_mean_19 : decode b_M_mean 19 = .ok (.iconst 1, 1) := by decide +kernel
theorem d_M_mean_20 : decode b_M_mean 20 = .ok (.invokevirtual 75, 3) := by decide +kernel
theorem d_M_mean_23 : decode b_M_mean 23 = .ok (.ireturn, 1) := by decide +kernel
theorem d_M_mean_24 : decode b_M_mean 24 = .ok (.aload_n 0, 1) := by decide +kernel
theorem d_M_mean_25 : decode b_M_mean 25 = .ok (.getfield 16, 3) := by decide +kernel
theorem d_M_mean_28 : decode b_M_mean 28 = .ok (.iload_n 1, 1) := by decide +kernel
theorem d_M_mean_29 : decode b_M_mean 29 = .ok (.iaload, 1) := by decide +kernel
theorem d_M_mean_30 : decode b_M_mean 30 = .ok (.ifCond .ne 9, 3) := by decide +kernel
theorem d_M_mean_33 : decode b_M_mean 33 = .ok (.aload_n 0, 1) := by decide +kernel
theorem d_M_mean_34 : decode b_M_mean 34 = .ok (.iconst 4, 1) := by decide +kernel
theorem d_M_mean_35 : decode b_M_mean 35 = .ok (.invokevirtual 75, 3) := by decide +kernel
theorem d_M_mean_38 : decode b_M_mean 38 = .ok (.ireturn, 1) := by decide +kernel
theorem d_M_mean_39 : decode b_M_mean 39 = .ok (.lconst 0, 1) := by decide +kernel
theorem d_M_mean_40 : decode b_M_mean 40 = .ok (.lstore_n 2, 1) := by decide +kernel
theorem d_M_mean_41 : decode b_M_mean 41 = .ok (.iconst 0, 1) := by decide +kernel
theorem d_M_mean_42 : decode b_M_mean 42 = .ok (.istore 4, 2) := by decide +kernel
theorem d_M_mean_44 : decode b_M_mean 44 = .ok (.iload 4, 2) := by decide +kernel
theorem d_M_mean_46 : decode b_M_mean 46 = .ok (.aload_n 0, 1) := by decide +kernel
theorem d_M_mean_47 : decode b_M_mean 47 = .ok (.getfield 16, 3) := by decide +kernel
theorem d_M_mean_50 : decode b_M_mean 50 = .ok (.iload_n 1, 1) := by decide +kernel
theorem d_M_mean_51 : decode b_M_mean 51 = .ok (.iaload, 1) := by decide +kernel
theorem d_M_mean_52 : decode b_M_mean 52 = .ok (.if_icmp .ge 25, 3) := by decide +kernel
theorem d_M_mean_55 : decode b_M_mean 55 = .ok (.lload_n 2, 1) := by decide +kernel
theorem d_M_mean_56 : decode b_M_mean 56 = .ok (.aload_n 0, 1) := by decide +kernel
theorem d_M_mean_57 : decode b_M_mean 57 = .ok (.getfield 19, 3) := by decide +kernel
theorem d_M_mean_60 : decode b_M_mean 60 = .ok (.bipush 40, 2) := by decide +kernel
theorem d_M_mean_62 : decode b_M_mean 62 = .ok (.iload_n 1, 1) := by decide +kernel
theorem d_M_mean_63 : decode b_M_mean 63 = .ok (.imul, 1) := by decide +kernel
theorem d_M_mean_64 : decode b_M_mean 64 = .ok (.iload 4, 2) := by decide +kernel
theorem d_M_mean_66 : decode b_M_mean 66 = .ok (.iadd, 1) := by decide +kernel
theorem d_M_mean_67 : decode b_M_mean 67 = .ok (.iaload, 1) := by decide +kernel
theorem d_M_mean_68 : decode b_M_mean 68 = .ok (.i2l, 1) := by decide +kernel
theorem d_M_mean_69 : decode b_M_mean 69 = .ok (.ladd, 1) := by decide +kernel
theorem d_M_mean_70 : decode b_M_mean 70 = .ok (.lstore_n 2, 1) := by decide +kernel
theorem d_M_mean_71 : decode b_M_mean 71 = .ok (.iinc 4 1, 3) := by decide +kernel
theorem d_M_mean_74 : decode b_M_mean 74 = .ok (.goto (-30), 3) := by decide +kernel
theorem d_M_mean_77 : decode b_M_mean 77 = .ok (.aload_n 0, 1) := by decide +kernel
theorem d_M_mean_78 : decode b_M_mean 78 = .ok (.lload_n 2, 1) := by decide +kernel
theorem d_M_mean_79 : decode b_M_mean 79 = .ok (.aload_n 0, 1) := by decide +kernel
theorem d_M_mean_80 : decode b_M_mean 80 = .ok (.getfield 16, 3) := by decide +kernel
theorem d_M_mean_83 : decode b_M_mean 83 = .ok (.iload_n 1, 1) := by decide +kernel
theorem d_M_mean_84 : decode b_M_mean 84 = .ok (.iaload, 1) := by decide +kernel
theorem d_M_mean_85 : decode b_M_mean 85 = .ok (.i2l, 1) := by decide +kernel
theorem d_M_mean_86 : decode b_M_mean 86 = .ok (.ldiv, 1) := by decide +kernel
theorem d_M_mean_87 : decode b_M_mean 87 = .ok (.l2i, 1) := by decide +kernel
theorem d_M_mean_88 : decode b_M_mean 88 = .ok (.invokevirtual 87, 3) := by decide +kernel
theorem d_M_mean_91 : decode b_M_mean 91 = .ok (.ireturn, 1) := by decide +kernel
theorem d_M_meet_0 : decode b_M_meet 0 = .ok (.aload_n 0, 1) := by decide +kernel
theorem d_M_meet_1 : decode b_M_meet 1 = .ok (.iload_n 1, 1) := by decide +kernel
theorem d_M_meet_2 : decode b_M_meet 2 = .ok (.iload_n 2, 1) := by decide +kernel
theorem d_M_meet_3 : decode b_M_meet 3 = .ok (.invokevirtual 200, 3) := by decide +kernel
theorem d_M_meet_6 : decode b_M_meet 6 = .ok (.ifCond .ne 5, 3) := by decide +kernel
theorem d_M_meet_9 : decode b_M_meet 9 = .ok (.iconst (-1), 1) := by decide +kernel
theorem d_M_meet_10 : decode b_M_meet 10 = .ok (.ireturn, 1) := by decide +kernel
theorem d_M_meet_11 : decode b_M_meet 11 = .ok (.aload_n 0, 1) := by decide +kernel
theorem d_M_meet_12 : decode b_M_meet 12 = .ok (.invokevirtual 207, 3) := by decide +kernel
theorem d_M_meet_15 : decode b_M_meet 15 = .ok (.ifCond .eq 6, 3) := by decide +kernel
theorem d_M_meet_18 : decode b_M_meet 18 = .ok (.bipush (-2), 2) := by decide +kernel
theorem d_M_meet_20 : decode b_M_meet 20 = .ok (.ireturn, 1) := by decide +kernel
theorem d_M_meet_21 : decode b_M_meet 21 = .ok (.aload_n 0, 1) := by decide +kernel
theorem d_M_meet_22 : decode b_M_meet 22 = .ok (.aload_n 0, 1) := by decide +kernel
theorem d_M_meet_23 : decode b_M_meet 23 = .ok (.iload_n 1, 1) := by decide +kernel
theorem d_M_meet_24 : decode b_M_meet 24 = .ok (.iload_n 2, 1) := by decide +kernel
theorem d_M_meet_25 : decode b_M_meet 25 = .ok (.iconst 0, 1) := by decide +kernel
theorem d_M_meet_26 : decode b_M_meet 26 = .ok (.invokevirtual 222, 3) := by decide +kernel
theorem d_M_meet_29 : decode b_M_meet 29 = .ok (.aload_n 0, 1) := by decide +kernel
theorem d_M_meet_30 : decode b_M_meet 30 = .ok (.iload_n 1, 1) := by decide +kernel
theorem d_M_meet_31 : decode b_M_meet 31 = .ok (.iload_n 2, 1) := by decide +kernel
theorem d_M_meet_32 : decode b_M_meet 32 = .ok (.iconst 1, 1) := by decide +kernel
theorem d_M_meet_33 : decode b_M_meet 33 = .ok (.invokevirtual 222, 3) := by decide +kernel
theorem d_M_meet_36 : decode b_M_meet 36 = .ok (.iadd, 1) := by decide +kernel
theorem d_M_meet_37 : decode b_M_meet 37 = .ok (.putfield 60, 3) := by decide +kernel
theorem d_M_meet_40 : decode b_M_meet 40 = .ok (.aload_n 0, 1) := by decide +kernel
theorem d_M_meet_41 : decode b_M_meet 41 = .ok (.iload_n 1, 1) := by decide +kernel
theorem d_M_meet_42 : decode b_M_meet 42 = .ok (.iload_n 2, 1) := by decide +kernel
theorem d_M_meet_43 : decode b_M_meet 43 = .ok (.invokevirtual 231, 3) := by decide +kernel
theorem d_M_meet_46 : decode b_M_meet 46 = .ok (.ireturn, 1) := by decide +kernel
theorem d_M_mistletoe_0 : decode b_M_mistletoe 0 = .ok (.aload_n 0, 1) := by decide +kernel
theorem d_M_mistletoe_1 : decode b_M_mistletoe 1 = .ok (.getfield 136, 3) := by decide +kernel
theorem d_M_mistletoe_4 : decode b_M_mistletoe 4 = .ok (.ifCond .ne 6, 3) := by decide +kernel
theorem d_M_mistletoe_7 : decode b_M_mistletoe 7 = .ok (.bipush (-4), 2) := by decide +kernel
theorem d_M_mistletoe_9 : decode b_M_mistletoe 9 = .ok (.ireturn, 1) := by decide +kernel
theorem d_M_mistletoe_10 : decode b_M_mistletoe 10 = .ok (.iconst 0, 1) := by decide +kernel
theorem d_M_mistletoe_11 : decode b_M_mistletoe 11 = .ok (.istore_n 1, 1) := by decide +kernel
theorem d_M_mistletoe_12 : decode b_M_mistletoe 12 = .ok (.iconst (-1), 1) := by decide +kernel
theorem d_M_mistletoe_13 : decode b_M_mistletoe 13 = .ok (.istore_n 2, 1) := by decide +kernel
theorem d_M_mistletoe_14 : decode b_M_mistletoe 14 = .ok (.iconst 0, 1) := by decide +kernel
theorem d_M_mistletoe_15 : decode b_M_mistletoe 15 = .ok (.istore_n 3, 1) := by decide +kernel
theorem d_M_mistletoe_16 : decode b_M_mistletoe 16 = .ok (.iload_n 3, 1) := by decide +kernel
theorem d_M_mistletoe_17 : decode b_M_mistletoe 17 = .ok (.aload_n 0, 1) := by decide +kernel
theorem d_M_mistletoe_18 : decode b_M_mistletoe 18 = .ok (.getfield 136, 3) := by decide +kernel
theorem d_M_mistletoe_21 : decode b_M_mistletoe 21 = .ok (.if_icmp .ge 105, 3) := by decide +kernel
theorem d_M_mistletoe_24 : decode b_M_mistletoe 24 = .ok (.iconst 0, 1) := by decide +kernel
theorem d_M_mistletoe_25 : decode b_M_mistletoe 25 = .ok (.istore 4, 2) := by decide +kernel
theorem d_M_mistletoe_27 : decode b_M_mistletoe 27 = .ok (.iconst 0, 1) := by decide +kernel
theorem d_M_mistletoe_28 : decode b_M_mistletoe 28 = .ok (.istore 5, 2) := by decide +kernel
theorem d_M_mistletoe_30 : decode b_M_mistletoe 30 = .ok (.iload 5, 2) := by decide +kernel
theorem d_M_mistletoe_32 : decode b_M_mistletoe 32 = .ok (.aload_n 0, 1) := by decide +kernel
theorem d_M_mistletoe_33 : decode b_M_mistletoe 33 = .ok (.getfield 7, 3) := by decide +kernel
theorem d_M_mistletoe_36 : decode b_M_mistletoe 36 = .ok (.iconst 1, 1) := by decide +kernel
theorem d_M_mistletoe_37 : decode b_M_mistletoe 37 = .ok (.iaload, 1) := by decide +kernel
theorem d_M_mistletoe_38 : decode b_M_mistletoe 38 = .ok (.if_icmp .ge 57, 3) := by decide +kernel
theorem d_M_mistletoe_41 : decode b_M_mistletoe 41 = .ok (.iload 4, 2) := by decide +kernel
theorem d_M_mistletoe_43 : decode b_M_mistletoe 43 = .ok (.aload_n 0, 1) := by decide +kernel
theorem d_M_mistletoe_44 : decode b_M_mistletoe 44 = .ok (.iload 5, 2) := by decide +kernel
theorem d_M_mistletoe_46 : decode b_M_mistletoe 46 = .ok (.iconst 0, 1) := by decide +kernel
theorem d_M_mistletoe_47 : decode b_M_mistletoe 47 = .ok (.invokevirtual 146, 3) := by decide +kernel
theorem d_M_mistletoe_50 : decode b_M_mistletoe 50 = .ok (.iload_n 3, 1) := by decide +kernel
theorem d_M_mistletoe_51 : decode b_M_mistletoe 51 = .ok (.if_icmp .eq 14, 3) := by decide +kernel
theorem d_M_mistletoe_54 : decode b_M_mistletoe 54 = .ok (.aload_n 0, 1) := by decide +kernel
theorem d_M_mistletoe_55 : decode b_M_mistletoe 55 = .ok (.iload 5, 2) := by decide +kernel
theorem d_M_mistletoe_57 : decode b_M_mistletoe 57 = .ok (.iconst 1, 1) := by decide +kernel
theorem d_M_mistletoe_58 : decode b_M_mistletoe 58 = .ok (.invokevirtual 146, 3) := by decide +kernel
theorem d_M_mistletoe_61 : decode b_M_mistletoe 61 = .ok (.iload_n 3, 1) := by decide +kernel
theorem d_M_mistletoe_62 : decode b_M_mistletoe 62 = .ok (.if_icmp .ne 23, 3) := by decide +kernel
theorem d_M_mistletoe_65 : decode b_M_mistletoe 65 = .ok (.aload_n 0, 1) := by decide +kernel
theorem d_M_mistletoe_66 : decode b_M_mistletoe 66 = .ok (.iload 5, 2) := by decide +kernel
theorem d_M_mistletoe_68 : decode b_M_mistletoe 68 = .ok (.iconst 3, 1) := by decide +kernel
theorem d_M_mistletoe_69 : decode b_M_mistletoe 69 = .ok (.invokevirtual 146, 3) := by decide +kernel
theorem d_M_mistletoe_72 : decode b_M_mistletoe 72 = .ok (.aload_n 0, 1) := by decide +kernel
theorem d_M_mistletoe_73 : decode b_M_mistletoe 73 = .ok (.iload 5, 2) := by decide +kernel
theorem d_M_mistletoe_75 : decode b_M_mistletoe 75 = .ok (.iconst 3, 1) := by decide +kernel
theorem d_M_mistletoe_76 : decode b_M_mistletoe 76 = .ok (.invokevirtual 146, 3) := by decide +kernel
theorem d_M_mistletoe_79 : decode b_M_mistletoe 79 = .ok (.iconst 2, 1) := by decide +kernel
theorem d_M_mistletoe_80 : decode b_M_mistletoe 80 = .ok (.idiv, 1) := by decide +kernel
theorem d_M_mistletoe_81 : decode b_M_mistletoe 81 = .ok (.isub, 1) := by decide +kernel
theorem d_M_mistletoe_82 : decode b_M_mistletoe 82 = .ok (.goto 4, 3) := by decide +kernel
theorem d_M_mistletoe_85 : decode b_M_mistletoe 85 = .ok (.iconst 0, 1) := by decide +kernel
theorem d_M_mistletoe_86 : decode b_M_mistletoe 86 = .ok (.iadd, 1) := by decide +kernel
theorem d_M_mistletoe_87 : decode b_M_mistletoe 87 = .ok (.istore 4, 2) := by decide +kernel
theorem d_M_mistletoe_89 : decode b_M_mistletoe 89 = .ok (.iinc 5 1, 3) := by decide +kernel
theorem d_M_mistletoe_92 : decode b_M_mistletoe 92 = .ok (.goto (-62), 3) := by decide +kernel
theorem d_M_mistletoe_95 : decode b_M_mistletoe 95 = .ok (.iload 4, 2) := by decide +kernel
theorem d_M_mistletoe_97 : decode b_M_mistletoe 97 = .ok (.iload_n 2, 1) := by decide +kernel
theorem d_M_mistletoe_98 : decode b_M_mistletoe 98 = .ok (.if_icmp .le 7, 3) := by decide +kernel
theorem d_M_mistletoe_101 : decode b_M_mistletoe 101 = .ok (.iload_n 3, 1) := by decide +kernel
theorem d_M_mistletoe_102 : decode b_M_mistletoe 102 = .ok (.goto 4, 3) := by decide +kernel
theorem d_M_mistletoe_105 : decode b_M_mistletoe 105 = .ok (.iload_n 1, 1) := by decide +kernel
theorem d_M_mistletoe_106 : decode b_M_mistletoe 106 = .ok (.istore_n 1, 1) := by decide +kernel
theorem d_M_mistletoe_107 : decode b_M_mistletoe 107 = .ok (.iload 4, 2) := by decide +kernel
theorem d_M_mistletoe_109 : decode b_M_mistletoe 109 = .ok (.iload_n 2, 1) := by decide +kernel
theorem d_M_mistletoe_110 : decode b_M_mistletoe 110 = .ok (.if_icmp .le 8, 3) := by decide +kernel
theorem d_M_mistletoe_113 : decode b_M_mistletoe 113 = .ok (.iload 4, 2) := by decide +kernel
theorem d_M_mistletoe_115 : decode b_M_mistletoe 115 = .ok (.goto 4, 3) := by decide +kernel
theorem d_M_mistletoe_118 : decode b_M_mistletoe 118 = .ok (.iload_n 2, 1) := by decide +kernel
theorem d_M_mistletoe_119 : decode b_M_mistletoe 119 = .ok (.istore_n 2, 1) := by decide +kernel
theorem d_M_mistletoe_120 : decode b_M_mistletoe 120 = .ok (.iinc 3 1, 3) := by decide +kernel
theorem d_M_mistletoe_123 : decode b_M_mistletoe 123 = .ok (.goto (-107), 3) := by decide +kernel
theorem d_M_mistletoe_126 : decode b_M_mistletoe 126 = .ok (.aload_n 0, 1) := by decide +kernel
theorem d_M_mistletoe_127 : decode b_M_mistletoe 127 = .ok (.iload_n 2, 1) := by decide +kernel
theorem d_M_mistletoe_128 : decode b_M_mistletoe 128 = .ok (.putfield 60, 3) := by decide +kernel
theorem d_M_mistletoe_131 : decode b_M_mistletoe 131 = .ok (.iload_n 1, 1) := by decide +kernel
theorem d_M_mistletoe_132 : decode b_M_mistletoe 132 = .ok (.ireturn, 1) := by decide +kernel
theorem d_M_net_0 : decode b_M_net 0 = .ok (.iload_n 1, 1) := by decide +kernel
theorem d_M_net_1 : decode b_M_net 1 = .ok (.i2l, 1) := by decide +kernel
theorem d_M_net_2 : decode b_M_net 2 = .ok (.lconst 0, 1) := by decide +kernel
theorem d_M_net_3 : decode b_M_net 3 = .ok (.ldc2_w 203, 3) := by decide +kernel
theorem d_M_net_6 : decode b_M_net 6 = .ok (.invokestatic 65, 3) := by decide +kernel
theorem d_M_net_9 : decode b_M_net 9 = .ok (.ifCond .ne 5, 3) := by decide +kernel
theorem d_M_net_12 : decode b_M_net 12 = .ok (.iconst (-1), 1) := by decide +kernel
theorem d_M_net_13 : decode b_M_net 13 = .ok (.ireturn, 1) := by decide +kernel
theorem d_M_net_14 : decode b_M_net 14 = .ok (.iconst 0, 1) := by decide +kernel
theorem d_M_net_15 : decode b_M_net 15 = .ok (.istore_n 2, 1) := by decide +kernel
theorem d_M_net_16 : decode b_M_net 16 = .ok (.iconst 0, 1) := by decide +kernel
theorem d_M_net_17 : decode b_M_net 17 = .ok (.istore_n 3, 1) := by decide +kernel
theorem d_M_net_18 : decode b_M_net 18 = .ok (.iload_n 3, 1) := by decide +kernel
theorem d_M_net_19 : decode b_M_net 19 = .ok (.aload_n 0, 1) := by decide +kernel
theorem d_M_net_20 : decode b_M_net 20 = .ok (.getfield 136, 3) := by decide +kernel
theorem d_M_net_23 : decode b_M_net 23 = .ok (.if_icmp .ge 66, 3) := by decide +kernel
theorem d_M_net_26 : decode b_M_net 26 = .ok (.iconst 0, 1) := by decide +kernel
theorem d_M_net_27 : decode b_M_net 27 = .ok (.istore 4, 2) := by decide +kernel
theorem d_M_net_29 : decode b_M_net 29 = .ok (.iconst 0, 1) := by decide +kernel
theorem d_M_net_30 : decode b_M_net 30 = .ok (.istore 5, 2) := by decide +kernel
theorem d_M_net_32 : decode b_M_net 32 = .ok (.iload 5, 2) := by decide +kernel
theorem d_M_net_34 : decode b_M_net 34 = .ok (.aload_n 0, 1) := by decide +kernel
theorem d_M_net_35 : decode b_M_net 35 = .ok (.getfield 136, 3) := by decide +kernel
theorem d_M_net_38 : decode b_M_net 38 = .ok (.if_icmp .ge 31, 3) := by decide +kernel
theorem d_M_net_41 : decode b_M_net 41 = .ok (.iload 4, 2) := by decide +kernel
theorem d_M_net_43 : decode b_M_net 43 = .ok (.aload_n 0, 1) := by decide +kernel
theorem d_M_net_44 : decode b_M_net 44 = .ok (.iload_n 3, 1) := by decide +kernel
theorem d_M_net_45 : decode b_M_net 45 = .ok (.iload 5, 2) := by decide +kernel
theorem d_M_net_47 : decode b_M_net 47 = .ok (.iload_n 1, 1) := by decide +kernel
theorem d_M_net_48 : decode b_M_net 48 = .ok (.invokevirtual 216, 3) := by decide +kernel
theorem d_M_net_51 : decode b_M_net 51 = .ok (.aload_n 0, 1) := by decide +kernel
theorem d_M_net_52 : decode b_M_net 52 = .ok (.iload 5, 2) := by decide +kernel
theorem d_M_net_54 : decode b_M_net 54 = .ok (.iload_n 3, 1) := by decide +kernel
theorem d_M_net_55 : decode b_M_net 55 = .ok (.iload_n 1, 1) := by decide +kernel
theorem d_M_net_56 : decode b_M_net 56 = .ok (.invokevirtual 216, 3) := by decide +kernel
theorem d_M_net_59 : decode b_M_net 59 = .ok (.isub, 1) := by decide +kernel
theorem d_M_net_60 : decode b_M_net 60 = .ok (.iadd, 1) := by decide +kernel
theorem d_M_net_61 : decode b_M_net 61 = .ok (.istore 4, 2) := by decide +kernel
theorem d_M_net_63 : decode b_M_net 63 = .ok (.iinc 5 1, 3) := by decide +kernel
theorem d_M_net_66 : decode b_M_net 66 = .ok (.goto (-34), 3) := by decide +kernel
theorem d_M_net_69 : decode b_M_net 69 = .ok (.iload_n 2, 1) := by decide +kernel
theorem d_M_net_70 : decode b_M_net 70 = .ok (.iload 4, 2) := by decide +kernel
theorem d_M_net_72 : decode b_M_net 72 = .ok (.ifCond .le 8, 3) := by decide +kernel
theorem d_M_net_75 : decode b_M_net 75 = .ok (.iload 4, 2) := by decide +kernel
theorem d_M_net_77 : decode b_M_net 77 = .ok (.goto 4, 3) := by decide +kernel
theorem d_M_net_80 : decode b_M_net 80 = .ok (.iconst 0, 1) := by decide +kernel
theorem d_M_net_81 : decode b_M_net 81 = .ok (.iadd, 1) := by decide +kernel
theorem d_M_net_82 : decode b_M_net 82 = .ok (.istore_n 2, 1) := by decide +kernel
theorem d_M_net_83 : decode b_M_net 83 = .ok (.iinc 3 1, 3) := by decide +kernel
theorem d_M_net_86 : decode b_M_net 86 = .ok (.goto (-68), 3) := by decide +kernel
theorem d_M_net_89 : decode b_M_net 89 = .ok (.iload_n 2, 1) := by decide +kernel
theorem d_M_net_90 : decode b_M_net 90 = .ok (.ireturn, 1) := by decide +kernel
theorem d_M_netted_0 : decode b_M_netted 0 = .ok (.aload_n 0, 1) := by decide +kernel
theorem d_M_netted_1 : decode b_M_netted 1 = .ok (.iload_n 1, 1) := by decide +kernel
theorem d_M_netted_2 : decode b_M_netted 2 = .ok (.iload_n 2, 1) := by decide +kernel
theorem d_M_netted_3 : decode b_M_netted 3 = .ok (.iload_n 3, 1) := by decide +kernel
theorem d_M_netted_4 : decode b_M_netted 4 = .ok (.invokevirtual 216, 3) := by decide +kernel
theorem d_M_netted_7 : decode b_M_netted 7 = .ok (.istore 4, 2) := by decide +kernel
theorem d_M_netted_9 : decode b_M_netted 9 = .ok (.aload_n 0, 1) := by decide +kernel
theorem d_M_netted_10 : decode b_M_netted 10 = .ok (.iload_n 2, 1) := by decide +kernel
theorem d_M_netted_11 : decode b_M_netted 11 = .ok (.iload_n 1, 1) := by decide +kernel
theorem d_M_netted_12 : decode b_M_netted 12 = .ok (.iload_n 3, 1) := by decide +kernel
theorem d_M_netted_13 : decode b_M_netted 13 = .ok (.invokevirtual 216, 3) := by decide +kernel
theorem d_M_netted_16 : decode b_M_netted 16 = .ok (.istore 5, 2) := by decide +kernel
theorem d_M_netted_18 : decode b_M_netted 18 = .ok (.iload 4, 2) := by decide +kernel
theorem d_M_netted_20 : decode b_M_netted 20 = .ok (.iload 5, 2) := by decide +kernel
theorem d_M_netted_22 : decode b_M_netted 22 = .ok (.if_icmp .ge 8, 3) := by decide +kernel
theorem d_M_netted_25 : decode b_M_netted 25 = .ok (.iload 4, 2) := by decide +kernel
theorem d_M_netted_27 : decode b_M_netted 27 = .ok (.goto 5, 3) := by decide +kernel
theorem d_M_netted_30 : decode b_M_netted 30 = .ok (.iload 5, 2) := by decide +kernel
theorem d_M_netted_32 : decode b_M_netted 32 = .ok (.ireturn, 1) := by decide +kernel
theorem d_M_nextRing_0 : decode b_M_nextRing 0 = .ok (.iconst 0, 1) := by decide +kernel
theorem d_M_nextRing_1 : decode b_M_nextRing 1 = .ok (.istore_n 1, 1) := by decide +kernel
theorem d_M_nextRing_2 : decode b_M_nextRing 2 = .ok (.aload_n 0, 1) := by decide +kernel
theorem d_M_nextRing_3 : decode b_M_nextRing 3 = .ok (.getfield 243, 3) := by decide +kernel
theorem d_M_nextRing_6 : decode b_M_nextRing 6 = .ok (.ifCond .le 25, 3) := by decide +kernel
theorem d_M_nextRing_9 : decode b_M_nextRing 9 = .ok (.aload_n 0, 1) := by decide +kernel
theorem d_M_nextRing_10 : decode b_M_nextRing 10 = .ok (.dup, 1) := by decide +kernel
theorem d_M_nextRing_11 : decode b_M_nextRing 11 = .ok (.getfield 243, 3) := by decide +kernel
theorem d_M_nextRing_14 : decode b_M_nextRing 14 = .ok (.iconst 1, 1) := by decide +kernel
theorem d_M_nextRing_15 : decode b_M_nextRing 15 = .ok (.isub, 1) := by decide +kernel
theorem d_M_nextRing_16 : decode b_M_nextRing 16 = .ok (.putfield 243, 3) := by decide +kernel
theorem d_M_nextRing_19 : decode b_M_nextRing 19 = .ok (.aload_n 0, 1) := by decide +kernel
theorem d_M_nextRing_20 : decode b_M_nextRing 20 = .ok (.getfield 44, 3) := by decide +kernel
theorem d_M_nextRing_23 : decode b_M_nextRing 23 = .ok (.aload_n 0, 1) := by decide +kernel
theorem d_M_nextRing_24 : decode b_M_nextRing 24 = .ok (.getfield 243, 3) := by decide +kernel
theorem d_M_nextRing_27 : decode b_M_nextRing 27 = .ok (.iaload, 1) := by decide +kernel
theorem d_M_nextRing_28 : decode b_M_nextRing 28 = .ok (.iconst 1, 1) := by decide +kernel
theorem d_M_nextRing_29 : decode b_M_nextRing 29 = .ok (.iadd, 1) := by decide +kernel
theorem d_M_nextRing_30 : decode b_M_nextRing 30 = .ok (.istore_n 1, 1) := by decide +kernel
theorem d_M_nextRing_31 : decode b_M_nextRing 31 = .ok (.aload_n 0, 1) := by decide +kernel
theorem d_M_nextRing_32 : decode b_M_nextRing 32 = .ok (.iload_n 1, 1) := by decide +kernel
theorem d_M_nextRing_33 : decode b_M_nextRing 33 = .ok (.invokevirtual 249, 3) := by decide +kernel
theorem d_M_nextRing_36 : decode b_M_nextRing 36 = .ok (.istore_n 2, 1) := by decide +kernel
theorem d_M_nextRing_37 : decode b_M_nextRing 37 = .ok (.iload_n 2, 1) := by decide +kernel
theorem d_M_nextRing_38 : decode b_M_nextRing 38 = .ok (.bipush (-9), 2) := by decide +kernel
theorem d_M_nextRing_40 : decode b_M_nextRing 40 = .ok (.if_icmp .ne 12, 3) := by decide +kernel
theorem d_M_nextRing_43 : decode b_M_nextRing 43 = .ok (.aload_n 0, 1) := by decide +kernel
theorem d_M_nextRing_44 : decode b_M_nextRing 44 = .ok (.getfield 243, 3) := by decide +kernel
theorem d_M_nextRing_47 : decode b_M_nextRing 47 = .ok (.ifCond .ne 5, 3) := by decide +kernel
theorem d_M_nextRing_50 : decode b_M_nextRing 50 = .ok (.iconst 0, 1) := by decide +kernel
theorem d_M_nextRing_51 : decode b_M_nextRing 51 = .ok (.ireturn, 1) := by decide +kernel
theorem d_M_nextRing_52 : decode b_M_nextRing 52 = .ok (.iload_n 2, 1) := by decide +kernel
theorem d_M_nextRing_53 : decode b_M_nextRing 53 = .ok (.bipush (-9), 2) := by decide +kernel
theorem d_M_nextRing_55 : decode b_M_nextRing 55 = .ok (.if_icmp .ne 28, 3) := by decide +kernel
theorem d_M_nextRing_58 : decode b_M_nextRing 58 = .ok (.aload_n 0, 1) := by decide +kernel
theorem d_M_nextRing_59 : decode b_M_nextRing 59 = .ok (.dup, 1) := by decide +kernel
theorem d_M_nextRing_60 : decode b_M_nextRing 60 = .ok (.getfield 243, 3) := by decide +kernel
theorem d_M_nextRing_63 : decode b_M_nextRing 63 = .ok (.iconst 1, 1) := by decide +kernel
theorem d_M_nextRing_64 : decode b_M_nextRing 64 = .ok (.isub, 1) := by decide +kernel
theorem d_M_nextRing_65 : decode b_M_nextRing 65 = .ok (.putfield 243, 3) := by decide +kernel
theorem d_M_nextRing_68 : decode b_M_nextRing 68 = .ok (.aload_n 0, 1) := by decide +kernel
theorem d_M_nextRing_69 : decode b_M_nextRing 69 = .ok (.getfield 44, 3) := by decide +kernel
theorem d_M_nextRing_72 : decode b_M_nextRing 72 = .ok (.aload_n 0, 1) := by decide +kernel
theorem d_M_nextRing_73 : decode b_M_nextRing 73 = .ok (.getfield 243, 3) := by decide +kernel
theorem d_M_nextRing_76 : decode b_M_nextRing 76 = .ok (.iaload, 1) := by decide +kernel
theorem d_M_nextRing_77 : decode b_M_nextRing 77 = .ok (.iconst 1, 1) := by decide +kernel
theorem d_M_nextRing_78 : decode b_M_nextRing 78 = .ok (.iadd, 1) := by decide +kernel
theorem d_M_nextRing_79 : decode b_M_nextRing 79 = .ok (.istore_n 1, 1) := by decide +kernel
theorem d_M_nextRing_80 : decode b_M_nextRing 80 = .ok (.goto 72, 3) := by decide +kernel
theorem d_M_nextRing_83 : decode b_M_nextRing 83 = .ok (.aload_n 0, 1) := by decide +kernel
theorem d_M_nextRing_84 : decode b_M_nextRing 84 = .ok (.getfield 44, 3) := by decide +kernel
theorem d_M_nextRing_87 : decode b_M_nextRing 87 = .ok (.aload_n 0, 1) := by decide +kernel
theorem d_M_nextRing_88 : decode b_M_nextRing 88 = .ok (.getfield 243, 3) := by decide +kernel
theorem d_M_nextRing_91 : decode b_M_nextRing 91 = .ok (.iload_n 2, 1) := by decide +kernel
theorem d_M_nextRing_92 : decode b_M_nextRing 92 = .ok (.iastore, 1) := by decide +kernel
theorem d_M_nextRing_93 : decode b_M_nextRing 93 = .ok (.aload_n 0, 1) := by decide +kernel
theorem d_M_nextRing_94 : decode b_M_nextRing 94 = .ok (.dup, 1) := by decide +kernel
theorem d_M_nextRing_95 : decode b_M_nextRing 95 = .ok (.getfield 243, 3) := by decide +kernel
theorem d_M_nextRing_98 : decode b_M_nextRing 98 = .ok (.iconst 1, 1) := by decide +kernel
theorem d_M_nextRing_99 : decode b_M_nextRing 99 = .ok (.iadd, 1) := by decide +kernel
theorem d_M_nextRing_100 : decode b_M_nextRing 100 = .ok (.putfield 243, 3) := by decide +kernel
theorem d_M_nextRing_103 : decode b_M_nextRing 103 = .ok (.aload_n 0, 1) := by decide +kernel
theorem d_M_nextRing_104 : decode b_M_nextRing 104 = .ok (.invokevirtual 252, 3) := by decide +kernel
theorem d_M_nextRing_107 : decode b_M_nextRing 107 = .ok (.istore_n 3, 1) := by decide +kernel
theorem d_M_nextRing_108 : decode b_M_nextRing 108 = .ok (.iload_n 3, 1) := by decide +kernel
theorem d_M_nextRing_109 : decode b_M_nextRing 109 = .ok (.ifCond .eq 13, 3) := by decide +kernel
theorem d_M_nextRing_112 : decode b_M_nextRing 112 = .ok (.aload_n 0, 1) := by decide +kernel
theorem d_M_nextRing_113 : decode b_M_nextRing 113 = .ok (.getfield 243, 3) := by decide +kernel
theorem d_M_nextRing_116 : decode b_M_nextRing 116 = .ok (.iconst 2, 1) := by decide +kernel
theorem d_M_nextRing_117 : decode b_M_nextRing 117 = .ok (.if_icmp .le 5, 3) := by decide +kernel
theorem d_M_nextRing_120 : decode b_M_nextRing 120 = .ok (.iconst 1, 1) := by decide +kernel
theorem d_M_nextRing_121 : decode b_M_nextRing 121 = .ok (.ireturn, 1) := by decide +kernel
theorem d_M_nextRing_122 : decode b_M_nextRing 122 = .ok (.aload_n 0, 1) := by decide +kernel
theorem d_M_nextRing_123 : decode b_M_nextRing 123 = .ok (.dup, 1) := by decide +kernel
theorem d_M_nextRing_124 : decode b_M_nextRing 124 = .ok (.getfield 243, 3) := by decide +kernel
theorem d_M_nextRing_127 : decode b_M_nextRing 127 = .ok (.iload_n 3, 1) := by decide +kernel
theorem d_M_nextRing_128 : decode b_M_nextRing 128 = .ok (.ifCond .eq 7, 3) := by decide +kernel
theorem d_M_nextRing_131 : decode b_M_nextRing 131 = .ok (.iconst 1, 1) := by decide +kernel
theorem d_M_nextRing_132 : decode b_M_nextRing 132 = .ok (.goto 4, 3) := by decide +kernel
theorem d_M_nextRing_135 : decode b_M_nextRing 135 = .ok (.iconst 0, 1) := by decide +kernel
theorem d_M_nextRing_136 : decode b_M_nextRing 136 = .ok (.isub, 1) := by decide +kernel
theorem d_M_nextRing_137 : decode b_M_nextRing 137 = .ok (.putfield 243, 3) := by decide +kernel
theorem d_M_nextRing_140 : decode b_M_nextRing 140 = .ok (.iload_n 3, 1) := by decide +kernel
theorem d_M_nextRing_141 : decode b_M_nextRing 141 = .ok (.ifCond .eq 9, 3) := by decide +kernel
theorem d_M_nextRing_144 : decode b_M_nextRing 144 = .ok (.iload_n 2, 1) := by decide +kernel
theorem d_M_nextRing_145 : decode b_M_nextRing 145 = .ok (.iconst 1, 1) := by decide +kernel
theorem d_M_nextRing_146 : decode b_M_nextRing 146 = .ok (.iadd, 1) := by decide +kernel
theorem d_M_nextRing_147 : decode b_M_nextRing 147 = .ok (.goto 4, 3) := by decide +kernel
theorem d_M_nextRing_150 : decode b_M_nextRing 150 = .ok (.iconst 0, 1) := by decide +kernel
theorem d_M_nextRing_151 : decode b_M_nextRing 151 = .ok (.istore_n 1, 1) := by decide +kernel
theorem d_M_nextRing_152 : decode b_M_nextRing 152 = .ok (.goto (-121), 3) := by decide +kernel
theorem d_M_odds_0 : decode b_M_odds 0 = .ok (.aload_n 0, 1) := by decide +kernel
theorem d_M_odds_1 : decode b_M_odds 1 = .ok (.getfield 136, 3) := by decide +kernel
theorem d_M_odds_4 : decode b_M_odds 4 = .ok (.ifCond .ne 6, 3) := by decide +kernel
theorem d_M_odds_7 : decode b_M_odds 7 = .ok (.bipush (-4), 2) := by decide +kernel
theorem d_M_odds_9 : decode b_M_odds 9 = .ok (.ireturn, 1) := by decide +kernel
theorem d_M_odds_10 : decode b_M_odds 10 = .ok (.iconst 0, 1) := by decide +kernel
theorem d_M_odds_11 : decode b_M_odds 11 = .ok (.istore_n 1, 1) := by decide +kernel
theorem d_M_odds_12 : decode b_M_odds 12 = .ok (.iconst 0, 1) := by decide +kernel
theorem d_M_odds_13 : decode b_M_odds 13 = .ok (.istore_n 2, 1) := by decide +kernel
theorem d_M_odds_14 : decode b_M_odds 14 = .ok (.iload_n 2, 1) := by decide +kernel
theorem d_M_odds_15 : decode b_M_odds 15 = .ok (.aload_n 0, 1) := by decide +kernel
theorem d_M_odds_16 : decode b_M_odds 16 = .ok (.getfield 136, 3) := by decide +kernel
theorem d_M_odds_19 : decode b_M_odds 19 = .ok (.if_icmp .ge 28, 3) := by decide +kernel
theorem d_M_odds_22 : decode b_M_odds 22 = .ok (.iload_n 1, 1) := by decide +kernel
theorem d_M_odds_23 : decode b_M_odds 23 = .ok (.aload_n 0, 1) := by decide +kernel
theorem d_M_odds_24 : decode b_M_odds 24 = .ok (.iload_n 2, 1) := by decide +kernel
theorem d_M_odds_25 : decode b_M_odds 25 = .ok (.bipush (-9), 2) := by decide +kernel
theorem d_M_odds_27 : decode b_M_odds 27 = .ok (.iconst 0, 1) := by decide +kernel
theorem d_M_odds_28 : decode b_M_odds 28 = .ok (.invokevirtual 274, 3) := by decide +kernel
theorem d_M_odds_31 : decode b_M_odds 31 = .ok (.ifCond .ne 7, 3) := by decide +kernel
theorem d_M_odds_34 : decode b_M_odds 34 = .ok (.iconst 1, 1) := by decide +kernel
theorem d_M_odds_35 : decode b_M_odds 35 = .ok (.goto 4, 3) := by decide +kernel
theorem d_M_odds_38 : decode b_M_odds 38 = .ok (.iconst 0, 1) := by decide +kernel
theorem d_M_odds_39 : decode b_M_odds 39 = .ok (.iadd, 1) := by decide +kernel
theorem d_M_odds_40 : decode b_M_odds 40 = .ok (.istore_n 1, 1) := by decide +kernel
theorem d_M_odds_41 : decode b_M_odds 41 = .ok (.iinc 2 1, 3) := by decide +kernel
theorem d_M_odds_44 : decode b_M_odds 44 = .ok (.goto (-30), 3) := by decide +kernel
theorem d_M_odds_47 : decode b_M_odds 47 = .ok (.iload_n 1, 1) := by decide +kernel
theorem d_M_odds_48 : decode b_M_odds 48 = .ok (.aload_n 0, 1) := by decide +kernel
theorem d_M_odds_49 : decode b_M_odds 49 = .ok (.getfield 136, 3) := by decide +kernel
theorem d_M_odds_52 : decode b_M_odds 52 = .ok (.invokestatic 323, 3) := by decide +kernel
theorem d_M_odds_55 : decode b_M_odds 55 = .ok (.istore_n 2, 1) := by decide +kernel
theorem d_M_odds_56 : decode b_M_odds 56 = .ok (.aload_n 0, 1) := by decide +kernel
theorem d_M_odds_57 : decode b_M_odds 57 = .ok (.iload_n 1, 1) := by decide +kernel
theorem d_M_odds_58 : decode b_M_odds 58 = .ok (.iload_n 2, 1) := by decide +kernel
theorem d_M_odds_59 : decode b_M_odds 59 = .ok (.idiv, 1) := by decide +kernel
theorem d_M_odds_60 : decode b_M_odds 60 = .ok (.i2l, 1) := by decide +kernel
theorem d_M_odds_61 : decode b_M_odds 61 = .ok (.putfield 326, 3) := by decide +kernel
theorem d_M_odds_64 : decode b_M_odds 64 = .ok (.aload_n 0, 1) := by decide +kernel
theorem d_M_odds_65 : decode b_M_odds 65 = .ok (.aload_n 0, 1) := by decide +kernel
theorem d_M_odds_66 : decode b_M_odds 66 = .ok (.getfield 136, 3) := by decide +kernel
theorem d_M_odds_69 : decode b_M_odds 69 = .ok (.iload_n 2, 1) := by decide +kernel
theorem d_M_odds_70 : decode b_M_odds 70 = .ok (.idiv, 1) := by decide +kernel
theorem d_M_odds_71 : decode b_M_odds 71 = .ok (.i2l, 1) := by decide +kernel
theorem d_M_odds_72 : decode b_M_odds 72 = .ok (.putfield 28, 3) := by decide +kernel
theorem d_M_odds_75 : decode b_M_odds 75 = .ok (.iconst 1, 1) := by decide +kernel
theorem d_M_odds_76 : decode b_M_odds 76 = .ok (.ireturn, 1) := by decide +kernel
theorem d_M_of_0 : decode b_M_of 0 = .ok (.aload_n 0, 1) := by decide +kernel
theorem d_M_of_1 : decode b_M_of 1 = .ok (.getfield 7, 3) := by decide +kernel
theorem d_M_of_4 : decode b_M_of 4 = .ok (.iconst 2, 1) := by decide +kernel
theorem d_M_of_5 : decode b_M_of 5 = .ok (.bipush 6, 2) := by decide +kernel
theorem d_M_of_7 : decode b_M_of 7 = .ok (.iload_n 1, 1) := by decide +kernel
theorem d_M_of_8 : decode b_M_of 8 = .ok (.imul, 1) := by decide +kernel
theorem d_M_of_9 : decode b_M_of 9 = .ok (.iadd, 1) := by decide +kernel
theorem d_M_of_10 : decode b_M_of 10 = .ok (.iload_n 2, 1) := by decide +kernel
theorem d_M_of_11 : decode b_M_of 11 = .ok (.iadd, 1) := by decide +kernel
theorem d_M_of_12 : decode b_M_of 12 = .ok (.iaload, 1) := by decide +kernel
theorem d_M_of_13 : decode b_M_of 13 = .ok (.ireturn, 1) := by decide +kernel
theorem d_M_on_0 : decode b_M_on 0 = .ok (.iload_n 1, 1) := by decide +kernel
theorem d_M_on_1 : decode b_M_on 1 = .ok (.i2l, 1) := by decide +kernel
theorem d_M_on_2 : decode b_M_on 2 = .ok (.lconst 0, 1) := by decide +kernel
theorem d_M_on_3 : decode b_M_on 3 = .ok (.ldc2_w 203, 3) := by decide +kernel
theorem d_M_on_6 : decode b_M_on 6 = .ok (.invokestatic 65, 3) := by decide +kernel
theorem d_M_on_9 : decode b_M_on 9 = .ok (.ifCond .ne 5, 3) := by decide +kernel
theorem d_M_on_12 : decode b_M_on 12 = .ok (.iconst (-1), 1) := by decide +kernel
theorem d_M_on_13 : decode b_M_on 13 = .ok (.ireturn, 1) := by decide +kernel
theorem d_M_on_14 : decode b_M_on 14 = .ok (.aload_n 0, 1) := by decide +kernel
theorem d_M_on_15 : decode b_M_on 15 = .ok (.getfield 7, 3) := by decide +kernel
theorem d_M_on_18 : decode b_M_on 18 = .ok (.sipush 2994, 3) := by decide +kernel
theorem d_M_on_21 : decode b_M_on 21 = .ok (.iconst 1, 1) := by decide +kernel
theorem d_M_on_22 : decode b_M_on 22 = .ok (.iload_n 1, 1) := by decide +kernel
theorem d_M_on_23 : decode b_M_on 23 = .ok (.iadd, 1) := by decide +kernel
theorem d_M_on_24 : decode b_M_on 24 = .ok (.imul, 1) := by decide +kernel
theorem d_M_on_25 : decode b_M_on 25 = .ok (.iconst 0, 1) := by decide +kernel
theorem d_M_on_26 : decode b_M_on 26 = .ok (.iadd, 1) := by decide +kernel
theorem d_M_on_27 : decode b_M_on 27 = .ok (.iaload, 1) := by decide +kernel
theorem d_M_on_28 : decode b_M_on 28 = .ok (.ifCond .ge 9, 3) := by decide +kernel
theorem d_M_on_31 : decode b_M_on 31 = .ok (.aload_n 0, 1) := by decide +kernel
theorem d_M_on_32 : decode b_M_on 32 = .ok (.iconst 1, 1) := by decide +kernel
theorem d_M_on_33 : decode b_M_on 33 = .ok (.invokevirtual 75, 3) := by decide +kernel
theorem d_M_on_36 : decode b_M_on 36 = .ok (.ireturn, 1) := by decide +kernel
theorem d_M_on_37 : decode b_M_on 37 = .ok (.aload_n 0, 1) := by decide +kernel
theorem d_M_on_38 : decode b_M_on 38 = .ok (.sipush 2994, 3) := by decide +kernel
theorem d_M_on_41 : decode b_M_on 41 = .ok (.iconst 1, 1) := by decide +kernel
theorem d_M_on_42 : decode b_M_on 42 = .ok (.iload_n 1, 1) := by decide +kernel
theorem d_M_on_43 : decode b_M_on 43 = .ok (.iadd, 1) := by decide +kernel
theorem d_M_on_44 : decode b_M_on 44 = .ok (.imul, 1) := by decide +kernel
theorem d_M_on_45 : decode b_M_on 45 = .ok (.iconst 0, 1) := by decide +kernel
theorem d_M_on_46 : decode b_M_on 46 = .ok (.invokevirtual 240, 3) := by decide +kernel
theorem d_M_on_49 : decode b_M_on 49 = .ok (.aload_n 0, 1) := by decide +kernel
theorem d_M_on_50 : decode b_M_on 50 = .ok (.getfield 7, 3) := by decide +kernel
theorem d_M_on_53 : decode b_M_on 53 = .ok (.iconst 0, 1) := by decide +kernel
theorem d_M_on_54 : decode b_M_on 54 = .ok (.iaload, 1) := by decide +kernel
theorem d_M_on_55 : decode b_M_on 55 = .ok (.ireturn, 1) := by decide +kernel
theorem d_M_openKisses_0 : decode b_M_openKisses 0 = .ok (.iconst 0, 1) := by decide +kernel
theorem d_M_openKisses_1 : decode b_M_openKisses 1 = .ok (.istore_n 1, 1) := by decide +kernel
theorem d_M_openKisses_2 : decode b_M_openKisses 2 = .ok (.iconst 0, 1) := by decide +kernel
theorem d_M_openKisses_3 : decode b_M_openKisses 3 = .ok (.istore_n 2, 1) := by decide +kernel
theorem d_M_openKisses_4 : decode b_M_openKisses 4 = .ok (.iload_n 2, 1) := by decide +kernel
theorem d_M_openKisses_5 : decode b_M_openKisses 5 = .ok (.aload_n 0, 1) := by decide +kernel
theorem d_M_openKisses_6 : decode b_M_openKisses 6 = .ok (.getfield 7, 3) := by decide +kernel
theorem d_M_openKisses_9 : decode b_M_openKisses 9 = .ok (.iconst 1, 1) := by decide +kernel
theorem d_M_openKisses_10 : decode b_M_openKisses 10 = .ok (.iaload, 1) := by decide +kernel
theorem d_M_openKisses_11 : decode b_M_openKisses 11 = .ok (.if_icmp .ge 18, 3) := by decide +kernel
theorem d_M_openKisses_14 : decode b_M_openKisses 14 = .ok (.iload_n 1, 1) := by decide +kernel
theorem d_M_openKisses_15 : decode b_M_openKisses 15 = .ok (.aload_n 0, 1) := by decide +kernel
theorem d_M_openKisses_16 : decode b_M_openKisses 16 = .ok (.iload_n 2, 1) := by decide +kernel
theorem d_M_openKisses_17 : decode b_M_openKisses 17 = .ok (.iconst 3, 1) := by decide +kernel
theorem d_M_openKisses_18 : decode b_M_openKisses 18 = .ok (.invokevirtual 146, 3) := by decide +kernel
theorem d_M_openKisses_21 : decode b_M_openKisses 21 = .ok (.iadd, 1) := by decide +kernel
theorem d_M_openKisses_22 : decode b_M_openKisses 22 = .ok (.istore_n 1, 1) := by decide +kernel
theorem d_M_openKisses_23 : decode b_M_openKisses 23 = .ok (.iinc 2 1, 3) := by decide +kernel
theorem d_M_openKisses_26 : decode b_M_openKisses 26 = .ok (.goto (-22), 3) := by decide +kernel
theorem d_M_openKisses_29 : decode b_M_openKisses 29 = .ok (.iload_n 1, 1) := by decide +kernel
theorem d_M_openKisses_30 : decode b_M_openKisses 30 = .ok (.ireturn, 1) := by decide +kernel
theorem d_M_openMany_0 : decode b_M_openMany 0 = .ok (.iconst 0, 1) := by decide +kernel
theorem d_M_openMany_1 : decode b_M_openMany 1 = .ok (.istore_n 1, 1) := by decide +kernel
theorem d_M_openMany_2 : decode b_M_openMany 2 = .ok (.iconst 0, 1) := by decide +kernel
theorem d_M_openMany_3 : decode b_M_openMany 3 = .ok (.istore_n 2, 1) := by decide +kernel
theorem d_M_openMany_4 : decode b_M_openMany 4 = .ok (.iload_n 2, 1) := by decide +kernel
theorem d_M_openMany_5 : decode b_M_openMany 5 = .ok (.aload_n 0, 1) := by decide +kernel
theorem d_M_openMany_6 : decode b_M_openMany 6 = .ok (.getfield 7, 3) := by decide +kernel
theorem d_M_openMany_9 : decode b_M_openMany 9 = .ok (.iconst 1, 1) := by decide +kernel
theorem d_M_openMany_10 : decode b_M_openMany 10 = .ok (.iaload, 1) := by decide +kernel
theorem d_M_openMany_11 : decode b_M_openMany 11 = .ok (.if_icmp .ge 25, 3) := by decide +kernel
theorem d_M_openMany_14 : decode b_M_openMany 14 = .ok (.iload_n 1, 1) := by decide +kernel
theorem d_M_openMany_15 : decode b_M_openMany 15 = .ok (.aload_n 0, 1) := by decide +kernel
theorem d_M_openMany_16 : decode b_M_openMany 16 = .ok (.iload_n 2, 1) := by decide +kernel
theorem d_M_openMany_17 : decode b_M_openMany 17 = .ok (.invokevirtual 156, 3) := by decide +kernel
theorem d_M_openMany_20 : decode b_M_openMany 20 = .ok (.ifCond .eq 7, 3) := by decide +kernel
theorem d_M_openMany_23 : decode b_M_openMany 23 = .ok (.iconst 1, 1) := by decide +kernel
theorem d_M_openMany_24 : decode b_M_openMany 24 = .ok (.goto 4, 3) := by decide +kernel
theorem d_M_openMany_27 : decode b_M_openMany 27 = .ok (.iconst 0, 1) := by decide +kernel
theorem d_M_openMany_28 : decode b_M_openMany 28 = .ok (.iadd, 1) := by decide +kernel
theorem d_M_openMany_29 : decode b_M_openMany 29 = .ok (.istore_n 1, 1) := by decide +kernel
theorem d_M_openMany_30 : decode b_M_openMany 30 = .ok (.iinc 2 1, 3) := by decide +kernel
theorem d_M_openMany_33 : decode b_M_openMany 33 = .ok (.goto (-29), 3) := by decide +kernel
theorem d_M_openMany_36 : decode b_M_openMany 36 = .ok (.iload_n 1, 1) := by decide +kernel
theorem d_M_openMany_37 : decode b_M_openMany 37 = .ok (.ireturn, 1) := by decide +kernel
theorem d_M_openOn_0 : decode b_M_openOn 0 = .ok (.iconst 0, 1) := by decide +kernel
theorem d_M_openOn_1 : decode b_M_openOn 1 = .ok (.istore_n 2, 1) := by decide +kernel
theorem d_M_openOn_2 : decode b_M_openOn 2 = .ok (.iconst 0, 1) := by decide +kernel
theorem d_M_openOn_3 : decode b_M_openOn 3 = .ok (.istore_n 3, 1) := by decide +kernel
theorem d_M_openOn_4 : decode b_M_openOn 4 = .ok (.iload_n 3, 1) := by decide +kernel
theorem d_M_openOn_5 : decode b_M_openOn 5 = .ok (.aload_n 0, 1) := by decide +kernel
theorem d_M_openOn_6 : decode b_M_openOn 6 = .ok (.getfield 7, 3) := by decide +kernel
theorem d_M_openOn_9 : decode b_M_openOn 9 = .ok (.iconst 1, 1) := by decide +kernel
theorem d_M_openOn_10 : decode b_M_openOn 10 = .ok (.iaload, 1) := by decide +kernel
theorem d_M_openOn_11 : decode b_M_openOn 11 = .ok (.if_icmp .ge 35, 3) := by decide +kernel
theorem d_M_openOn_14 : decode b_M_openOn 14 = .ok (.iload_n 2, 1) := by decide +kernel
theorem d_M_openOn_15 : decode b_M_openOn 15 = .ok (.aload_n 0, 1) := by decide +kernel
theorem d_M_openOn_16 : decode b_M_openOn 16 = .ok (.iload_n 3, 1) := by decide +kernel
theorem d_M_openOn_17 : decode b_M_openOn 17 = .ok (.iconst 0, 1) := by decide +kernel
theorem d_M_openOn_18 : decode b_M_openOn 18 = .ok (.invokevirtual 146, 3) := by decide +kernel
theorem d_M_openOn_21 : decode b_M_openOn 21 = .ok (.iload_n 1, 1) := by decide +kernel
theorem d_M_openOn_22 : decode b_M_openOn 22 = .ok (.if_icmp .ne 15, 3) := by decide +kernel
theorem d_M_openOn_25 : decode b_M_openOn 25 = .ok (.aload_n 0, 1) := by decide +kernel
theorem d_M_openOn_26 : decode b_M_openOn 26 = .ok (.iload_n 3, 1) := by decide +kernel
theorem d_M_openOn_27 : decode b_M_openOn 27 = .ok (.invokevirtual 156, 3) := by decide +kernel
theorem d_M_openOn_30 : decode b_M_openOn 30 = .ok (.ifCond .eq 7, 3) := by decide +kernel
theorem d_M_openOn_33 : decode b_M_openOn 33 = .ok (.iconst 1, 1) := by decide +kernel
theorem d_M_openOn_34 : decode b_M_openOn 34 = .ok (.goto 4, 3) := by decide +kernel
theorem d_M_openOn_37 : decode b_M_openOn 37 = .ok (.iconst 0, 1) := by decide +kernel
theorem d_M_openOn_38 : decode b_M_openOn 38 = .ok (.iadd, 1) := by decide +kernel
theorem d_M_openOn_39 : decode b_M_openOn 39 = .ok (.istore_n 2, 1) := by decide +kernel
theorem d_M_openOn_40 : decode b_M_openOn 40 = .ok (.iinc 3 1, 3) := by decide +kernel
theorem d_M_openOn_43 : decode b_M_openOn 43 = .ok (.goto (-39), 3) := by decide +kernel
theorem d_M_openOn_46 : decode b_M_openOn 46 = .ok (.iload_n 2, 1) := by decide +kernel
theorem d_M_openOn_47 : decode b_M_openOn 47 = .ok (.ireturn, 1) := by decide +kernel
theorem d_M_openTo_0 : decode b_M_openTo 0 = .ok (.iconst 0, 1) := by decide +kernel
theorem d_M_openTo_1 : decode b_M_openTo 1 = .ok (.istore_n 2, 1) := by decide +kernel
theorem d_M_openTo_2 : decode b_M_openTo 2 = .ok (.iconst 0, 1) := by decide +kernel
theorem d_M_openTo_3 : decode b_M_openTo 3 = .ok (.istore_n 3, 1) := by decide +kernel
theorem d_M_openTo_4 : decode b_M_openTo 4 = .ok (.iload_n 3, 1) := by decide +kernel
theorem d_M_openTo_5 : decode b_M_openTo 5 = .ok (.aload_n 0, 1) := by decide +kernel
theorem d_M_openTo_6 : decode b_M_openTo 6 = .ok (.getfield 7, 3) := by decide +kernel
theorem d_M_openTo_9 : decode b_M_openTo 9 = .ok (.iconst 1, 1) := by decide +kernel
theorem d_M_openTo_10 : decode b_M_openTo 10 = .ok (.iaload, 1) := by decide +kernel
theorem d_M_openTo_11 : decode b_M_openTo 11 = .ok (.if_icmp .ge 35, 3) := by decide +kernel
theorem d_M_openTo_14 : decode b_M_openTo 14 = .ok (.iload_n 2, 1) := by decide +kernel
theorem d_M_openTo_15 : decode b_M_openTo 15 = .ok (.aload_n 0, 1) := by decide +kernel
theorem d_M_openTo_16 : decode b_M_openTo 16 = .ok (.iload_n 3, 1) := by decide +kernel
theorem d_M_openTo_17 : decode b_M_openTo 17 = .ok (.iconst 1, 1) := by decide +kernel
theorem d_M_openTo_18 : decode b_M_openTo 18 = .ok (.invokevirtual 146, 3) := by decide +kernel
theorem d_M_openTo_21 : decode b_M_openTo 21 = .ok (.iload_n 1, 1) := by decide +kernel
theorem d_M_openTo_22 : decode b_M_openTo 22 = .ok (.if_icmp .ne 15, 3) := by decide +kernel
theorem d_M_openTo_25 : decode b_M_openTo 25 = .ok (.aload_n 0, 1) := by decide +kernel
theorem d_M_openTo_26 : decode b_M_openTo 26 = .ok (.iload_n 3, 1) := by decide +kernel
theorem d_M_openTo_27 : decode b_M_openTo 27 = .ok (.invokevirtual 156, 3) := by decide +kernel
theorem d_M_openTo_30 : decode b_M_openTo 30 = .ok (.ifCond .eq 7, 3) := by decide +kernel
theorem d_M_openTo_33 : decode b_M_openTo 33 = .ok (.iconst 1, 1) := by decide +kernel
theorem d_M_openTo_34 : decode b_M_openTo 34 = .ok (.goto 4, 3) := by decide +kernel
theorem d_M_openTo_37 : decode b_M_openTo 37 = .ok (.iconst 0, 1) := by decide +kernel
theorem d_M_openTo_38 : decode b_M_openTo 38 = .ok (.iadd, 1) := by decide +kernel
theorem d_M_openTo_39 : decode b_M_openTo 39 = .ok (.istore_n 2, 1) := by decide +kernel
theorem d_M_openTo_40 : decode b_M_openTo 40 = .ok (.iinc 3 1, 3) := by decide +kernel
theorem d_M_openTo_43 : decode b_M_openTo 43 = .ok (.goto (-39), 3) := by decide +kernel
theorem d_M_openTo_46 : decode b_M_openTo 46 = .ok (.iload_n 2, 1) := by decide +kernel
theorem d_M_openTo_47 : decode b_M_openTo 47 = .ok (.ireturn, 1) := by decide +kernel
theorem d_M_owe_0 : decode b_M_owe 0 = .ok (.iload_n 1, 1) := by decide +kernel
theorem d_M_owe_1 : decode b_M_owe 1 = .ok (.ifCond .lt 48, 3) := by decide +kernel
theorem d_M_owe_4 : decode b_M_owe 4 = .ok (.aload_n 0, 1) := by decide +kernel
theorem d_M_owe_5 : decode b_M_owe 5 = .ok (.iload_n 1, 1) := by decide +kernel
theorem d_M_owe_6 : decode b_M_owe 6 = .ok (.bipush 100, 2) := by decide +kernel
theorem d_M_owe_8 : decode b_M_owe 8 = .ok (.idiv, 1) := by decide +kernel
theorem d_M_owe_9 : decode b_M_owe 9 = .ok (.iload_n 1, 1) := by decide +kernel
theorem d_M_owe_10 : decode b_M_owe 10 = .ok (.bipush 10, 2) := by decide +kernel
theorem d_M_owe_12 : decode b_M_owe 12 = .ok (.idiv, 1) := by decide +kernel
theorem d_M_owe_13 : decode b_M_owe 13 = .ok (.bipush 10, 2) := by decide +kernel
theorem d_M_owe_15 : decode b_M_owe 15 = .ok (.irem, 1) := by decide +kernel
theorem d_M_owe_16 : decode b_M_owe 16 = .ok (.invokevirtual 200, 3) := by decide +kernel
theorem d_M_owe_19 : decode b_M_owe 19 = .ok (.ifCond .eq 30, 3) := by decide +kernel
theorem d_M_owe_22 : decode b_M_owe 22 = .ok (.iload_n 1, 1) := by decide +kernel
theorem d_M_owe_23 : decode b_M_owe 23 = .ok (.bipush 10, 2) := by decide +kernel
theorem d_M_owe_25 : decode b_M_owe 25 = .ok (.irem, 1) := by decide +kernel
theorem d_M_owe_26 : decode b_M_owe 26 = .ok (.i2l, 1) := by decide +kernel
theorem d_M_owe_27 : decode b_M_owe 27 = .ok (.lconst 0, 1) := by decide +kernel
theorem d_M_owe_28 : decode b_M_owe 28 = .ok (.ldc2_w 203, 3) := by decide +kernel
theorem d_M_owe_31 : decode b_M_owe 31 = .ok (.invokestatic 65, 3) := by decide +kernel
theorem d_M_owe_34 : decode b_M_owe 34 = .ok (.ifCond .eq 15, 3) := by decide +kernel
theorem d_M_owe_37 : decode b_M_owe 37 = .ok (.iload_n 2, 1) := by decide +kernel
theorem d_M_owe_38 : decode b_M_owe 38 = .ok (.i2l, 1) := by decide +kernel
theorem d_M_owe_39 : decode b_M_owe 39 = .ok (.lconst 1, 1) := by decide +kernel
theorem d_M_owe_40 : decode b_M_owe 40 = .ok (.ldc2_w 205, 3) := by decide +kernel
theorem d_M_owe_43 : decode b_M_owe 43 = .ok (.invokestatic 65, 3) := by decide +kernel
theorem d_M_owe_46 : decode b_M_owe 46 = .ok (.ifCond .ne 5, 3) := by decide +kernel
theorem d_M_owe_49 : decode b_M_owe 49 = .ok (.iconst (-1), 1) := by decide +kernel
theorem d_M_owe_50 : decode b_M_owe 50 = .ok (.ireturn, 1) := by decide +kernel
theorem d_M_owe_51 : decode b_M_owe 51 = .ok (.aload_n 0, 1) := by decide +kernel
theorem d_M_owe_52 : decode b_M_owe 52 = .ok (.getfield 7, 3) := by decide +kernel
theorem d_M_owe_55 : decode b_M_owe 55 = .ok (.iconst 1, 1) := by decide +kernel
theorem d_M_owe_56 : decode b_M_owe 56 = .ok (.iaload, 1) := by decide +kernel
theorem d_M_owe_57 : decode b_M_owe 57 = .ok (.bipush 12, 2) := by decide +kernel
theorem d_M_owe_59 : decode b_M_owe 59 = .ok (.if_icmp .eq 10, 3) := by decide +kernel
theorem d_M_owe_62 : decode b_M_owe 62 = .ok (.aload_n 0, 1) := by decide +kernel
theorem d_M_owe_63 : decode b_M_owe 63 = .ok (.invokevirtual 207, 3) := by decide +kernel
theorem d_M_owe_66 : decode b_M_owe 66 = .ok (.ifCond .eq 6, 3) := by decide +kernel
theorem d_M_owe_69 : decode b_M_owe 69 = .ok (.bipush (-2), 2) := by decide +kernel
theorem d_M_owe_71 : decode b_M_owe 71 = .ok (.ireturn, 1) := by decide +kernel
theorem d_M_owe_72 : decode b_M_owe 72 = .ok (.aload_n 0, 1) := by decide +kernel
theorem d_M_owe_73 : decode b_M_owe 73 = .ok (.invokevirtual 210, 3) := by decide +kernel
theorem d_M_owe_76 : decode b_M_owe 76 = .ok (.aload_n 0, 1) := by decide +kernel
theorem d_M_owe_77 : decode b_M_owe 77 = .ok (.iload_n 1, 1) := by decide +kernel
theorem d_M_owe_78 : decode b_M_owe 78 = .ok (.bipush 100, 2) := by decide +kernel
theorem d_M_owe_80 : decode b_M_owe 80 = .ok (.idiv, 1) := by decide +kernel
theorem d_M_owe_81 : decode b_M_owe 81 = .ok (.iload_n 1, 1) := by decide +kernel
theorem d_M_owe_82 : decode b_M_owe 82 = .ok (.bipush 10, 2) := by decide +kernel
theorem d_M_owe_84 : decode b_M_owe 84 = .ok (.idiv, 1) := by decide +kernel
theorem d_M_owe_85 : decode b_M_owe 85 = .ok (.bipush 10, 2) := by decide +kernel
theorem d_M_owe_87 : decode b_M_owe 87 = .ok (.irem, 1) := by decide +kernel
theorem d_M_owe_88 : decode b_M_owe 88 = .ok (.iload_n 1, 1) := by decide +kernel
theorem d_M_owe_89 : decode b_M_owe 89 = .ok (.bipush 10, 2) := by decide +kernel
theorem d_M_owe_91 : decode b_M_owe 91 = .ok (.irem, 1) := by decide +kernel
theorem d_M_owe_92 : decode b_M_owe 92 = .ok (.iload_n 2, 1) := by decide +kernel
theorem d_M_owe_93 : decode b_M_owe 93 = .ok (.invokevirtual 139, 3) := by decide +kernel
theorem d_M_owe_96 : decode b_M_owe 96 = .ok (.aload_n 0, 1) := by decide +kernel
theorem d_M_owe_97 : decode b_M_owe 97 = .ok (.getfield 7, 3) := by decide +kernel
theorem d_M_owe_100 : decode b_M_owe 100 = .ok (.iconst 1, 1) := by decide +kernel
theorem d_M_owe_101 : decode b_M_owe 101 = .ok (.iaload, 1) := by decide +kernel
theorem d_M_owe_102 : decode b_M_owe 102 = .ok (.iconst 1, 1) := by decide +kernel
theorem d_M_owe_103 : decode b_M_owe 103 = .ok (.isub, 1) := by decide +kernel
theorem d_M_owe_104 : decode b_M_owe 104 = .ok (.ireturn, 1) := by decide +kernel
theorem d_M_owed_0 : decode b_M_owed 0 = .ok (.iconst 0, 1) := by decide +kernel
theorem d_M_owed_1 : decode b_M_owed 1 = .ok (.istore_n 3, 1) := by decide +kernel
theorem d_M_owed_2 : decode b_M_owed 2 = .ok (.iconst 0, 1) := by decide +kernel
theorem d_M_owed_3 : decode b_M_owed 3 = .ok (.istore 4, 2) := by decide +kernel
theorem d_M_owed_5 : decode b_M_owed 5 = .ok (.iload 4, 2) := by decide +kernel
theorem d_M_owed_7 : decode b_M_owed 7 = .ok (.aload_n 0, 1) := by decide +kernel
theorem d_M_owed_8 : decode b_M_owed 8 = .ok (.getfield 7, 3) := by decide +kernel
theorem d_M_owed_11 : decode b_M_owed 11 = .ok (.iconst 1, 1) := by decide +kernel
theorem d_M_owed_12 : decode b_M_owed 12 = .ok (.iaload, 1) := by decide +kernel
theorem d_M_owed_13 : decode b_M_owed 13 = .ok (.if_icmp .ge 47, 3) := by decide +kernel
theorem d_M_owed_16 : decode b_M_owed 16 = .ok (.iload_n 3, 1) := by decide +kernel
theorem d_M_owed_17 : decode b_M_owed 17 = .ok (.aload_n 0, 1) := by decide +kernel
theorem d_M_owed_18 : decode b_M_owed 18 = .ok (.iload 4, 2) := by decide +kernel
theorem d_M_owed_20 : decode b_M_owed 20 = .ok (.iconst 1, 1) := by decide +kernel
theorem d_M_owed_21 : decode b_M_owed 21 = .ok (.invokevirtual 146, 3) := by decide +kernel
theorem d_M_owed_24 : decode b_M_owed 24 = .ok (.iload_n 1, 1) := by decide +kernel
theorem d_M_owed_25 : decode b_M_owed 25 = .ok (.if_icmp .ne 26, 3) := by decide +kernel
theorem d_M_owed_28 : decode b_M_owed 28 = .ok (.iload_n 2, 1) := by decide +kernel
theorem d_M_owed_29 : decode b_M_owed 29 = .ok (.aload_n 0, 1) := by decide +kernel
theorem d_M_owed_30 : decode b_M_owed 30 = .ok (.iload 4, 2) := by decide +kernel
theorem d_M_owed_32 : decode b_M_owed 32 = .ok (.iconst 0, 1) := by decide +kernel
theorem d_M_owed_33 : decode b_M_owed 33 = .ok (.invokevirtual 146, 3) := by decide +kernel
theorem d_M_owed_36 : decode b_M_owed 36 = .ok (.invokestatic 152, 3) := by decide +kernel
theorem d_M_owed_39 : decode b_M_owed 39 = .ok (.ifCond .ne 12, 3) := by decide +kernel
theorem d_M_owed_42 : decode b_M_owed 42 = .ok (.aload_n 0, 1) := by decide +kernel
theorem d_M_owed_43 : decode b_M_owed 43 = .ok (.iload 4, 2) := by decide +kernel
theorem d_M_owed_45 : decode b_M_owed 45 = .ok (.invokevirtual 149, 3) := by decide +kernel
theorem d_M_owed_48 : decode b_M_owed 48 = .ok (.goto 4, 3) := by decide +kernel
theorem d_M_owed_51 : decode b_M_owed 51 = .ok (.iconst 0, 1) := by decide +kernel
theorem d_M_owed_52 : decode b_M_owed 52 = .ok (.iadd, 1) := by decide +kernel
theorem d_M_owed_53 : decode b_M_owed 53 = .ok (.istore_n 3, 1) := by decide +kernel
theorem d_M_owed_54 : decode b_M_owed 54 = .ok (.iinc 4 1, 3) := by decide +kernel
theorem d_M_owed_57 : decode b_M_owed 57 = .ok (.goto (-52), 3) := by decide +kernel
theorem d_M_owed_60 : decode b_M_owed 60 = .ok (.iload_n 3, 1) := by decide +kernel
theorem d_M_owed_61 : decode b_M_owed 61 = .ok (.ireturn, 1) := by decide +kernel
theorem d_M_owesTo_0 : decode b_M_owesTo 0 = .ok (.iconst 0, 1) := by decide +kernel
theorem d_M_owesTo_1 : decode b_M_owesTo 1 = .ok (.istore_n 2, 1) := by decide +kernel
theorem d_M_owesTo_2 : decode b_M_owesTo 2 = .ok (.iconst 0, 1) := by decide +kernel
theorem d_M_owesTo_3 : decode b_M_owesTo 3 = .ok (.istore_n 3, 1) := by decide +kernel
theorem d_M_owesTo_4 : decode b_M_owesTo 4 = .ok (.iload_n 3, 1) := by decide +kernel
theorem d_M_owesTo_5 : decode b_M_owesTo 5 = .ok (.aload_n 0, 1) := by decide +kernel
theorem d_M_owesTo_6 : decode b_M_owesTo 6 = .ok (.getfield 7, 3) := by decide +kernel
theorem d_M_owesTo_9 : decode b_M_owesTo 9 = .ok (.iconst 1, 1) := by decide +kernel
theorem d_M_owesTo_10 : decode b_M_owesTo 10 = .ok (.iaload, 1) := by decide +kernel
theorem d_M_owesTo_11 : decode b_M_owesTo 11 = .ok (.if_icmp .ge 42, 3) := by decide +kernel
theorem d_M_owesTo_14 : decode b_M_owesTo 14 = .ok (.iload_n 2, 1) := by decide +kernel
theorem d_M_owesTo_15 : decode b_M_owesTo 15 = .ok (.aload_n 0, 1) := by decide +kernel
theorem d_M_owesTo_16 : decode b_M_owesTo 16 = .ok (.iload_n 3, 1) := by decide +kernel
theorem d_M_owesTo_17 : decode b_M_owesTo 17 = .ok (.iconst 0, 1) := by decide +kernel
theorem d_M_owesTo_18 : decode b_M_owesTo 18 = .ok (.invokevirtual 146, 3) := by decide +kernel
theorem d_M_owesTo_21 : decode b_M_owesTo 21 = .ok (.iload_n 1, 1) := by decide +kernel
theorem d_M_owesTo_22 : decode b_M_owesTo 22 = .ok (.if_icmp .ne 22, 3) := by decide +kernel
theorem d_M_owesTo_25 : decode b_M_owesTo 25 = .ok (.aload_n 0, 1) := by decide +kernel
theorem d_M_owesTo_26 : decode b_M_owesTo 26 = .ok (.iload_n 3, 1) := by decide +kernel
theorem d_M_owesTo_27 : decode b_M_owesTo 27 = .ok (.invokevirtual 156, 3) := by decide +kernel
theorem d_M_owesTo_30 : decode b_M_owesTo 30 = .ok (.ifCond .eq 14, 3) := by decide +kernel
theorem d_M_owesTo_33 : decode b_M_owesTo 33 = .ok (.iconst 1, 1) := by decide +kernel
theorem d_M_owesTo_34 : decode b_M_owesTo 34 = .ok (.aload_n 0, 1) := by decide +kernel
theorem d_M_owesTo_35 : decode b_M_owesTo 35 = .ok (.iload_n 3, 1) := by decide +kernel
theorem d_M_owesTo_36 : decode b_M_owesTo 36 = .ok (.iconst 1, 1) := by decide +kernel
theorem d_M_owesTo_37 : decode b_M_owesTo 37 = .ok (.invokevirtual 146, 3) := by decide +kernel
theorem d_M_owesTo_40 : decode b_M_owesTo 40 = .ok (.ishl, 1) := by decide +kernel
theorem d_M_owesTo_41 : decode b_M_owesTo 41 = .ok (.goto 4, 3) := by decide +kernel
theorem d_M_owesTo_44 : decode b_M_owesTo 44 = .ok (.iconst 0, 1) := by decide +kernel
theorem d_M_owesTo_45 : decode b_M_owesTo 45 = .ok (.ior, 1) := by decide +kernel
theorem d_M_owesTo_46 : decode b_M_owesTo 46 = .ok (.istore_n 2, 1) := by decide +kernel
theorem d_M_owesTo_47 : decode b_M_owesTo 47 = .ok (.iinc 3 1, 3) := by decide +kernel
theorem d_M_owesTo_50 : decode b_M_owesTo 50 = .ok (.goto (-46), 3) := by decide +kernel
theorem d_M_owesTo_53 : decode b_M_owesTo 53 = .ok (.iload_n 2, 1) := by decide +kernel
theorem d_M_owesTo_54 : decode b_M_owesTo 54 = .ok (.invokestatic 159, 3) := by decide +kernel
theorem d_M_owesTo_57 : decode b_M_owesTo 57 = .ok (.ireturn, 1) := by decide +kernel
theorem d_M_owing_0 : decode b_M_owing 0 = .ok (.iconst 0, 1) := by decide +kernel
theorem d_M_owing_1 : decode b_M_owing 1 = .ok (.istore_n 2, 1) := by decide +kernel
theorem d_M_owing_2 : decode b_M_owing 2 = .ok (.iconst 0, 1) := by decide +kernel
theorem d_M_owing_3 : decode b_M_owing 3 = .ok (.istore_n 3, 1) := by decide +kernel
theorem d_M_owing_4 : decode b_M_owing 4 = .ok (.iload_n 3, 1) := by decide +kernel
theorem d_M_owing_5 : decode b_M_owing 5 = .ok (.aload_n 0, 1) := by decide +kernel
theorem d_M_owing_6 : decode b_M_owing 6 = .ok (.getfield 7, 3) := by decide +kernel
theorem d_M_owing_9 : decode b_M_owing 9 = .ok (.iconst 1, 1) := by decide +kernel
theorem d_M_owing_10 : decode b_M_owing 10 = .ok (.iaload, 1) := by decide +kernel
theorem d_M_owing_11 : decode b_M_owing 11 = .ok (.if_icmp .ge 31, 3) := by decide +kernel
theorem d_M_owing_14 : decode b_M_owing 14 = .ok (.iload_n 2, 1) := by decide +kernel
theorem d_M_owing_15 : decode b_M_owing 15 = .ok (.aload_n 0, 1) := by decide +kernel
theorem d_M_owing_16 : decode b_M_owing 16 = .ok (.iload_n 3, 1) := by decide +kernel
theorem d_M_owing_17 : decode b_M_owing 17 = .ok (.iconst 0, 1) := by decide +kernel
theorem d_M_owing_18 : decode b_M_owing 18 = .ok (.invokevirtual 146, 3) := by decide +kernel
theorem d_M_owing_21 : decode b_M_owing 21 = .ok (.iload_n 1, 1) := by decide +kernel
theorem d_M_owing_22 : decode b_M_owing 22 = .ok (.if_icmp .ne 11, 3) := by decide +kernel
theorem d_M_owing_25 : decode b_M_owing 25 = .ok (.aload_n 0, 1) := by decide +kernel
theorem d_M_owing_26 : decode b_M_owing 26 = .ok (.iload_n 3, 1) := by decide +kernel
theorem d_M_owing_27 : decode b_M_owing 27 = .ok (.invokevirtual 149, 3) := by decide +kernel
theorem d_M_owing_30 : decode b_M_owing 30 = .ok (.goto 4, 3) := by decide +kernel
theorem d_M_owing_33 : decode b_M_owing 33 = .ok (.iconst 0, 1) := by decide +kernel
theorem d_M_owing_34 : decode b_M_owing 34 = .ok (.iadd, 1) := by decide +kernel
theorem d_M_owing_35 : decode b_M_owing 35 = .ok (.istore_n 2, 1) := by decide +kernel
theorem d_M_owing_36 : decode b_M_owing 36 = .ok (.iinc 3 1, 3) := by decide +kernel
theorem d_M_owing_39 : decode b_M_owing 39 = .ok (.goto (-35), 3) := by decide +kernel
theorem d_M_owing_42 : decode b_M_owing 42 = .ok (.iload_n 2, 1) := by decide +kernel
theorem d_M_owing_43 : decode b_M_owing 43 = .ok (.ireturn, 1) := by decide +kernel
theorem d_M_pairs_0 : decode b_M_pairs 0 = .ok (.aload_n 0, 1) := by decide +kernel
theorem d_M_pairs_1 : decode b_M_pairs 1 = .ok (.invokevirtual 283, 3) := by decide +kernel
theorem d_M_pairs_4 : decode b_M_pairs 4 = .ok (.aload_n 0, 1) := by decide +kernel
theorem d_M_pairs_5 : decode b_M_pairs 5 = .ok (.iconst 0, 1) := by decide +kernel
theorem d_M_pairs_6 : decode b_M_pairs 6 = .ok (.putfield 60, 3) := by decide +kernel
theorem d_M_pairs_9 : decode b_M_pairs 9 = .ok (.iconst 0, 1) := by decide +kernel
theorem d_M_pairs_10 : decode b_M_pairs 10 = .ok (.istore_n 1, 1) := by decide +kernel
theorem d_M_pairs_11 : decode b_M_pairs 11 = .ok (.iload_n 1, 1) := by decide +kernel
theorem d_M_pairs_12 : decode b_M_pairs 12 = .ok (.aload_n 0, 1) := by decide +kernel
theorem d_M_pairs_13 : decode b_M_pairs 13 = .ok (.getfield 277, 3) := by decide +kernel
theorem d_M_pairs_16 : decode b_M_pairs 16 = .ok (.if_icmp .ge 40, 3) := by decide +kernel
theorem d_M_pairs_19 : decode b_M_pairs 19 = .ok (.aload_n 0, 1) := by decide +kernel
theorem d_M_pairs_20 : decode b_M_pairs 20 = .ok (.dup, 1) := by decide +kernel
theorem d_M_pairs_21 : decode b_M_pairs 21 = .ok (.getfield 60, 3) := by decide +kernel
theorem d_M_pairs_24 : decode b_M_pairs 24 = .ok (.aload_n 0, 1) := by decide +kernel
theorem d_M_pairs_25 : decode b_M_pairs 25 = .ok (.aload_n 0, 1) := by decide +kernel
theorem d_M_pairs_26 : decode b_M_pairs 26 = .ok (.getfield 50, 3) := by decide +kernel
theorem d_M_pairs_29 : decode b_M_pairs 29 = .ok (.iconst 2, 1) := by decide +kernel
theorem d_M_pairs_30 : decode b_M_pairs 30 = .ok (.iload_n 1, 1) := by decide +kernel
theorem d_M_pairs_31 : decode b_M_pairs 31 = .ok (.imul, 1) := by decide +kernel
theorem d_M_pairs_32 : decode b_M_pairs 32 = .ok (.iaload, 1) := by decide +kernel
theorem d_M_pairs_33 : decode b_M_pairs 33 = .ok (.aload_n 0, 1) := by decide +kernel
theorem d_M_pairs_34 : decode b_M_pairs 34 = .ok (.getfield 50, 3) := by decide +kernel
theorem d_M_pairs_37 : decode b_M_pairs 37 = .ok (.iconst 2, 1) := by decide +kernel
theorem d_M_pairs_38 : decode b_M_pairs 38 = .ok (.iload_n 1, 1) := by decide +kernel
theorem d_M_pairs_39 : decode b_M_pairs 39 = .ok (.imul, 1) := by decide +kernel
theorem d_M_pairs_40 : decode b_M_pairs 40 = .ok (.iconst 1, 1) := by decide +kernel
theorem d_M_pairs_41 : decode b_M_pairs 41 = .ok (.iadd, 1) := by decide +kernel
theorem d_M_pairs_42 : decode b_M_pairs 42 = .ok (.iaload, 1) := by decide +kernel
theorem d_M_pairs_43 : decode b_M_pairs 43 = .ok (.invokevirtual 225, 3) := by decide +kernel
theorem d_M_pairs_46 : decode b_M_pairs 46 = .ok (.iadd, 1) := by decide +kernel
theorem d_M_pairs_47 : decode b_M_pairs 47 = .ok (.putfield 60, 3) := by decide +kernel
theorem d_M_pairs_50 : decode b_M_pairs 50 = .ok (.iinc 1 1, 3) := by decide +kernel
theorem d_M_pairs_53 : decode b_M_pairs 53 = .ok (.goto (-42), 3) := by decide +kernel
theorem d_M_pairs_56 : decode b_M_pairs 56 = .ok (.aload_n 0, 1) := by decide +kernel
theorem d_M_pairs_57 : decode b_M_pairs 57 = .ok (.getfield 277, 3) := by decide +kernel
theorem d_M_pairs_60 : decode b_M_pairs 60 = .ok (.ireturn, 1) := by decide +kernel
theorem d_M_person_0 : decode b_M_person 0 = .ok (.aload_n 0, 1) := by decide +kernel
theorem d_M_person_1 : decode b_M_person 1 = .ok (.iload_n 1, 1) := by decide +kernel
theorem d_M_person_2 : decode b_M_person 2 = .ok (.invokevirtual 143, 3) := by decide +kernel
theorem d_M_person_5 : decode b_M_person 5 = .ok (.ifCond .eq 28, 3) := by decide +kernel
theorem d_M_person_8 : decode b_M_person 8 = .ok (.iload_n 2, 1) := by decide +kernel
theorem d_M_person_9 : decode b_M_person 9 = .ok (.i2l, 1) := by decide +kernel
theorem d_M_person_10 : decode b_M_person 10 = .ok (.lconst 0, 1) := by decide +kernel
theorem d_M_person_11 : decode b_M_person 11 = .ok (.ldc2_w 174, 3) := by decide +kernel
theorem d_M_person_14 : decode b_M_person 14 = .ok (.invokestatic 65, 3) := by decide +kernel
theorem d_M_person_17 : decode b_M_person 17 = .ok (.ifCond .eq 16, 3) := by decide +kernel
theorem d_M_person_20 : decode b_M_person 20 = .ok (.aload_n 0, 1) := by decide +kernel
theorem d_M_person_21 : decode b_M_person 21 = .ok (.aload_n 0, 1) := by decide +kernel
theorem d_M_person_22 : decode b_M_person 22 = .ok (.iload_n 1, 1) := by decide +kernel
theorem d_M_person_23 : decode b_M_person 23 = .ok (.iload_n 2, 1) := by decide +kernel
theorem d_M_person_24 : decode b_M_person 24 = .ok (.invokevirtual 176, 3) := by decide +kernel
theorem d_M_person_27 : decode b_M_person 27 = .ok (.invokevirtual 87, 3) := by decide +kernel
theorem d_M_person_30 : decode b_M_person 30 = .ok (.goto 4, 3) := by decide +kernel
theorem d_M_person_33 : decode b_M_person 33 = .ok (.iconst (-1), 1) := by decide +kernel
theorem d_M_person_34 : decode b_M_person 34 = .ok (.ireturn, 1) := by decide +kernel
theorem d_M_put_0 : decode b_M_put 0 = .ok (.iload_n 1, 1) := by decide +kernel
theorem d_M_put_1 : decode b_M_put 1 = .ok (.invokestatic 94, 3) := by decide +kernel
theorem d_M_put_4 : decode b_M_put 4 = .ok (.ifCond .ne 5, 3) := by decide +kernel
theorem d_M_put_7 : decode b_M_put 7 = .ok (.iconst (-1), 1) := by decide +kernel
theorem d_M_put_8 : decode b_M_put 8 = .ok (.ireturn, 1) := by decide +kernel
theorem d_M_put_9 : decode b_M_put 9 = .ok (.aload_n 0, 1) := by decide +kernel
theorem d_M_put_10 : decode b_M_put 10 = .ok (.getfield 22, 3) := by decide +kernel
theorem d_M_put_13 : decode b_M_put 13 = .ok (.iload_n 1, 1) := by decide +kernel
theorem d_M_put_14 : decode b_M_put 14 = .ok (.iaload, 1) := by decide +kernel
theorem d_M_put_15 : decode b_M_put 15 = .ok (.ifCond .ge 9, 3) := by decide +kernel
theorem d_M_put_18 : decode b_M_put 18 = .ok (.aload_n 0, 1) := by decide +kernel
theorem d_M_put_19 : decode b_M_put 19 = .ok (.iconst 1, 1) := by decide +kernel
theorem d_M_put_20 : decode b_M_put 20 = .ok (.invokevirtual 75, 3) := by decide +kernel
theorem d_M_put_23 : decode b_M_put 23 = .ok (.ireturn, 1) := by decide +kernel
theorem d_M_put_24 : decode b_M_put 24 = .ok (.iload_n 2, 1) := by decide +kernel
theorem d_M_put_25 : decode b_M_put 25 = .ok (.i2l, 1) := by decide +kernel
theorem d_M_put_26 : decode b_M_put 26 = .ok (.lconst 0, 1) := by decide +kernel
theorem d_M_put_27 : decode b_M_put 27 = .ok (.aload_n 0, 1) := by decide +kernel
theorem d_M_put_28 : decode b_M_put 28 = .ok (.getfield 22, 3) := by decide +kernel
theorem d_M_put_31 : decode b_M_put 31 = .ok (.iload_n 1, 1) := by decide +kernel
theorem d_M_put_32 : decode b_M_put 32 = .ok (.iaload, 1) := by decide +kernel
theorem d_M_put_33 : decode b_M_put 33 = .ok (.iconst 1, 1) := by decide +kernel
theorem d_M_put_34 : decode b_M_put 34 = .ok (.isub, 1) := by decide +kernel
theorem d_M_put_35 : decode b_M_put 35 = .ok (.i2l, 1) := by decide +kernel
theorem d_M_put_36 : decode b_M_put 36 = .ok (.invokestatic 65, 3) := by decide +kernel
theorem d_M_put_39 : decode b_M_put 39 = .ok (.ifCond .ne 9, 3) := by decide +kernel
theorem d_M_put_42 : decode b_M_put 42 = .ok (.aload_n 0, 1) := by decide +kernel
theorem d_M_put_43 : decode b_M_put 43 = .ok (.iconst 2, 1) := by decide +kernel
theorem d_M_put_44 : decode b_M_put 44 = .ok (.invokevirtual 75, 3) := by decide +kernel
theorem d_M_put_47 : decode b_M_put 47 = .ok (.ireturn, 1) := by decide +kernel
theorem d_M_put_48 : decode b_M_put 48 = .ok (.aload_n 0, 1) := by decide +kernel
theorem d_M_put_49 : decode b_M_put 49 = .ok (.getfield 25, 3) := by decide +kernel
theorem d_M_put_52 : decode b_M_put 52 = .ok (.bipush 80, 2) := by decide +kernel
theorem d_M_put_54 : decode b_M_put 54 = .ok (.iload_n 1, 1) := by decide +kernel
theorem d_M_put_55 : decode b_M_put 55 = .ok (.imul, 1) := by decide +kernel
theorem d_M_put_56 : decode b_M_put 56 = .ok (.iload_n 2, 1) := by decide +kernel
theorem d_M_put_57 : decode b_M_put 57 = .ok (.iadd, 1) := by decide +kernel
theorem d_M_put_58 : decode b_M_put 58 = .ok (.iaload, 1) := by decide +kernel
theorem d_M_put_59 : decode b_M_put 59 = .ok (.istore 4, 2) := by decide +kernel
theorem d_M_put_61 : decode b_M_put 61 = .ok (.aload_n 0, 1) := by decide +kernel
theorem d_M_put_62 : decode b_M_put 62 = .ok (.getfield 25, 3) := by decide +kernel
theorem d_M_put_65 : decode b_M_put 65 = .ok (.bipush 80, 2) := by decide +kernel
theorem d_M_put_67 : decode b_M_put 67 = .ok (.iload_n 1, 1) := by decide +kernel
theorem d_M_put_68 : decode b_M_put 68 = .ok (.imul, 1) := by decide +kernel
theorem d_M_put_69 : decode b_M_put 69 = .ok (.iload_n 2, 1) := by decide +kernel
theorem d_M_put_70 : decode b_M_put 70 = .ok (.iadd, 1) := by decide +kernel
theorem d_M_put_71 : decode b_M_put 71 = .ok (.iload_n 3, 1) := by decide +kernel
theorem d_M_put_72 : decode b_M_put 72 = .ok (.i2b, 1) := by decide +kernel
theorem d_M_put_73 : decode b_M_put 73 = .ok (.iastore, 1) := by decide +kernel
theorem d_M_put_74 : decode b_M_put 74 = .ok (.iload 4, 2) := by decide +kernel
theorem d_M_put_76 : decode b_M_put 76 = .ok (.sipush 1000, 3) := by decide +kernel
theorem d_M_put_79 : decode b_M_put 79 = .ok (.iadd, 1) := by decide +kernel
theorem d_M_put_80 : decode b_M_put 80 = .ok (.ireturn, 1) := by decide +kernel
theorem d_M_rate_0 : decode b_M_rate 0 = .ok (.aload_n 0, 1) := by decide +kernel
theorem d_M_rate_1 : decode b_M_rate 1 = .ok (.getfield 19, 3) := by decide +kernel
theorem d_M_rate_4 : decode b_M_rate 4 = .ok (.bipush 40, 2) := by decide +kernel
theorem d_M_rate_6 : decode b_M_rate 6 = .ok (.iload_n 1, 1) := by decide +kernel
theorem d_M_rate_7 : decode b_M_rate 7 = .ok (.imul, 1) := by decide +kernel
theorem d_M_rate_8 : decode b_M_rate 8 = .ok (.iload_n 2, 1) := by decide +kernel
theorem d_M_rate_9 : decode b_M_rate 9 = .ok (.iadd, 1) := by decide +kernel
theorem d_M_rate_10 : decode b_M_rate 10 = .ok (.iaload, 1) := by decide +kernel
theorem d_M_rate_11 : decode b_M_rate 11 = .ok (.i2l, 1) := by decide +kernel
theorem d_M_rate_12 : decode b_M_rate 12 = .ok (.lreturn, 1) := by decide +kernel
theorem d_M_readsDraft_0 : decode b_M_readsDraft 0 = .ok (.aload_n 0, 1) := by decide +kernel
theorem d_M_readsDraft_1 : decode b_M_readsDraft 1 = .ok (.getfield 113, 3) := by decide +kernel
theorem d_M_readsDraft_4 : decode b_M_readsDraft 4 = .ok (.iconst 2, 1) := by decide +kernel
theorem d_M_readsDraft_5 : decode b_M_readsDraft 5 = .ok (.if_icmp .lt 12, 3) := by decide +kernel
theorem d_M_readsDraft_8 : decode b_M_readsDraft 8 = .ok (.aload_n 0, 1) := by decide +kernel
theorem d_M_readsDraft_9 : decode b_M_readsDraft 9 = .ok (.getfield 116, 3) := by decide +kernel
theorem d_M_readsDraft_12 : decode b_M_readsDraft 12 = .ok (.bipush 12, 2) := by decide +kernel
theorem d_M_readsDraft_14 : decode b_M_readsDraft 14 = .ok (.if_icmp .ne 5, 3) := by decide +kernel
theorem d_M_readsDraft_17 : decode b_M_readsDraft 17 = .ok (.iconst 0, 1) := by decide +kernel
theorem d_M_readsDraft_18 : decode b_M_readsDraft 18 = .ok (.ireturn, 1) := by decide +kernel
theorem d_M_readsDraft_19 : decode b_M_readsDraft 19 = .ok (.aload_n 0, 1) := by decide +kernel
theorem d_M_readsDraft_20 : decode b_M_readsDraft 20 = .ok (.dup, 1) := by decide +kernel
theorem d_M_readsDraft_21 : decode b_M_readsDraft 21 = .ok (.getfield 100, 3) := by decide +kernel
theorem d_M_readsDraft_24 : decode b_M_readsDraft 24 = .ok (.iconst 1, 1) := by decide +kernel
theorem d_M_readsDraft_25 : decode b_M_readsDraft 25 = .ok (.iadd, 1) := by decide +kernel
theorem d_M_readsDraft_26 : decode b_M_readsDraft 26 = .ok (.putfield 100, 3) := by decide +kernel
theorem d_M_readsDraft_29 : decode b_M_readsDraft 29 = .ok (.iconst 4, 1) := by decide +kernel
theorem d_M_readsDraft_30 : decode b_M_readsDraft 30 = .ok (.aload_n 0, 1) := by decide +kernel
theorem d_M_readsDraft_31 : decode b_M_readsDraft 31 = .ok (.getfield 116, 3) := by decide +kernel
theorem d_M_readsDraft_34 : decode b_M_readsDraft 34 = .ok (.imul, 1) := by decide +kernel
theorem d_M_readsDraft_35 : decode b_M_readsDraft 35 = .ok (.istore_n 1, 1) := by decide +kernel
theorem d_M_readsDraft_36 : decode b_M_readsDraft 36 = .ok (.aload_n 0, 1) := by decide +kernel
theorem d_M_readsDraft_37 : decode b_M_readsDraft 37 = .ok (.getfield 38, 3) := by decide +kernel
theorem d_M_readsDraft_40 : decode b_M_readsDraft 40 = .ok (.iload_n 1, 1) := by decide +kernel
theorem d_M_readsDraft_41 : decode b_M_readsDraft 41 = .ok (.aload_n 0, 1) := by decide +kernel
theorem d_M_readsDraft_42 : decode b_M_readsDraft 42 = .ok (.iconst 0, 1) := by decide +kernel
theorem d_M_readsDraft_43 : decode b_M_readsDraft 43 = .ok (.aload_n 0, 1) := by decide +kernel
theorem d_M_readsDraft_44 : decode b_M_readsDraft 44 = .ok (.getfield 113, 3) := by decide +kernel
theorem d_M_readsDraft_47 : decode b_M_readsDraft 47 = .ok (.iconst 1, 1) := by decide +kernel
theorem d_M_readsDraft_48 : decode b_M_readsDraft 48 = .ok (.isub, 1) := by decide +kernel
theorem d_M_readsDraft_49 : decode b_M_readsDraft 49 = .ok (.bipush (-9), 2) := by decide +kernel
theorem d_M_readsDraft_51 : decode b_M_readsDraft 51 = .ok (.invokevirtual 119, 3) := by decide +kernel
theorem d_M_readsDraft_54 : decode b_M_readsDraft 54 = .ok (.iastore, 1) := by decide +kernel
theorem d_M_readsDraft_55 : decode b_M_readsDraft 55 = .ok (.aload_n 0, 1) := by decide +kernel
theorem d_M_readsDraft_56 : decode b_M_readsDraft 56 = .ok (.getfield 38, 3) := by decide +kernel
theorem d_M_readsDraft_59 : decode b_M_readsDraft 59 = .ok (.iload_n 1, 1) := by decide +kernel
theorem d_M_readsDraft_60 : decode b_M_readsDraft 60 = .ok (.iaload, 1) := by decide +kernel
theorem d_M_readsDraft_61 : decode b_M_readsDraft 61 = .ok (.bipush (-9), 2) := by decide +kernel
theorem d_M_readsDraft_63 : decode b_M_readsDraft 63 = .ok (.if_icmp .ne 5, 3) := by decide +kernel
theorem d_M_readsDraft_66 : decode b_M_readsDraft 66 = .ok (.iconst 0, 1) := by decide +kernel
theorem d_M_readsDraft_67 : decode b_M_readsDraft 67 = .ok (.ireturn, 1) := by decide +kernel
theorem d_M_readsDraft_68 : decode b_M_readsDraft 68 = .ok (.aload_n 0, 1) := by decide +kernel
theorem d_M_readsDraft_69 : decode b_M_readsDraft 69 = .ok (.getfield 38, 3) := by decide +kernel
theorem d_M_readsDraft_72 : decode b_M_readsDraft 72 = .ok (.iload_n 1, 1) := by decide +kernel
theorem d_M_readsDraft_73 : decode b_M_readsDraft 73 = .ok (.iconst 1, 1) := by decide +kernel
theorem d_M_readsDraft_74 : decode b_M_readsDraft 74 = .ok (.iadd, 1) := by decide +kernel
theorem d_M_readsDraft_75 : decode b_M_readsDraft 75 = .ok (.aload_n 0, 1) := by decide +kernel
theorem d_M_readsDraft_76 : decode b_M_readsDraft 76 = .ok (.iconst 0, 1) := by decide +kernel
theorem d_M_readsDraft_77 : decode b_M_readsDraft 77 = .ok (.aload_n 0, 1) := by decide +kernel
theorem d_M_readsDraft_78 : decode b_M_readsDraft 78 = .ok (.getfield 113, 3) := by decide +kernel
theorem d_M_readsDraft_81 : decode b_M_readsDraft 81 = .ok (.iconst 1, 1) := by decide +kernel
theorem d_M_readsDraft_82 : decode b_M_readsDraft 82 = .ok (.isub, 1) := by decide +kernel
theorem d_M_readsDraft_83 : decode b_M_readsDraft 83 = .ok (.aload_n 0, 1) := by decide +kernel
theorem d_M_readsDraft_84 : decode b_M_readsDraft 84 = .ok (.getfield 38, 3) := by decide +kernel
theorem d_M_readsDraft_87 : decode b_M_readsDraft 87 = .ok (.iload_n 1, 1) := by decide +kernel
theorem d_M_readsDraft_88 : decode b_M_readsDraft 88 = .ok (.iaload, 1) := by decide +kernel
theorem d_M_readsDraft_89 : decode b_M_readsDraft 89 = .ok (.invokevirtual 119, 3) := by decide +kernel
theorem d_M_readsDraft_92 : decode b_M_readsDraft 92 = .ok (.iastore, 1) := by decide +kernel
theorem d_M_readsDraft_93 : decode b_M_readsDraft 93 = .ok (.aload_n 0, 1) := by decide +kernel
theorem d_M_readsDraft_94 : decode b_M_readsDraft 94 = .ok (.getfield 38, 3) := by decide +kernel
theorem d_M_readsDraft_97 : decode b_M_readsDraft 97 = .ok (.iload_n 1, 1) := by decide +kernel
theorem d_M_readsDraft_98 : decode b_M_readsDraft 98 = .ok (.iconst 1, 1) := by decide +kernel
theorem d_M_readsDraft_99 : decode b_M_readsDraft 99 = .ok (.iadd, 1) := by decide +kernel
theorem d_M_readsDraft_100 : decode b_M_readsDraft 100 = .ok (.iaload, 1) := by decide +kernel
theorem d_M_readsDraft_101 : decode b_M_readsDraft 101 = .ok (.bipush (-9), 2) := by decide +kernel
theorem d_M_readsDraft_103 : decode b_M_readsDraft 103 = .ok (.if_icmp .eq 14, 3) := by decide +kernel
theorem d_M_readsDraft_106 : decode b_M_readsDraft 106 = .ok (.aload_n 0, 1) := by decide +kernel
theorem d_M_readsDraft_107 : decode b_M_readsDraft 107 = .ok (.getfield 100, 3) := by decide +kernel
theorem d_M_readsDraft_110 : decode b_M_readsDraft 110 = .ok (.aload_n 0, 1) := by decide +kernel
theorem d_M_readsDraft_111 : decode b_M_readsDraft 111 = .ok (.getfield 103, 3) := by decide +kernel
theorem d_M_readsDraft_114 : decode b_M_readsDraft 114 = .ok (.if_icmp .ne 5, 3) := by decide +kernel
theorem d_M_readsDraft_117 : decode b_M_readsDraft 117 = .ok (.iconst 0, 1) := by decide +kernel
theorem d_M_readsDraft_118 : decode b_M_readsDraft 118 = .ok (.ireturn, 1) := by decide +kernel
theorem d_M_readsDraft_119 : decode b_M_readsDraft 119 = .ok (.aload_n 0, 1) := by decide +kernel
theorem d_M_readsDraft_120 : decode b_M_readsDraft 120 = .ok (.invokevirtual 106, 3) := by decide +kernel
theorem d_M_readsDraft_123 : decode b_M_readsDraft 123 = .ok (.istore_n 2, 1) := by decide +kernel
theorem d_M_readsDraft_124 : decode b_M_readsDraft 124 = .ok (.iload_n 2, 1) := by decide +kernel
theorem d_M_readsDraft_125 : decode b_M_readsDraft 125 = .ok (.bipush 104, 2) := by decide +kernel
theorem d_M_readsDraft_127 : decode b_M_readsDraft 127 = .ok (.if_icmp .eq 17, 3) := by decide +kernel
theorem d_M_readsDraft_130 : decode b_M_readsDraft 130 = .ok (.iload_n 2, 1) := by decide +kernel
theorem d_M_readsDraft_131 : decode b_M_readsDraft 131 = .ok (.bipush 99, 2) := by decide +kernel
theorem d_M_readsDraft_133 : decode b_M_readsDraft 133 = .ok (.if_icmp .eq 11, 3) := by decide +kernel
theorem d_M_readsDraft_136 : decode b_M_readsDraft 136 = .ok (.iload_n 2, 1) := by decide +kernel
theorem d_M_readsDraft_137 : decode b_M_readsDraft 137 = .ok (.bipush 116, 2) := by decide +kernel
theorem d_M_readsDraft_139 : decode b_M_readsDraft 139 = .ok (.if_icmp .eq 5, 3) := by decide +kernel
theorem d_M_readsDraft_142 : decode b_M_readsDraft 142 = .ok (.iconst 0, 1) := by decide +kernel
theorem d_M_readsDraft_143 : decode b_M_readsDraft 143 = .ok (.ireturn, 1) := by decide +kernel
theorem d_M_readsDraft_144 : decode b_M_readsDraft 144 = .ok (.aload_n 0, 1) := by decide +kernel
theorem d_M_readsDraft_145 : decode b_M_readsDraft 145 = .ok (.getfield 38, 3) := by decide +kernel
theorem d_M_readsDraft_148 : decode b_M_readsDraft 148 = .ok (.iload_n 1, 1) := by decide +kernel
theorem d_M_readsDraft_149 : decode b_M_readsDraft 149 = .ok (.iconst 2, 1) := by decide +kernel
theorem d_M_readsDraft_150 : decode b_M_readsDraft 150 = .ok (.iadd, 1) := by decide +kernel
theorem d_M_readsDraft_151 : decode b_M_readsDraft 151 = .ok (.iload_n 2, 1) := by decide +kernel
theorem d_M_readsDraft_152 : decode b_M_readsDraft 152 = .ok (.bipush 104, 2) := by decide +kernel
theorem d_M_readsDraft_154 : decode b_M_readsDraft 154 = .ok (.if_icmp .ne 7, 3) := by decide +kernel
theorem d_M_readsDraft_157 : decode b_M_readsDraft 157 = .ok (.iconst 0, 1) := by decide +kernel
theorem d_M_readsDraft_158 : decode b_M_readsDraft 158 = .ok (.goto 14, 3) := by decide +kernel
theorem d_M_readsDraft_161 : decode b_M_readsDraft 161 = .ok (.iload_n 2, 1) := by decide +kernel
theorem d_M_readsDraft_162 : decode b_M_readsDraft 162 = .ok (.bipush 99, 2) := by decide +kernel
theorem d_M_readsDraft_164 : decode b_M_readsDraft 164 = .ok (.if_icmp .ne 7, 3) := by decide +kernel
theorem d_M_readsDraft_167 : decode b_M_readsDraft 167 = .ok (.iconst 1, 1) := by decide +kernel
theorem d_M_readsDraft_168 : decode b_M_readsDraft 168 = .ok (.goto 4, 3) := by decide +kernel
theorem d_M_readsDraft_171 : decode b_M_readsDraft 171 = .ok (.iconst 2, 1) := by decide +kernel
theorem d_M_readsDraft_172 : decode b_M_readsDraft 172 = .ok (.iastore, 1) := by decide +kernel
theorem d_M_readsDraft_173 : decode b_M_readsDraft 173 = .ok (.aload_n 0, 1) := by decide +kernel
theorem d_M_readsDraft_174 : decode b_M_readsDraft 174 = .ok (.dup, 1) := by decide +kernel
theorem d_M_readsDraft_175 : decode b_M_readsDraft 175 = .ok (.getfield 100, 3) := by decide +kernel
theorem d_M_readsDraft_178 : decode b_M_readsDraft 178 = .ok (.iconst 1, 1) := by decide +kernel
theorem d_M_readsDraft_179 : decode b_M_readsDraft 179 = .ok (.iadd, 1) := by decide +kernel
theorem d_M_readsDraft_180 : decode b_M_readsDraft 180 = .ok (.putfield 100, 3) := by decide +kernel
theorem d_M_readsDraft_183 : decode b_M_readsDraft 183 = .ok (.aload_n 0, 1) := by decide +kernel
theorem d_M_readsDraft_184 : decode b_M_readsDraft 184 = .ok (.getfield 38, 3) := by decide +kernel
theorem d_M_readsDraft_187 : decode b_M_readsDraft 187 = .ok (.iload_n 1, 1) := by decide +kernel
theorem d_M_readsDraft_188 : decode b_M_readsDraft 188 = .ok (.iconst 3, 1) := by decide +kernel
theorem d_M_readsDraft_189 : decode b_M_readsDraft 189 = .ok (.iadd, 1) := by decide +kernel
theorem d_M_readsDraft_190 : decode b_M_readsDraft 190 = .ok (.aload_n 0, 1) := by decide +kernel
theorem d_M_readsDraft_191 : decode b_M_readsDraft 191 = .ok (.iconst 1, 1) := by decide +kernel
theorem d_M_readsDraft_192 : decode b_M_readsDraft 192 = .ok (.bipush 9, 2) := by decide +kernel
theorem d_M_readsDraft_194 : decode b_M_readsDraft 194 = .ok (.bipush (-9), 2) := by decide +kernel
theorem d_M_readsDraft_196 : decode b_M_readsDraft 196 = .ok (.invokevirtual 119, 3) := by decide +kernel
theorem d_M_readsDraft_199 : decode b_M_readsDraft 199 = .ok (.iastore, 1) := by decide +kernel
theorem d_M_readsDraft_200 : decode b_M_readsDraft 200 = .ok (.aload_n 0, 1) := by decide +kernel
theorem d_M_readsDraft_201 : decode b_M_readsDraft 201 = .ok (.getfield 38, 3) := by decide +kernel
theorem d_M_readsDraft_204 : decode b_M_readsDraft 204 = .ok (.iload_n 1, 1) := by decide +kernel
theorem d_M_readsDraft_205 : decode b_M_readsDraft 205 = .ok (.iconst 3, 1) := by decide +kernel
theorem d_M_readsDraft_206 : decode b_M_readsDraft 206 = .ok (.iadd, 1) := by decide +kernel
theorem d_M_readsDraft_207 : decode b_M_readsDraft 207 = .ok (.iaload, 1) := by decide +kernel
theorem d_M_readsDraft_208 : decode b_M_readsDraft 208 = .ok (.bipush (-9), 2) := by decide +kernel
theorem d_M_readsDraft_210 : decode b_M_readsDraft 210 = .ok (.if_icmp .ne 5, 3) := by decide +kernel
theorem d_M_readsDraft_213 : decode b_M_readsDraft 213 = .ok (.iconst 0, 1) := by decide +kernel
theorem d_M_readsDraft_214 : decode b_M_readsDraft 214 = .ok (.ireturn, 1) := by decide +kernel
theorem d_M_readsDraft_215 : decode b_M_readsDraft 215 = .ok (.aload_n 0, 1) := by decide +kernel
theorem d_M_readsDraft_216 : decode b_M_readsDraft 216 = .ok (.dup, 1) := by decide +kernel
theorem d_M_readsDraft_217 : decode b_M_readsDraft 217 = .ok (.getfield 116, 3) := by decide +kernel
theorem d_M_readsDraft_220 : decode b_M_readsDraft 220 = .ok (.iconst 1, 1) := by decide +kernel
theorem d_M_readsDraft_221 : decode b_M_readsDraft 221 = .ok (.iadd, 1) := by decide +kernel
theorem d_M_readsDraft_222 : decode b_M_readsDraft 222 = .ok (.putfield 116, 3) := by decide +kernel
theorem d_M_readsDraft_225 : decode b_M_readsDraft 225 = .ok (.iconst 1, 1) := by decide +kernel
theorem d_M_readsDraft_226 : decode b_M_readsDraft 226 = .ok (.ireturn, 1) := by decide +kernel
theorem d_M_readsPerson_0 : decode b_M_readsPerson 0 = .ok (.aload_n 0, 1) := by decide +kernel
theorem d_M_readsPerson_1 : decode b_M_readsPerson 1 = .ok (.invokevirtual 106, 3) := by decide +kernel
theorem d_M_readsPerson_4 : decode b_M_readsPerson 4 = .ok (.invokestatic 110, 3) := by decide +kernel
theorem d_M_readsPerson_7 : decode b_M_readsPerson 7 = .ok (.istore_n 1, 1) := by decide +kernel
theorem d_M_readsPerson_8 : decode b_M_readsPerson 8 = .ok (.iload_n 1, 1) := by decide +kernel
theorem d_M_readsPerson_9 : decode b_M_readsPerson 9 = .ok (.bipush (-9), 2) := by decide +kernel
theorem d_M_readsPerson_11 : decode b_M_readsPerson 11 = .ok (.if_icmp .eq 19, 3) := by decide +kernel
theorem d_M_readsPerson_14 : decode b_M_readsPerson 14 = .ok (.aload_n 0, 1) := by decide +kernel
theorem d_M_readsPerson_15 : decode b_M_readsPerson 15 = .ok (.getfield 113, 3) := by decide +kernel
theorem d_M_readsPerson_18 : decode b_M_readsPerson 18 = .ok (.bipush 6, 2) := by decide +kernel
theorem d_M_readsPerson_20 : decode b_M_readsPerson 20 = .ok (.if_icmp .eq 10, 3) := by decide +kernel
theorem d_M_readsPerson_23 : decode b_M_readsPerson 23 = .ok (.aload_n 0, 1) := by decide +kernel
theorem d_M_readsPerson_24 : decode b_M_readsPerson 24 = .ok (.getfield 116, 3) := by decide +kernel
theorem d_M_readsPerson_27 : decode b_M_readsPerson 27 = .ok (.ifCond .le 5, 3) := by decide +kernel
theorem d_M_readsPerson_30 : decode b_M_readsPerson 30 = .ok (.iconst 0, 1) := by decide +kernel
theorem d_M_readsPerson_31 : decode b_M_readsPerson 31 = .ok (.ireturn, 1) := by decide +kernel
theorem d_M_readsPerson_32 : decode b_M_readsPerson 32 = .ok (.aload_n 0, 1) := by decide +kernel
theorem d_M_readsPerson_33 : decode b_M_readsPerson 33 = .ok (.getfield 35, 3) := by decide +kernel
theorem d_M_readsPerson_36 : decode b_M_readsPerson 36 = .ok (.aload_n 0, 1) := by decide +kernel
theorem d_M_readsPerson_37 : decode b_M_readsPerson 37 = .ok (.getfield 113, 3) := by decide +kernel
theorem d_M_readsPerson_40 : decode b_M_readsPerson 40 = .ok (.iload_n 1, 1) := by decide +kernel
theorem d_M_readsPerson_41 : decode b_M_readsPerson 41 = .ok (.iastore, 1) := by decide +kernel
theorem d_M_readsPerson_42 : decode b_M_readsPerson 42 = .ok (.aload_n 0, 1) := by decide +kernel
theorem d_M_readsPerson_43 : decode b_M_readsPerson 43 = .ok (.dup, 1) := by decide +kernel
theorem d_M_readsPerson_44 : decode b_M_readsPerson 44 = .ok (.getfield 113, 3) := by decide +kernel
theorem d_M_readsPerson_47 : decode b_M_readsPerson 47 = .ok (.iconst 1, 1) := by decide +kernel
theorem d_M_readsPerson_48 : decode b_M_readsPerson 48 = .ok (.iadd, 1) := by decide +kernel
theorem d_M_readsPerson_49 : decode b_M_readsPerson 49 = .ok (.putfield 113, 3) := by decide +kernel
theorem d_M_readsPerson_52 : decode b_M_readsPerson 52 = .ok (.aload_n 0, 1) := by decide +kernel
theorem d_M_readsPerson_53 : decode b_M_readsPerson 53 = .ok (.dup, 1) := by decide +kernel
theorem d_M_readsPerson_54 : decode b_M_readsPerson 54 = .ok (.getfield 100, 3) := by decide +kernel
theorem d_M_readsPerson_57 : decode b_M_readsPerson 57 = .ok (.iconst 1, 1) := by decide +kernel
theorem d_M_readsPerson_58 : decode b_M_readsPerson 58 = .ok (.iadd, 1) := by decide +kernel
theorem d_M_readsPerson_59 : decode b_M_readsPerson 59 = .ok (.putfield 100, 3) := by decide +kernel
theorem d_M_readsPerson_62 : decode b_M_readsPerson 62 = .ok (.iconst 1, 1) := by decide +kernel
theorem d_M_readsPerson_63 : decode b_M_readsPerson 63 = .ok (.ireturn, 1) := by decide +kernel
theorem d_M_refused_0 : decode b_M_refused 0 = .ok (.iload_n 1, 1) := by decide +kernel
theorem d_M_refused_1 : decode b_M_refused 1 = .ok (.invokestatic 71, 3) := by decide +kernel
theorem d_M_refused_4 : decode b_M_refused 4 = .ok (.ifCond .ne 7, 3) := by decide +kernel
theorem d_M_refused_7 : decode b_M_refused 7 = .ok (.iconst (-1), 1) := by decide +kernel
theorem d_M_refused_8 : decode b_M_refused 8 = .ok (.goto 47, 3) := by decide +kernel
theorem d_M_refused_11 : decode b_M_refused 11 = .ok (.aload_n 0, 1) := by decide +kernel
theorem d_M_refused_12 : decode b_M_refused 12 = .ok (.getfield 16, 3) := by decide +kernel
theorem d_M_refused_15 : decode b_M_refused 15 = .ok (.iload_n 1, 1) := by decide +kernel
theorem d_M_refused_16 : decode b_M_refused 16 = .ok (.iaload, 1) := by decide +kernel
theorem d_M_refused_17 : decode b_M_refused 17 = .ok (.ifCond .ge 11, 3) := by decide +kernel
theorem d_M_refused_20 : decode b_M_refused 20 = .ok (.aload_n 0, 1) := by decide +kernel
theorem d_M_refused_21 : decode b_M_refused 21 = .ok (.iconst 1, 1) := by decide +kernel
theorem d_M_refused_22 : decode b_M_refused 22 = .ok (.invokevirtual 75, 3) := by decide +kernel
theorem d_M_refused_25 : decode b_M_refused 25 = .ok (.goto 30, 3) := by decide +kernel
theorem d_M_refused_28 : decode b_M_refused 28 = .ok (.iload_n 2, 1) := by decide +kernel
theorem d_M_refused_29 : decode b_M_refused 29 = .ok (.i2l, 1) := by decide +kernel
theorem d_M_refused_30 : decode b_M_refused 30 = .ok (.lconst 0, 1) := by decide +kernel
theorem d_M_refused_31 : decode b_M_refused 31 = .ok (.aload_n 0, 1) := by decide +kernel
theorem d_M_refused_32 : decode b_M_refused 32 = .ok (.getfield 16, 3) := by decide +kernel
theorem d_M_refused_35 : decode b_M_refused 35 = .ok (.iload_n 1, 1) := by decide +kernel
theorem d_M_refused_36 : decode b_M_refused 36 = .ok (.iaload, 1) := by decide +kernel
theorem d_M_refused_37 : decode b_M_refused 37 = .ok (.iconst 1, 1) := by decide +kernel
theorem d_M_refused_38 : decode b_M_refused 38 = .ok (.isub, 1) := by decide +kernel
theorem d_M_refused_39 : decode b_M_refused 39 = .ok (.i2l, 1) := by decide +kernel
theorem d_M_refused_40 : decode b_M_refused 40 = .ok (.invokestatic 65, 3) := by decide +kernel
theorem d_M_refused_43 : decode b_M_refused 43 = .ok (.ifCond .eq 7, 3) := by decide +kernel
theorem d_M_refused_46 : decode b_M_refused 46 = .ok (.iconst 0, 1) := by decide +kernel
theorem d_M_refused_47 : decode b_M_refused 47 = .ok (.goto 8, 3) := by decide +kernel
theorem d_M_refused_50 : decode b_M_refused 50 = .ok (.aload_n 0, 1) := by decide +kernel
theorem d_M_refused_51 : decode b_M_refused 51 = .ok (.iconst 2, 1) := by decide +kernel
theorem d_M_refused_52 : decode b_M_refused 52 = .ok (.invokevirtual 75, 3) := by decide +kernel
theorem d_M_refused_55 : decode b_M_refused 55 = .ok (.ireturn, 1) := by decide +kernel
theorem d_M_reserve_0 : decode b_M_reserve 0 = .ok (.aload_n 0, 1) := by decide +kernel
theorem d_M_reserve_1 : decode b_M_reserve 1 = .ok (.getfield 13, 3) := by decide +kernel
theorem d_M_reserve_4 : decode b_M_reserve 4 = .ok (.iload_n 1, 1) := by decide +kernel
theorem d_M_reserve_5 : decode b_M_reserve 5 = .ok (.iaload, 1) := by decide +kernel
theorem d_M_reserve_6 : decode b_M_reserve 6 = .ok (.iconst 2, 1) := by decide +kernel
theorem d_M_reserve_7 : decode b_M_reserve 7 = .ok (.if_icmp .ne 7, 3) := by decide +kernel
theorem d_M_reserve_10 : decode b_M_reserve 10 = .ok (.iconst 0, 1) := by decide +kernel
theorem d_M_reserve_11 : decode b_M_reserve 11 = .ok (.goto 34, 3) := by decide +kernel
theorem d_M_reserve_14 : decode b_M_reserve 14 = .ok (.aload_n 0, 1) := by decide +kernel
theorem d_M_reserve_15 : decode b_M_reserve 15 = .ok (.getfield 13, 3) := by decide +kernel
theorem d_M_reserve_18 : decode b_M_reserve 18 = .ok (.iload_n 1, 1) := by decide +kernel
theorem d_M_reserve_19 : decode b_M_reserve 19 = .ok (.iaload, 1) := by decide +kernel
theorem d_M_reserve_20 : decode b_M_reserve 20 = .ok (.iconst 3, 1) := by decide +kernel
theorem d_M_reserve_21 : decode b_M_reserve 21 = .ok (.if_icmp .ne 8, 3) := by decide +kernel
theorem d_M_reserve_24 : decode b_M_reserve 24 = .ok (.bipush 6, 2) := by decide +kernel
theorem d_M_reserve_26 : decode b_M_reserve 26 = .ok (.goto 19, 3) := by decide +kernel
theorem d_M_reserve_29 : decode b_M_reserve 29 = .ok (.aload_n 0, 1) := by decide +kernel
theorem d_M_reserve_30 : decode b_M_reserve 30 = .ok (.getfield 13, 3) := by decide +kernel
theorem d_M_reserve_33 : decode b_M_reserve 33 = .ok (.iload_n 1, 1) := by decide +kernel
theorem d_M_reserve_34 : decode b_M_reserve 34 = .ok (.iaload, 1) := by decide +kernel
theorem d_M_reserve_35 : decode b_M_reserve 35 = .ok (.iconst 5, 1) := by decide +kernel
theorem d_M_reserve_36 : decode b_M_reserve 36 = .ok (.if_icmp .ne 8, 3) := by decide +kernel
theorem d_M_reserve_39 : decode b_M_reserve 39 = .ok (.bipush 12, 2) := by decide +kernel
theorem d_M_reserve_41 : decode b_M_reserve 41 = .ok (.goto 4, 3) := by decide +kernel
theorem d_M_reserve_44 : decode b_M_reserve 44 = .ok (.iconst 1, 1) := by decide +kernel
theorem d_M_reserve_45 : decode b_M_reserve 45 = .ok (.ireturn, 1) := by decide +kernel
theorem d_M_ring_0 : decode b_M_ring 0 = .ok (.iload_n 1, 1) := by decide +kernel
theorem d_M_ring_1 : decode b_M_ring 1 = .ok (.i2l, 1) := by decide +kernel
theorem d_M_ring_2 : decode b_M_ring 2 = .ok (.lconst 0, 1) := by decide +kernel
theorem d_M_ring_3 : decode b_M_ring 3 = .ok (.lconst 1, 1) := by decide +kernel
theorem d_M_ring_4 : decode b_M_ring 4 = .ok (.invokestatic 65, 3) := by decide +kernel
theorem d_M_ring_7 : decode b_M_ring 7 = .ok (.ifCond .eq 10, 3) := by decide +kernel
theorem d_M_ring_10 : decode b_M_ring 10 = .ok (.iload_n 2, 1) := by decide +kernel
theorem d_M_ring_11 : decode b_M_ring 11 = .ok (.invokestatic 71, 3) := by decide +kernel
theorem d_M_ring_14 : decode b_M_ring 14 = .ok (.ifCond .ne 5, 3) := by decide +kernel
theorem d_M_ring_17 : decode b_M_ring 17 = .ok (.iconst (-1), 1) := by decide +kernel
theorem d_M_ring_18 : decode b_M_ring 18 = .ok (.ireturn, 1) := by decide +kernel
theorem d_M_ring_19 : decode b_M_ring 19 = .ok (.aload_n 0, 1) := by decide +kernel
theorem d_M_ring_20 : decode b_M_ring 20 = .ok (.iload_n 1, 1) := by decide +kernel
theorem d_M_ring_21 : decode b_M_ring 21 = .ok (.invokevirtual 255, 3) := by decide +kernel
theorem d_M_ring_24 : decode b_M_ring 24 = .ok (.aload_n 0, 1) := by decide +kernel
theorem d_M_ring_25 : decode b_M_ring 25 = .ok (.invokevirtual 271, 3) := by decide +kernel
theorem d_M_ring_28 : decode b_M_ring 28 = .ok (.ifCond .ne 6, 3) := by decide +kernel
theorem d_M_ring_31 : decode b_M_ring 31 = .ok (.bipush (-9), 2) := by decide +kernel
theorem d_M_ring_33 : decode b_M_ring 33 = .ok (.ireturn, 1) := by decide +kernel
theorem d_M_ring_34 : decode b_M_ring 34 = .ok (.aload_n 0, 1) := by decide +kernel
theorem d_M_ring_35 : decode b_M_ring 35 = .ok (.iload_n 2, 1) := by decide +kernel
theorem d_M_ring_36 : decode b_M_ring 36 = .ok (.aload_n 0, 1) := by decide +kernel
theorem d_M_ring_37 : decode b_M_ring 37 = .ok (.getfield 265, 3) := by decide +kernel
theorem d_M_ring_40 : decode b_M_ring 40 = .ok (.invokevirtual 79, 3) := by decide +kernel
theorem d_M_ring_43 : decode b_M_ring 43 = .ok (.iconst 0, 1) := by decide +kernel
theorem d_M_ring_44 : decode b_M_ring 44 = .ok (.istore_n 3, 1) := by decide +kernel
theorem d_M_ring_45 : decode b_M_ring 45 = .ok (.iload_n 3, 1) := by decide +kernel
theorem d_M_ring_46 : decode b_M_ring 46 = .ok (.aload_n 0, 1) := by decide +kernel
theorem d_M_ring_47 : decode b_M_ring 47 = .ok (.getfield 265, 3) := by decide +kernel
theorem d_M_ring_50 : decode b_M_ring 50 = .ok (.if_icmp .ge 26, 3) := by decide +kernel
theorem d_M_ring_53 : decode b_M_ring 53 = .ok (.aload_n 0, 1) := by decide +kernel
theorem d_M_ring_54 : decode b_M_ring 54 = .ok (.getfield 19, 3) := by decide +kernel
theorem d_M_ring_57 : decode b_M_ring 57 = .ok (.bipush 40, 2) := by decide +kernel
theorem d_M_ring_59 : decode b_M_ring 59 = .ok (.iload_n 2, 1) := by decide +kernel
theorem d_M_ring_60 : decode b_M_ring 60 = .ok (.imul, 1) := by decide +kernel
theorem d_M_ring_61 : decode b_M_ring 61 = .ok (.iload_n 3, 1) := by decide +kernel
theorem d_M_ring_62 : decode b_M_ring 62 = .ok (.iadd, 1) := by decide +kernel
theorem d_M_ring_63 : decode b_M_ring 63 = .ok (.aload_n 0, 1) := by decide +kernel
theorem d_M_ring_64 : decode b_M_ring 64 = .ok (.getfield 47, 3) := by decide +kernel
theorem d_M_ring_67 : decode b_M_ring 67 = .ok (.iload_n 3, 1) := by decide +kernel
theorem d_M_ring_68 : decode b_M_ring 68 = .ok (.iaload, 1) := by decide +kernel
theorem d_M_ring_69 : decode b_M_ring 69 = .ok (.iastore, 1) := by decide +kernel
theorem d_M_ring_70 : decode b_M_ring 70 = .ok (.iinc 3 1, 3) := by decide +kernel
theorem d_M_ring_73 : decode b_M_ring 73 = .ok (.goto (-28), 3) := by decide +kernel
theorem d_M_ring_76 : decode b_M_ring 76 = .ok (.aload_n 0, 1) := by decide +kernel
theorem d_M_ring_77 : decode b_M_ring 77 = .ok (.getfield 268, 3) := by decide +kernel
theorem d_M_ring_80 : decode b_M_ring 80 = .ok (.ireturn, 1) := by decide +kernel
theorem d_M_ringsOf_0 : decode b_M_ringsOf 0 = .ok (.iconst 0, 1) := by decide +kernel
theorem d_M_ringsOf_1 : decode b_M_ringsOf 1 = .ok (.istore_n 3, 1) := by decide +kernel
theorem d_M_ringsOf_2 : decode b_M_ringsOf 2 = .ok (.aload_n 0, 1) := by decide +kernel
theorem d_M_ringsOf_3 : decode b_M_ringsOf 3 = .ok (.iload_n 2, 1) := by decide +kernel
theorem d_M_ringsOf_4 : decode b_M_ringsOf 4 = .ok (.invokevirtual 255, 3) := by decide +kernel
theorem d_M_ringsOf_7 : decode b_M_ringsOf 7 = .ok (.aload_n 0, 1) := by decide +kernel
theorem d_M_ringsOf_8 : decode b_M_ringsOf 8 = .ok (.invokevirtual 259, 3) := by decide +kernel
theorem d_M_ringsOf_11 : decode b_M_ringsOf 11 = .ok (.ifCond .eq 68, 3) := by decide +kernel
theorem d_M_ringsOf_14 : decode b_M_ringsOf 14 = .ok (.iconst 0, 1) := by decide +kernel
theorem d_M_ringsOf_15 : decode b_M_ringsOf 15 = .ok (.istore 4, 2) := by decide +kernel
theorem d_M_ringsOf_17 : decode b_M_ringsOf 17 = .ok (.iconst 0, 1) := by decide +kernel
theorem d_M_ringsOf_18 : decode b_M_ringsOf 18 = .ok (.istore 5, 2) := by decide +kernel
theorem d_M_ringsOf_20 : decode b_M_ringsOf 20 = .ok (.iload 5, 2) := by decide +kernel
theorem d_M_ringsOf_22 : decode b_M_ringsOf 22 = .ok (.aload_n 0, 1) := by decide +kernel
theorem d_M_ringsOf_23 : decode b_M_ringsOf 23 = .ok (.getfield 243, 3) := by decide +kernel
theorem d_M_ringsOf_26 : decode b_M_ringsOf 26 = .ok (.if_icmp .ge 37, 3) := by decide +kernel
theorem d_M_ringsOf_29 : decode b_M_ringsOf 29 = .ok (.iload 4, 2) := by decide +kernel
theorem d_M_ringsOf_31 : decode b_M_ringsOf 31 = .ok (.ifCond .ne 19, 3) := by decide +kernel
theorem d_M_ringsOf_34 : decode b_M_ringsOf 34 = .ok (.aload_n 0, 1) := by decide +kernel
theorem d_M_ringsOf_35 : decode b_M_ringsOf 35 = .ok (.aload_n 0, 1) := by decide +kernel
theorem d_M_ringsOf_36 : decode b_M_ringsOf 36 = .ok (.getfield 44, 3) := by decide +kernel
theorem d_M_ringsOf_39 : decode b_M_ringsOf 39 = .ok (.iload 5, 2) := by decide +kernel
theorem d_M_ringsOf_41 : decode b_M_ringsOf 41 = .ok (.iaload, 1) := by decide +kernel
theorem d_M_ringsOf_42 : decode b_M_ringsOf 42 = .ok (.iconst 0, 1) := by decide +kernel
theorem d_M_ringsOf_43 : decode b_M_ringsOf 43 = .ok (.invokevirtual 146, 3) := by decide +kernel
theorem d_M_ringsOf_46 : decode b_M_ringsOf 46 = .ok (.iload_n 1, 1) := by decide +kernel
theorem d_M_ringsOf_47 : decode b_M_ringsOf 47 = .ok (.if_icmp .ne 7, 3) := by decide +kernel
theorem d_M_ringsOf_50 : decode b_M_ringsOf 50 = .ok (.iconst 1, 1) := by decide +kernel
theorem d_M_ringsOf_51 : decode b_M_ringsOf 51 = .ok (.goto 4, 3) := by decide +kernel
theorem d_M_ringsOf_54 : decode b_M_ringsOf 54 = .ok (.iconst 0, 1) := by decide +kernel
theorem d_M_ringsOf_55 : decode b_M_ringsOf 55 = .ok (.istore 4, 2) := by decide +kernel
theorem d_M_ringsOf_57 : decode b_M_ringsOf 57 = .ok (.iinc 5 1, 3) := by decide +kernel
theorem d_M_ringsOf_60 : decode b_M_ringsOf 60 = .ok (.goto (-40), 3) := by decide +kernel
theorem d_M_ringsOf_63 : decode b_M_ringsOf 63 = .ok (.iload_n 3, 1) := by decide +kernel
theorem d_M_ringsOf_64 : decode b_M_ringsOf 64 = .ok (.iload 4, 2) := by decide +kernel
theorem d_M_ringsOf_66 : decode b_M_ringsOf 66 = .ok (.ifCond .eq 7, 3) := by decide +kernel
theorem d_M_ringsOf_69 : decode b_M_ringsOf 69 = .ok (.iconst 1, 1) := by decide +kernel
theorem d_M_ringsOf_70 : decode b_M_ringsOf 70 = .ok (.goto 4, 3) := by decide +kernel
theorem d_M_ringsOf_73 : decode b_M_ringsOf 73 = .ok (.iconst 0, 1) := by decide +kernel
theorem d_M_ringsOf_74 : decode b_M_ringsOf 74 = .ok (.iadd, 1) := by decide +kernel
theorem d_M_ringsOf_75 : decode b_M_ringsOf 75 = .ok (.istore_n 3, 1) := by decide +kernel
theorem d_M_ringsOf_76 : decode b_M_ringsOf 76 = .ok (.goto (-69), 3) := by decide +kernel
theorem d_M_ringsOf_79 : decode b_M_ringsOf 79 = .ok (.iload_n 3, 1) := by decide +kernel
theorem d_M_ringsOf_80 : decode b_M_ringsOf 80 = .ok (.ireturn, 1) := by decide +kernel
theorem d_M_rounds_0 : decode b_M_rounds 0 = .ok (.aload_n 0, 1) := by decide +kernel
theorem d_M_rounds_1 : decode b_M_rounds 1 = .ok (.invokevirtual 283, 3) := by decide +kernel
theorem d_M_rounds_4 : decode b_M_rounds 4 = .ok (.iconst 0, 1) := by decide +kernel
theorem d_M_rounds_5 : decode b_M_rounds 5 = .ok (.istore_n 1, 1) := by decide +kernel
theorem d_M_rounds_6 : decode b_M_rounds 6 = .ok (.aload_n 0, 1) := by decide +kernel
theorem d_M_rounds_7 : decode b_M_rounds 7 = .ok (.iload_n 1, 1) := by decide +kernel
theorem d_M_rounds_8 : decode b_M_rounds 8 = .ok (.invokevirtual 289, 3) := by decide +kernel
theorem d_M_rounds_11 : decode b_M_rounds 11 = .ok (.ifCond .ne 9, 3) := by decide +kernel
theorem d_M_rounds_14 : decode b_M_rounds 14 = .ok (.iinc 1 1, 3) := by decide +kernel
theorem d_M_rounds_17 : decode b_M_rounds 17 = .ok (.goto (-11), 3) := by decide +kernel
theorem d_M_rounds_20 : decode b_M_rounds 20 = .ok (.iload_n 1, 1) := by decide +kernel
theorem d_M_rounds_21 : decode b_M_rounds 21 = .ok (.ireturn, 1) := by decide +kernel
theorem d_M_row_0 : decode b_M_row 0 = .ok (.iload_n 1, 1) := by decide +kernel
theorem d_M_row_1 : decode b_M_row 1 = .ok (.invokestatic 71, 3) := by decide +kernel
theorem d_M_row_4 : decode b_M_row 4 = .ok (.ifCond .eq 9, 3) := by decide +kernel
theorem d_M_row_7 : decode b_M_row 7 = .ok (.iload_n 2, 1) := by decide +kernel
theorem d_M_row_8 : decode b_M_row 8 = .ok (.bipush 40, 2) := by decide +kernel
theorem d_M_row_10 : decode b_M_row 10 = .ok (.if_icmp .le 5, 3) := by decide +kernel
theorem d_M_row_13 : decode b_M_row 13 = .ok (.iconst (-1), 1) := by decide +kernel
theorem d_M_row_14 : decode b_M_row 14 = .ok (.ireturn, 1) := by decide +kernel
theorem d_M_row_15 : decode b_M_row 15 = .ok (.iload_n 2, 1) := by decide +kernel
theorem d_M_row_16 : decode b_M_row 16 = .ok (.ifCond .ge 9, 3) := by decide +kernel
theorem d_M_row_19 : decode b_M_row 19 = .ok (.aload_n 0, 1) := by decide +kernel
theorem d_M_row_20 : decode b_M_row 20 = .ok (.iconst 5, 1) := by decide +kernel
theorem d_M_row_21 : decode b_M_row 21 = .ok (.invokevirtual 75, 3) := by decide +kernel
theorem d_M_row_24 : decode b_M_row 24 = .ok (.ireturn, 1) := by decide +kernel
theorem d_M_row_25 : decode b_M_row 25 = .ok (.aload_n 0, 1) := by decide +kernel
theorem d_M_row_26 : decode b_M_row 26 = .ok (.iload_n 1, 1) := by decide +kernel
theorem d_M_row_27 : decode b_M_row 27 = .ok (.iload_n 2, 1) := by decide +kernel
theorem d_M_row_28 : decode b_M_row 28 = .ok (.invokevirtual 79, 3) := by decide +kernel
theorem d_M_row_31 : decode b_M_row 31 = .ok (.iload_n 2, 1) := by decide +kernel
theorem d_M_row_32 : decode b_M_row 32 = .ok (.ireturn, 1) := by decide +kernel
theorem d_M_saved_0 : decode b_M_saved 0 = .ok (.aload_n 0, 1) := by decide +kernel
theorem d_M_saved_1 : decode b_M_saved 1 = .ok (.iload_n 1, 1) := by decide +kernel
theorem d_M_saved_2 : decode b_M_saved 2 = .ok (.iload_n 2, 1) := by decide +kernel
theorem d_M_saved_3 : decode b_M_saved 3 = .ok (.invokevirtual 200, 3) := by decide +kernel
theorem d_M_saved_6 : decode b_M_saved 6 = .ok (.ifCond .ne 5, 3) := by decide +kernel
theorem d_M_saved_9 : decode b_M_saved 9 = .ok (.iconst (-1), 1) := by decide +kernel
theorem d_M_saved_10 : decode b_M_saved 10 = .ok (.ireturn, 1) := by decide +kernel
theorem d_M_saved_11 : decode b_M_saved 11 = .ok (.iconst 0, 1) := by decide +kernel
theorem d_M_saved_12 : decode b_M_saved 12 = .ok (.istore_n 3, 1) := by decide +kernel
theorem d_M_saved_13 : decode b_M_saved 13 = .ok (.iload_n 3, 1) := by decide +kernel
theorem d_M_saved_14 : decode b_M_saved 14 = .ok (.sipush 200, 3) := by decide +kernel
theorem d_M_saved_17 : decode b_M_saved 17 = .ok (.if_icmp .gt 25, 3) := by decide +kernel
theorem d_M_saved_20 : decode b_M_saved 20 = .ok (.aload_n 0, 1) := by decide +kernel
theorem d_M_saved_21 : decode b_M_saved 21 = .ok (.iload_n 2, 1) := by decide +kernel
theorem d_M_saved_22 : decode b_M_saved 22 = .ok (.iload_n 1, 1) := by decide +kernel
theorem d_M_saved_23 : decode b_M_saved 23 = .ok (.iload_n 3, 1) := by decide +kernel
theorem d_M_saved_24 : decode b_M_saved 24 = .ok (.invokevirtual 274, 3) := by decide +kernel
theorem d_M_saved_27 : decode b_M_saved 27 = .ok (.iload_n 1, 1) := by decide +kernel
theorem d_M_saved_28 : decode b_M_saved 28 = .ok (.invokestatic 152, 3) := by decide +kernel
theorem d_M_saved_31 : decode b_M_saved 31 = .ok (.ifCond .ne 5, 3) := by decide +kernel
theorem d_M_saved_34 : decode b_M_saved 34 = .ok (.iload_n 3, 1) := by decide +kernel
theorem d_M_saved_35 : decode b_M_saved 35 = .ok (.ireturn, 1) := by decide +kernel
theorem d_M_saved_36 : decode b_M_saved 36 = .ok (.iinc 3 1, 3) := by decide +kernel
theorem d_M_saved_39 : decode b_M_saved 39 = .ok (.goto (-26), 3) := by decide +kernel
theorem d_M_saved_42 : decode b_M_saved 42 = .ok (.bipush (-9), 2) := by decide +kernel
theorem d_M_saved_44 : decode b_M_saved 44 = .ok (.ireturn, 1) := by decide +kernel
theorem d_M_skip_0 : decode b_M_skip 0 = .ok (.aload_n 0, 1) := by decide +kernel
theorem d_M_skip_1 : decode b_M_skip 1 = .ok (.getfield 100, 3) := by decide +kernel
theorem d_M_skip_4 : decode b_M_skip 4 = .ok (.aload_n 0, 1) := by decide +kernel
theorem d_M_skip_5 : decode b_M_skip 5 = .ok (.getfield 103, 3) := by decide +kernel
theorem d_M_skip_8 : decode b_M_skip 8 = .ok (.if_icmp .ge 25, 3) := by decide +kernel
theorem d_M_skip_11 : decode b_M_skip 11 = .ok (.aload_n 0, 1) := by decide +kernel
theorem d_M_skip_12 : decode b_M_skip 12 = .ok (.invokevirtual 106, 3) := by decide +kernel
theorem d_M_skip_15 : decode b_M_skip 15 = .ok (.bipush 32, 2) := by decide +kernel
theorem d_M_skip_17 : decode b_M_skip 17 = .ok (.if_icmp .ne 16, 3) := by decide +kernel
theorem d_M_skip_20 : decode b_M_skip 20 = .ok (.aload_n 0, 1) := by decide +kernel
theorem d_M_skip_21 : decode b_M_skip 21 = .ok (.dup, 1) := by decide +kernel
theorem d_M_skip_22 : decode b_M_skip 22 = .ok (.getfield 100, 3) := by decide +kernel
theorem d_M_skip_25 : decode b_M_skip 25 = .ok (.iconst 1, 1) := by decide +kernel
theorem d_M_skip_26 : decode b_M_skip 26 = .ok (.iadd, 1) := by decide +kernel
theorem d_M_skip_27 : decode b_M_skip 27 = .ok (.putfield 100, 3) := by decide +kernel
theorem d_M_skip_30 : decode b_M_skip 30 = .ok (.goto (-30), 3) := by decide +kernel
theorem d_M_skip_33 : decode b_M_skip 33 = .ok (.return_, 1) := by decide +kernel
theorem d_M_souring_0 : decode b_M_souring 0 = .ok (.iconst 0, 1) := by decide +kernel
theorem d_M_souring_1 : decode b_M_souring 1 = .ok (.istore_n 2, 1) := by decide +kernel
theorem d_M_souring_2 : decode b_M_souring 2 = .ok (.iconst 0, 1) := by decide +kernel
theorem d_M_souring_3 : decode b_M_souring 3 = .ok (.istore_n 3, 1) := by decide +kernel
theorem d_M_souring_4 : decode b_M_souring 4 = .ok (.iload_n 3, 1) := by decide +kernel
theorem d_M_souring_5 : decode b_M_souring 5 = .ok (.aload_n 0, 1) := by decide +kernel
theorem d_M_souring_6 : decode b_M_souring 6 = .ok (.getfield 7, 3) := by decide +kernel
theorem d_M_souring_9 : decode b_M_souring 9 = .ok (.iconst 1, 1) := by decide +kernel
theorem d_M_souring_10 : decode b_M_souring 10 = .ok (.iaload, 1) := by decide +kernel
theorem d_M_souring_11 : decode b_M_souring 11 = .ok (.if_icmp .ge 55, 3) := by decide +kernel
theorem d_M_souring_14 : decode b_M_souring 14 = .ok (.iload_n 2, 1) := by decide +kernel
theorem d_M_souring_15 : decode b_M_souring 15 = .ok (.aload_n 0, 1) := by decide +kernel
theorem d_M_souring_16 : decode b_M_souring 16 = .ok (.iload_n 3, 1) := by decide +kernel
theorem d_M_souring_17 : decode b_M_souring 17 = .ok (.iconst 1, 1) := by decide +kernel
theorem d_M_souring_18 : decode b_M_souring 18 = .ok (.invokevirtual 146, 3) := by decide +kernel
theorem d_M_souring_21 : decode b_M_souring 21 = .ok (.iload_n 1, 1) := by decide +kernel
theorem d_M_souring_22 : decode b_M_souring 22 = .ok (.if_icmp .ne 35, 3) := by decide +kernel
theorem d_M_souring_25 : decode b_M_souring 25 = .ok (.aload_n 0, 1) := by decide +kernel
theorem d_M_souring_26 : decode b_M_souring 26 = .ok (.iload_n 3, 1) := by decide +kernel
theorem d_M_souring_27 : decode b_M_souring 27 = .ok (.invokevirtual 156, 3) := by decide +kernel
theorem d_M_souring_30 : decode b_M_souring 30 = .ok (.ifCond .eq 27, 3) := by decide +kernel
theorem d_M_souring_33 : decode b_M_souring 33 = .ok (.aload_n 0, 1) := by decide +kernel
theorem d_M_souring_34 : decode b_M_souring 34 = .ok (.iload_n 3, 1) := by decide +kernel
theorem d_M_souring_35 : decode b_M_souring 35 = .ok (.iconst 2, 1) := by decide +kernel
theorem d_M_souring_36 : decode b_M_souring 36 = .ok (.invokevirtual 146, 3) := by decide +kernel
theorem d_M_souring_39 : decode b_M_souring 39 = .ok (.iconst 2, 1) := by decide +kernel
theorem d_M_souring_40 : decode b_M_souring 40 = .ok (.if_icmp .eq 17, 3) := by decide +kernel
theorem d_M_souring_43 : decode b_M_souring 43 = .ok (.aload_n 0, 1) := by decide +kernel
theorem d_M_souring_44 : decode b_M_souring 44 = .ok (.iload_n 3, 1) := by decide +kernel
theorem d_M_souring_45 : decode b_M_souring 45 = .ok (.iconst 4, 1) := by decide +kernel
theorem d_M_souring_46 : decode b_M_souring 46 = .ok (.invokevirtual 146, 3) := by decide +kernel
theorem d_M_souring_49 : decode b_M_souring 49 = .ok (.iconst 2, 1) := by decide +kernel
theorem d_M_souring_50 : decode b_M_souring 50 = .ok (.if_icmp .le 7, 3) := by decide +kernel
theorem d_M_souring_53 : decode b_M_souring 53 = .ok (.iconst 1, 1) := by decide +kernel
theorem d_M_souring_54 : decode b_M_souring 54 = .ok (.goto 4, 3) := by decide +kernel
theorem d_M_souring_57 : decode b_M_souring 57 = .ok (.iconst 0, 1) := by decide +kernel
theorem d_M_souring_58 : decode b_M_souring 58 = .ok (.iadd, 1) := by decide +kernel
theorem d_M_souring_59 : decode b_M_souring 59 = .ok (.istore_n 2, 1) := by decide +kernel
theorem d_M_souring_60 : decode b_M_souring 60 = .ok (.iinc 3 1, 3) := by decide +kernel
theorem d_M_souring_63 : decode b_M_souring 63 = .ok (.goto (-59), 3) := by decide +kernel
theorem d_M_souring_66 : decode b_M_souring 66 = .ok (.iload_n 2, 1) := by decide +kernel
theorem d_M_souring_67 : decode b_M_souring 67 = .ok (.ireturn, 1) := by decide +kernel
theorem d_M_sumOf_0 : decode b_M_sumOf 0 = .ok (.iconst 0, 1) := by decide +kernel
theorem d_M_sumOf_1 : decode b_M_sumOf 1 = .ok (.istore 4, 2) := by decide +kernel
theorem d_M_sumOf_3 : decode b_M_sumOf 3 = .ok (.iconst 0, 1) := by decide +kernel
theorem d_M_sumOf_4 : decode b_M_sumOf 4 = .ok (.istore 5, 2) := by decide +kernel
theorem d_M_sumOf_6 : decode b_M_sumOf 6 = .ok (.iload 5, 2) := by decide +kernel
theorem d_M_sumOf_8 : decode b_M_sumOf 8 = .ok (.aload_n 0, 1) := by decide +kernel
theorem d_M_sumOf_9 : decode b_M_sumOf 9 = .ok (.getfield 7, 3) := by decide +kernel
theorem d_M_sumOf_12 : decode b_M_sumOf 12 = .ok (.iconst 1, 1) := by decide +kernel
theorem d_M_sumOf_13 : decode b_M_sumOf 13 = .ok (.iaload, 1) := by decide +kernel
theorem d_M_sumOf_14 : decode b_M_sumOf 14 = .ok (.if_icmp .ge 47, 3) := by decide +kernel
theorem d_M_sumOf_17 : decode b_M_sumOf 17 = .ok (.iload 4, 2) := by decide +kernel
theorem d_M_sumOf_19 : decode b_M_sumOf 19 = .ok (.aload_n 0, 1) := by decide +kernel
theorem d_M_sumOf_20 : decode b_M_sumOf 20 = .ok (.iload 5, 2) := by decide +kernel
theorem d_M_sumOf_22 : decode b_M_sumOf 22 = .ok (.iload_n 1, 1) := by decide +kernel
theorem d_M_sumOf_23 : decode b_M_sumOf 23 = .ok (.iload_n 2, 1) := by decide +kernel
theorem d_M_sumOf_24 : decode b_M_sumOf 24 = .ok (.invokevirtual 213, 3) := by decide +kernel
theorem d_M_sumOf_27 : decode b_M_sumOf 27 = .ok (.ifCond .eq 24, 3) := by decide +kernel
theorem d_M_sumOf_30 : decode b_M_sumOf 30 = .ok (.aload_n 0, 1) := by decide +kernel
theorem d_M_sumOf_31 : decode b_M_sumOf 31 = .ok (.iload 5, 2) := by decide +kernel
theorem d_M_sumOf_33 : decode b_M_sumOf 33 = .ok (.iconst 2, 1) := by decide +kernel
theorem d_M_sumOf_34 : decode b_M_sumOf 34 = .ok (.invokevirtual 146, 3) := by decide +kernel
theorem d_M_sumOf_37 : decode b_M_sumOf 37 = .ok (.iload_n 3, 1) := by decide +kernel
theorem d_M_sumOf_38 : decode b_M_sumOf 38 = .ok (.if_icmp .ne 13, 3) := by decide +kernel
theorem d_M_sumOf_41 : decode b_M_sumOf 41 = .ok (.aload_n 0, 1) := by decide +kernel
theorem d_M_sumOf_42 : decode b_M_sumOf 42 = .ok (.iload 5, 2) := by decide +kernel
theorem d_M_sumOf_44 : decode b_M_sumOf 44 = .ok (.iconst 3, 1) := by decide +kernel
theorem d_M_sumOf_45 : decode b_M_sumOf 45 = .ok (.invokevirtual 146, 3) := by decide +kernel
theorem d_M_sumOf_48 : decode b_M_sumOf 48 = .ok (.goto 4, 3) := by decide +kernel
theorem d_M_sumOf_51 : decode b_M_sumOf 51 = .ok (.iconst 0, 1) := by decide +kernel
theorem d_M_sumOf_52 : decode b_M_sumOf 52 = .ok (.iadd, 1) := by decide +kernel
theorem d_M_sumOf_53 : decode b_M_sumOf 53 = .ok (.istore 4, 2) := by decide +kernel
theorem d_M_sumOf_55 : decode b_M_sumOf 55 = .ok (.iinc 5 1, 3) := by decide +kernel
theorem d_M_sumOf_58 : decode b_M_sumOf 58 = .ok (.goto (-52), 3) := by decide +kernel
theorem d_M_sumOf_61 : decode b_M_sumOf 61 = .ok (.iload 4, 2) := by decide +kernel
theorem d_M_sumOf_63 : decode b_M_sumOf 63 = .ok (.ireturn, 1) := by decide +kernel
theorem d_M_sure_0 : decode b_M_sure 0 = .ok (.aload_n 0, 1) := by decide +kernel
theorem d_M_sure_1 : decode b_M_sure 1 = .ok (.iload_n 1, 1) := by decide +kernel
theorem d_M_sure_2 : decode b_M_sure 2 = .ok (.invokevirtual 320, 3) := by decide +kernel
theorem d_M_sure_5 : decode b_M_sure 5 = .ok (.istore_n 2, 1) := by decide +kernel
theorem d_M_sure_6 : decode b_M_sure 6 = .ok (.iload_n 2, 1) := by decide +kernel
theorem d_M_sure_7 : decode b_M_sure 7 = .ok (.ifCond .eq 7, 3) := by decide +kernel
theorem d_M_sure_10 : decode b_M_sure 10 = .ok (.iload_n 2, 1) := by decide +kernel
theorem d_M_sure_11 : decode b_M_sure 11 = .ok (.goto 7, 3) := by decide +kernel
theorem d_M_sure_14 : decode b_M_sure 14 = .ok (.aload_n 0, 1) := by decide +kernel
theorem d_M_sure_15 : decode b_M_sure 15 = .ok (.getfield 311, 3) := by decide +kernel
theorem d_M_sure_18 : decode b_M_sure 18 = .ok (.ireturn, 1) := by decide +kernel
theorem d_M_tear_0 : decode b_M_tear 0 = .ok (.iload_n 1, 1) := by decide +kernel
theorem d_M_tear_1 : decode b_M_tear 1 = .ok (.invokestatic 71, 3) := by decide +kernel
theorem d_M_tear_4 : decode b_M_tear 4 = .ok (.ifCond .ne 5, 3) := by decide +kernel
theorem d_M_tear_7 : decode b_M_tear 7 = .ok (.iconst (-1), 1) := by decide +kernel
theorem d_M_tear_8 : decode b_M_tear 8 = .ok (.ireturn, 1) := by decide +kernel
theorem d_M_tear_9 : decode b_M_tear 9 = .ok (.aload_n 0, 1) := by decide +kernel
theorem d_M_tear_10 : decode b_M_tear 10 = .ok (.getfield 16, 3) := by decide +kernel
theorem d_M_tear_13 : decode b_M_tear 13 = .ok (.iload_n 1, 1) := by decide +kernel
theorem d_M_tear_14 : decode b_M_tear 14 = .ok (.iaload, 1) := by decide +kernel
theorem d_M_tear_15 : decode b_M_tear 15 = .ok (.ifCond .ge 9, 3) := by decide +kernel
theorem d_M_tear_18 : decode b_M_tear 18 = .ok (.aload_n 0, 1) := by decide +kernel
theorem d_M_tear_19 : decode b_M_tear 19 = .ok (.iconst 1, 1) := by decide +kernel
theorem d_M_tear_20 : decode b_M_tear 20 = .ok (.invokevirtual 75, 3) := by decide +kernel
theorem d_M_tear_23 : decode b_M_tear 23 = .ok (.ireturn, 1) := by decide +kernel
theorem d_M_tear_24 : decode b_M_tear 24 = .ok (.aload_n 0, 1) := by decide +kernel
theorem d_M_tear_25 : decode b_M_tear 25 = .ok (.getfield 16, 3) := by decide +kernel
theorem d_M_tear_28 : decode b_M_tear 28 = .ok (.iload_n 1, 1) := by decide +kernel
theorem d_M_tear_29 : decode b_M_tear 29 = .ok (.iconst (-1), 1) := by decide +kernel
theorem d_M_tear_30 : decode b_M_tear 30 = .ok (.iastore, 1) := by decide +kernel
theorem d_M_tear_31 : decode b_M_tear 31 = .ok (.iconst 1, 1) := by decide +kernel
theorem d_M_tear_32 : decode b_M_tear 32 = .ok (.ireturn, 1) := by decide +kernel
theorem d_M_tell_0 : decode b_M_tell 0 = .ok (.aload_n 0, 1) := by decide +kernel
theorem d_M_tell_1 : decode b_M_tell 1 = .ok (.iload_n 1, 1) := by decide +kernel
theorem d_M_tell_2 : decode b_M_tell 2 = .ok (.putfield 60, 3) := by decide +kernel
theorem d_M_tell_5 : decode b_M_tell 5 = .ok (.iconst 1, 1) := by decide +kernel
theorem d_M_tell_6 : decode b_M_tell 6 = .ok (.ireturn, 1) := by decide +kernel
theorem d_M_text_0 : decode b_M_text 0 = .ok (.iload_n 1, 1) := by decide +kernel
theorem d_M_text_1 : decode b_M_text 1 = .ok (.invokestatic 94, 3) := by decide +kernel
theorem d_M_text_4 : decode b_M_text 4 = .ok (.ifCond .eq 9, 3) := by decide +kernel
theorem d_M_text_7 : decode b_M_text 7 = .ok (.iload_n 2, 1) := by decide +kernel
theorem d_M_text_8 : decode b_M_text 8 = .ok (.bipush 80, 2) := by decide +kernel
theorem d_M_text_10 : decode b_M_text 10 = .ok (.if_icmp .le 5, 3) := by decide +kernel
theorem d_M_text_13 : decode b_M_text 13 = .ok (.iconst (-1), 1) := by decide +kernel
theorem d_M_text_14 : decode b_M_text 14 = .ok (.ireturn, 1) := by decide +kernel
theorem d_M_text_15 : decode b_M_text 15 = .ok (.iload_n 2, 1) := by decide +kernel
theorem d_M_text_16 : decode b_M_text 16 = .ok (.ifCond .ge 9, 3) := by decide +kernel
theorem d_M_text_19 : decode b_M_text 19 = .ok (.aload_n 0, 1) := by decide +kernel
theorem d_M_text_20 : decode b_M_text 20 = .ok (.iconst 5, 1) := by decide +kernel
theorem d_M_text_21 : decode b_M_text 21 = .ok (.invokevirtual 75, 3) := by decide +kernel
theorem d_M_text_24 : decode b_M_text 24 = .ok (.ireturn, 1) := by decide +kernel
theorem d_M_text_25 : decode b_M_text 25 = .ok (.aload_n 0, 1) := by decide +kernel
theorem d_M_text_26 : decode b_M_text 26 = .ok (.getfield 22, 3) := by decide +kernel
theorem d_M_text_29 : decode b_M_text 29 = .ok (.iload_n 1, 1) := by decide +kernel
theorem d_M_text_30 : decode b_M_text 30 = .ok (.iload_n 2, 1) := by decide +kernel
theorem d_M_text_31 : decode b_M_text 31 = .ok (.iastore, 1) := by decide +kernel
theorem d_M_text_32 : decode b_M_text 32 = .ok (.iconst 0, 1) := by decide +kernel
theorem d_M_text_33 : decode b_M_text 33 = .ok (.istore_n 3, 1) := by decide +kernel
theorem d_M_text_34 : decode b_M_text 34 = .ok (.iload_n 3, 1) := by decide +kernel
theorem d_M_text_35 : decode b_M_text 35 = .ok (.bipush 80, 2) := by decide +kernel
theorem d_M_text_37 : decode b_M_text 37 = .ok (.if_icmp .ge 22, 3) := by decide +kernel
theorem d_M_text_40 : decode b_M_text 40 = .ok (.aload_n 0, 1) := by decide +kernel
theorem d_M_text_41 : decode b_M_text 41 = .ok (.getfield 25, 3) := by decide +kernel
theorem d_M_text_44 : decode b_M_text 44 = .ok (.bipush 80, 2) := by decide +kernel
theorem d_M_text_46 : decode b_M_text 46 = .ok (.iload_n 1, 1) := by decide +kernel
theorem d_M_text_47 : decode b_M_text 47 = .ok (.imul, 1) := by decide +kernel
theorem d_M_text_48 : decode b_M_text 48 = .ok (.iload_n 3, 1) := by decide +kernel
theorem d_M_text_49 : decode b_M_text 49 = .ok (.iadd, 1) := by decide +kernel
theorem d_M_text_50 : decode b_M_text 50 = .ok (.bipush 32, 2) := by decide +kernel
theorem d_M_text_52 : decode b_M_text 52 = .ok (.iastore, 1) := by decide +kernel
theorem d_M_text_53 : decode b_M_text 53 = .ok (.iinc 3 1, 3) := by decide +kernel
theorem d_M_text_56 : decode b_M_text 56 = .ok (.goto (-22), 3) := by decide +kernel
theorem d_M_text_59 : decode b_M_text 59 = .ok (.iload_n 2, 1) := by decide +kernel
theorem d_M_text_60 : decode b_M_text 60 = .ok (.ireturn, 1) := by decide +kernel
theorem d_M_thereOf_0 : decode b_M_thereOf 0 = .ok (.iconst 0, 1) := by decide +kernel
theorem d_M_thereOf_1 : decode b_M_thereOf 1 = .ok (.istore_n 2, 1) := by decide +kernel
theorem d_M_thereOf_2 : decode b_M_thereOf 2 = .ok (.iconst 0, 1) := by decide +kernel
theorem d_M_thereOf_3 : decode b_M_thereOf 3 = .ok (.istore_n 3, 1) := by decide +kernel
theorem d_M_thereOf_4 : decode b_M_thereOf 4 = .ok (.iload_n 3, 1) := by decide +kernel
theorem d_M_thereOf_5 : decode b_M_thereOf 5 = .ok (.bipush 6, 2) := by decide +kernel
theorem d_M_thereOf_7 : decode b_M_thereOf 7 = .ok (.if_icmp .ge 90, 3) := by decide +kernel
theorem d_M_thereOf_10 : decode b_M_thereOf 10 = .ok (.iload_n 2, 1) := by decide +kernel
theorem d_M_thereOf_11 : decode b_M_thereOf 11 = .ok (.iload_n 1, 1) := by decide +kernel
theorem d_M_thereOf_12 : decode b_M_thereOf 12 = .ok (.bipush 6, 2) := by decide +kernel
theorem d_M_thereOf_14 : decode b_M_thereOf 14 = .ok (.if_icmp .ne 20, 3) := by decide +kernel
theorem d_M_thereOf_17 : decode b_M_thereOf 17 = .ok (.aload_n 0, 1) := by decide +kernel
theorem d_M_thereOf_18 : decode b_M_thereOf 18 = .ok (.getfield 16, 3) := by decide +kernel
theorem d_M_thereOf_21 : decode b_M_thereOf 21 = .ok (.iload_n 3, 1) := by decide +kernel
theorem d_M_thereOf_22 : decode b_M_thereOf 22 = .ok (.iaload, 1) := by decide +kernel
theorem d_M_thereOf_23 : decode b_M_thereOf 23 = .ok (.ifCond .ge 7, 3) := by decide +kernel
theorem d_M_thereOf_26 : decode b_M_thereOf 26 = .ok (.iconst 0, 1) := by decide +kernel
theorem d_M_thereOf_27 : decode b_M_thereOf 27 = .ok (.goto 62, 3) := by decide +kernel
theorem d_M_thereOf_30 : decode b_M_thereOf 30 = .ok (.iconst 1, 1) := by decide +kernel
theorem d_M_thereOf_31 : decode b_M_thereOf 31 = .ok (.goto 58, 3) := by decide +kernel
theorem d_M_thereOf_34 : decode b_M_thereOf 34 = .ok (.iload_n 1, 1) := by decide +kernel
theorem d_M_thereOf_35 : decode b_M_thereOf 35 = .ok (.bipush 7, 2) := by decide +kernel
theorem d_M_thereOf_37 : decode b_M_thereOf 37 = .ok (.if_icmp .ne 25, 3) := by decide +kernel
theorem d_M_thereOf_40 : decode b_M_thereOf 40 = .ok (.iload_n 3, 1) := by decide +kernel
theorem d_M_thereOf_41 : decode b_M_thereOf 41 = .ok (.iconst 4, 1) := by decide +kernel
theorem d_M_thereOf_42 : decode b_M_thereOf 42 = .ok (.if_icmp .ge 16, 3) := by decide +kernel
theorem d_M_thereOf_45 : decode b_M_thereOf 45 = .ok (.aload_n 0, 1) := by decide +kernel
theorem d_M_thereOf_46 : decode b_M_thereOf 46 = .ok (.getfield 22, 3) := by decide +kernel
theorem d_M_thereOf_49 : decode b_M_thereOf 49 = .ok (.iload_n 3, 1) := by decide +kernel
theorem d_M_thereOf_50 : decode b_M_thereOf 50 = .ok (.iaload, 1) := by decide +kernel
theorem d_M_thereOf_51 : decode b_M_thereOf 51 = .ok (.ifCond .lt 7, 3) := by decide +kernel
theorem d_M_thereOf_54 : decode b_M_thereOf 54 = .ok (.iconst 1, 1) := by decide +kernel
theorem d_M_thereOf_55 : decode b_M_thereOf 55 = .ok (.goto 34, 3) := by decide +kernel
theorem d_M_thereOf_58 : decode b_M_thereOf 58 = .ok (.iconst 0, 1) := by decide +kernel
theorem d_M_thereOf_59 : decode b_M_thereOf 59 = .ok (.goto 30, 3) := by decide +kernel
theorem d_M_thereOf_62 : decode b_M_thereOf 62 = .ok (.iload_n 3, 1) := by decide +kernel
theorem d_M_thereOf_63 : decode b_M_thereOf 63 = .ok (.iconst 3, 1) := by decide +kernel
theorem d_M_thereOf_64 : decode b_M_thereOf 64 = .ok (.if_icmp .ge 24, 3) := by decide +kernel
theorem d_M_thereOf_67 : decode b_M_thereOf 67 = .ok (.aload_n 0, 1) := by decide +kernel
theorem d_M_thereOf_68 : decode b_M_thereOf 68 = .ok (.getfield 7, 3) := by decide +kernel
theorem d_M_thereOf_71 : decode b_M_thereOf 71 = .ok (.sipush 2994, 3) := by decide +kernel
theorem d_M_thereOf_74 : decode b_M_thereOf 74 = .ok (.iconst 1, 1) := by decide +kernel
theorem d_M_thereOf_75 : decode b_M_thereOf 75 = .ok (.iload_n 3, 1) := by decide +kernel
theorem d_M_thereOf_76 : decode b_M_thereOf 76 = .ok (.iadd, 1) := by decide +kernel
theorem d_M_thereOf_77 : decode b_M_thereOf 77 = .ok (.imul, 1) := by decide +kernel
theorem d_M_thereOf_78 : decode b_M_thereOf 78 = .ok (.iconst 0, 1) := by decide +kernel
theorem d_M_thereOf_79 : decode b_M_thereOf 79 = .ok (.iadd, 1) := by decide +kernel
theorem d_M_thereOf_80 : decode b_M_thereOf 80 = .ok (.iaload, 1) := by decide +kernel
theorem d_M_thereOf_81 : decode b_M_thereOf 81 = .ok (.ifCond .lt 7, 3) := by decide +kernel
theorem d_M_thereOf_84 : decode b_M_thereOf 84 = .ok (.iconst 1, 1) := by decide +kernel
theorem d_M_thereOf_85 : decode b_M_thereOf 85 = .ok (.goto 4, 3) := by decide +kernel
theorem d_M_thereOf_88 : decode b_M_thereOf 88 = .ok (.iconst 0, 1) := by decide +kernel
theorem d_M_thereOf_89 : decode b_M_thereOf 89 = .ok (.iadd, 1) := by decide +kernel
theorem d_M_thereOf_90 : decode b_M_thereOf 90 = .ok (.istore_n 2, 1) := by decide +kernel
theorem d_M_thereOf_91 : decode b_M_thereOf 91 = .ok (.iinc 3 1, 3) := by decide +kernel
theorem d_M_thereOf_94 : decode b_M_thereOf 94 = .ok (.goto (-90), 3) := by decide +kernel
theorem d_M_thereOf_97 : decode b_M_thereOf 97 = .ok (.iload_n 2, 1) := by decide +kernel
theorem d_M_thereOf_98 : decode b_M_thereOf 98 = .ok (.ireturn, 1) := by decide +kernel
theorem d_M_toldOf_0 : decode b_M_toldOf 0 = .ok (.iload_n 2, 1) := by decide +kernel
theorem d_M_toldOf_1 : decode b_M_toldOf 1 = .ok (.tableswitch 57 0 3 #[31, 38, 44, 51], 31) := by decide +kernel
theorem d_M_toldOf_32 : decode b_M_toldOf 32 = .ok (.aload_n 0, 1) := by decide +kernel
theorem d_M_toldOf_33 : decode b_M_toldOf 33 = .ok (.getfield 13, 3) := by decide +kernel
theorem d_M_toldOf_36 : decode b_M_toldOf 36 = .ok (.iload_n 1, 1) := by decide +kernel
theorem d_M_toldOf_37 : decode b_M_toldOf 37 = .ok (.iaload, 1) := by decide +kernel
theorem d_M_toldOf_38 : decode b_M_toldOf 38 = .ok (.ireturn, 1) := by decide +kernel
theorem d_M_toldOf_39 : decode b_M_toldOf 39 = .ok (.aload_n 0, 1) := by decide +kernel
theorem d_M_toldOf_40 : decode b_M_toldOf 40 = .ok (.iload_n 1, 1) := by decide +kernel
theorem d_M_toldOf_41 : decode b_M_toldOf 41 = .ok (.invokevirtual 162, 3) := by decide +kernel
theorem d_M_toldOf_44 : decode b_M_toldOf 44 = .ok (.ireturn, 1) := by decide +kernel
theorem d_M_toldOf_45 : decode b_M_toldOf 45 = .ok (.aload_n 0, 1) := by decide +kernel
theorem d_M_toldOf_46 : decode b_M_toldOf 46 = .ok (.iload_n 1, 1) := by decide +kernel
theorem d_M_toldOf_47 : decode b_M_toldOf 47 = .ok (.iconst 0, 1) := by decide +kernel
theorem d_M_toldOf_48 : decode b_M_toldOf 48 = .ok (.invokevirtual 165, 3) := by decide +kernel
theorem d_M_toldOf_51 : decode b_M_toldOf 51 = .ok (.ireturn, 1) := by decide +kernel
theorem d_M_toldOf_52 : decode b_M_toldOf 52 = .ok (.aload_n 0, 1) := by decide +kernel
theorem d_M_toldOf_53 : decode b_M_toldOf 53 = .ok (.iload_n 1, 1) := by decide +kernel
theorem d_M_toldOf_54 : decode b_M_toldOf 54 = .ok (.invokevirtual 168, 3) := by decide +kernel
theorem d_M_toldOf_57 : decode b_M_toldOf 57 = .ok (.ireturn, 1) := by decide +kernel
theorem d_M_toldOf_58 : decode b_M_toldOf 58 = .ok (.aload_n 0, 1) := by decide +kernel
theorem d_M_toldOf_59 : decode b_M_toldOf 59 = .ok (.iload_n 1, 1) := by decide +kernel
theorem d_M_toldOf_60 : decode b_M_toldOf 60 = .ok (.invokevirtual 171, 3) := by decide +kernel
theorem d_M_toldOf_63 : decode b_M_toldOf 63 = .ok (.ireturn, 1) := by decide +kernel
theorem d_M_trust_0 : decode b_M_trust 0 = .ok (.aload_n 0, 1) := by decide +kernel
theorem d_M_trust_1 : decode b_M_trust 1 = .ok (.iload_n 1, 1) := by decide +kernel
theorem d_M_trust_2 : decode b_M_trust 2 = .ok (.iload_n 2, 1) := by decide +kernel
theorem d_M_trust_3 : decode b_M_trust 3 = .ok (.invokevirtual 200, 3) := by decide +kernel
theorem d_M_trust_6 : decode b_M_trust 6 = .ok (.ifCond .ne 5, 3) := by decide +kernel
theorem d_M_trust_9 : decode b_M_trust 9 = .ok (.iconst (-1), 1) := by decide +kernel
theorem d_M_trust_10 : decode b_M_trust 10 = .ok (.ireturn, 1) := by decide +kernel
theorem d_M_trust_11 : decode b_M_trust 11 = .ok (.iconst 1, 1) := by decide +kernel
theorem d_M_trust_12 : decode b_M_trust 12 = .ok (.iload_n 1, 1) := by decide +kernel
theorem d_M_trust_13 : decode b_M_trust 13 = .ok (.ishl, 1) := by decide +kernel
theorem d_M_trust_14 : decode b_M_trust 14 = .ok (.istore_n 3, 1) := by decide +kernel
theorem d_M_trust_15 : decode b_M_trust 15 = .ok (.iconst 1, 1) := by decide +kernel
theorem d_M_trust_16 : decode b_M_trust 16 = .ok (.istore 4, 2) := by decide +kernel
theorem d_M_trust_18 : decode b_M_trust 18 = .ok (.iload 4, 2) := by decide +kernel
theorem d_M_trust_20 : decode b_M_trust 20 = .ok (.iconst 4, 1) := by decide +kernel
theorem d_M_trust_21 : decode b_M_trust 21 = .ok (.if_icmp .ge 88, 3) := by decide +kernel
theorem d_M_trust_24 : decode b_M_trust 24 = .ok (.iconst 0, 1) := by decide +kernel
theorem d_M_trust_25 : decode b_M_trust 25 = .ok (.istore 5, 2) := by decide +kernel
theorem d_M_trust_27 : decode b_M_trust 27 = .ok (.iconst 0, 1) := by decide +kernel
theorem d_M_trust_28 : decode b_M_trust 28 = .ok (.istore 6, 2) := by decide +kernel
theorem d_M_trust_30 : decode b_M_trust 30 = .ok (.iload 6, 2) := by decide +kernel
theorem d_M_trust_32 : decode b_M_trust 32 = .ok (.aload_n 0, 1) := by decide +kernel
theorem d_M_trust_33 : decode b_M_trust 33 = .ok (.getfield 7, 3) := by decide +kernel
theorem d_M_trust_36 : decode b_M_trust 36 = .ok (.iconst 1, 1) := by decide +kernel
theorem d_M_trust_37 : decode b_M_trust 37 = .ok (.iaload, 1) := by decide +kernel
theorem d_M_trust_38 : decode b_M_trust 38 = .ok (.if_icmp .ge 50, 3) := by decide +kernel
theorem d_M_trust_41 : decode b_M_trust 41 = .ok (.iload 5, 2) := by decide +kernel
theorem d_M_trust_43 : decode b_M_trust 43 = .ok (.aload_n 0, 1) := by decide +kernel
theorem d_M_trust_44 : decode b_M_trust 44 = .ok (.iload 6, 2) := by decide +kernel
theorem d_M_trust_46 : decode b_M_trust 46 = .ok (.invokevirtual 156, 3) := by decide +kernel
theorem d_M_trust_49 : decode b_M_trust 49 = .ok (.ifCond .eq 29, 3) := by decide +kernel
theorem d_M_trust_52 : decode b_M_trust 52 = .ok (.iload_n 3, 1) := by decide +kernel
theorem d_M_trust_53 : decode b_M_trust 53 = .ok (.aload_n 0, 1) := by decide +kernel
theorem d_M_trust_54 : decode b_M_trust 54 = .ok (.iload 6, 2) := by decide +kernel
theorem d_M_trust_56 : decode b_M_trust 56 = .ok (.iconst 0, 1) := by decide +kernel
theorem d_M_trust_57 : decode b_M_trust 57 = .ok (.invokevirtual 146, 3) := by decide +kernel
theorem d_M_trust_60 : decode b_M_trust 60 = .ok (.invokestatic 152, 3) := by decide +kernel
theorem d_M_trust_63 : decode b_M_trust 63 = .ok (.ifCond .eq 15, 3) := by decide +kernel
theorem d_M_trust_66 : decode b_M_trust 66 = .ok (.iconst 1, 1) := by decide +kernel
theorem d_M_trust_67 : decode b_M_trust 67 = .ok (.aload_n 0, 1) := by decide +kernel
theorem d_M_trust_68 : decode b_M_trust 68 = .ok (.iload 6, 2) := by decide +kernel
theorem d_M_trust_70 : decode b_M_trust 70 = .ok (.iconst 1, 1) := by decide +kernel
theorem d_M_trust_71 : decode b_M_trust 71 = .ok (.invokevirtual 146, 3) := by decide +kernel
theorem d_M_trust_74 : decode b_M_trust 74 = .ok (.ishl, 1) := by decide +kernel
theorem d_M_trust_75 : decode b_M_trust 75 = .ok (.goto 4, 3) := by decide +kernel
theorem d_M_trust_78 : decode b_M_trust 78 = .ok (.iconst 0, 1) := by decide +kernel
theorem d_M_trust_79 : decode b_M_trust 79 = .ok (.ior, 1) := by decide +kernel
theorem d_M_trust_80 : decode b_M_trust 80 = .ok (.istore 5, 2) := by decide +kernel
theorem d_M_trust_82 : decode b_M_trust 82 = .ok (.iinc 6 1, 3) := by decide +kernel
theorem d_M_trust_85 : decode b_M_trust 85 = .ok (.goto (-55), 3) := by decide +kernel
theorem d_M_trust_88 : decode b_M_trust 88 = .ok (.iload 5, 2) := by decide +kernel
theorem d_M_trust_90 : decode b_M_trust 90 = .ok (.iload_n 2, 1) := by decide +kernel
theorem d_M_trust_91 : decode b_M_trust 91 = .ok (.invokestatic 152, 3) := by decide +kernel
theorem d_M_trust_94 : decode b_M_trust 94 = .ok (.ifCond .eq 6, 3) := by decide +kernel
theorem d_M_trust_97 : decode b_M_trust 97 = .ok (.iload 4, 2) := by decide +kernel
theorem d_M_trust_99 : decode b_M_trust 99 = .ok (.ireturn, 1) := by decide +kernel
theorem d_M_trust_100 : decode b_M_trust 100 = .ok (.iload 5, 2) := by decide +kernel
theorem d_M_trust_102 : decode b_M_trust 102 = .ok (.istore_n 3, 1) := by decide +kernel
theorem d_M_trust_103 : decode b_M_trust 103 = .ok (.iinc 4 1, 3) := by decide +kernel
theorem d_M_trust_106 : decode b_M_trust 106 = .ok (.goto (-88), 3) := by decide +kernel
theorem d_M_trust_109 : decode b_M_trust 109 = .ok (.bipush (-9), 2) := by decide +kernel
theorem d_M_trust_111 : decode b_M_trust 111 = .ok (.ireturn, 1) := by decide +kernel
theorem d_M_undo_0 : decode b_M_undo 0 = .ok (.iload_n 1, 1) := by decide +kernel
theorem d_M_undo_1 : decode b_M_undo 1 = .ok (.i2l, 1) := by decide +kernel
theorem d_M_undo_2 : decode b_M_undo 2 = .ok (.lconst 0, 1) := by decide +kernel
theorem d_M_undo_3 : decode b_M_undo 3 = .ok (.aload_n 0, 1) := by decide +kernel
theorem d_M_undo_4 : decode b_M_undo 4 = .ok (.getfield 7, 3) := by decide +kernel
theorem d_M_undo_7 : decode b_M_undo 7 = .ok (.iconst 0, 1) := by decide +kernel
theorem d_M_undo_8 : decode b_M_undo 8 = .ok (.iaload, 1) := by decide +kernel
theorem d_M_undo_9 : decode b_M_undo 9 = .ok (.i2l, 1) := by decide +kernel
theorem d_M_undo_10 : decode b_M_undo 10 = .ok (.invokestatic 65, 3) := by decide +kernel
theorem d_M_undo_13 : decode b_M_undo 13 = .ok (.ifCond .ne 5, 3) := by decide +kernel
theorem d_M_undo_16 : decode b_M_undo 16 = .ok (.iconst (-1), 1) := by decide +kernel
theorem d_M_undo_17 : decode b_M_undo 17 = .ok (.ireturn, 1) := by decide +kernel
theorem d_M_undo_18 : decode b_M_undo 18 = .ok (.aload_n 0, 1) := by decide +kernel
theorem d_M_undo_19 : decode b_M_undo 19 = .ok (.getfield 7, 3) := by decide +kernel
theorem d_M_undo_22 : decode b_M_undo 22 = .ok (.iconst 0, 1) := by decide +kernel
theorem d_M_undo_23 : decode b_M_undo 23 = .ok (.iaload, 1) := by decide +kernel
theorem d_M_undo_24 : decode b_M_undo 24 = .ok (.iload_n 1, 1) := by decide +kernel
theorem d_M_undo_25 : decode b_M_undo 25 = .ok (.isub, 1) := by decide +kernel
theorem d_M_undo_26 : decode b_M_undo 26 = .ok (.istore_n 2, 1) := by decide +kernel
theorem d_M_undo_27 : decode b_M_undo 27 = .ok (.iconst 0, 1) := by decide +kernel
theorem d_M_undo_28 : decode b_M_undo 28 = .ok (.istore_n 3, 1) := by decide +kernel
theorem d_M_undo_29 : decode b_M_undo 29 = .ok (.iload_n 3, 1) := by decide +kernel
theorem d_M_undo_30 : decode b_M_undo 30 = .ok (.bipush 73, 2) := by decide +kernel
theorem d_M_undo_32 : decode b_M_undo 32 = .ok (.if_icmp .ge 35, 3) := by decide +kernel
theorem d_M_undo_35 : decode b_M_undo 35 = .ok (.iload_n 2, 1) := by decide +kernel
theorem d_M_undo_36 : decode b_M_undo 36 = .ok (.ifCond .le 31, 3) := by decide +kernel
theorem d_M_undo_39 : decode b_M_undo 39 = .ok (.aload_n 0, 1) := by decide +kernel
theorem d_M_undo_40 : decode b_M_undo 40 = .ok (.getfield 7, 3) := by decide +kernel
theorem d_M_undo_43 : decode b_M_undo 43 = .ok (.iconst 1, 1) := by decide +kernel
theorem d_M_undo_44 : decode b_M_undo 44 = .ok (.iload_n 3, 1) := by decide +kernel
theorem d_M_undo_45 : decode b_M_undo 45 = .ok (.iadd, 1) := by decide +kernel
theorem d_M_undo_46 : decode b_M_undo 46 = .ok (.aload_n 0, 1) := by decide +kernel
theorem d_M_undo_47 : decode b_M_undo 47 = .ok (.getfield 7, 3) := by decide +kernel
theorem d_M_undo_50 : decode b_M_undo 50 = .ok (.bipush 74, 2) := by decide +kernel
theorem d_M_undo_52 : decode b_M_undo 52 = .ok (.bipush 73, 2) := by decide +kernel
theorem d_M_undo_54 : decode b_M_undo 54 = .ok (.iload_n 1, 1) := by decide +kernel
theorem d_M_undo_55 : decode b_M_undo 55 = .ok (.imul, 1) := by decide +kernel
theorem d_M_undo_56 : decode b_M_undo 56 = .ok (.iadd, 1) := by decide +kernel
theorem d_M_undo_57 : decode b_M_undo 57 = .ok (.iload_n 3, 1) := by decide +kernel
theorem d_M_undo_58 : decode b_M_undo 58 = .ok (.iadd, 1) := by decide +kernel
theorem d_M_undo_59 : decode b_M_undo 59 = .ok (.iaload, 1) := by decide +kernel
theorem d_M_undo_60 : decode b_M_undo 60 = .ok (.iastore, 1) := by decide +kernel
theorem d_M_undo_61 : decode b_M_undo 61 = .ok (.iinc 3 1, 3) := by decide +kernel
theorem d_M_undo_64 : decode b_M_undo 64 = .ok (.goto (-35), 3) := by decide +kernel
theorem d_M_undo_67 : decode b_M_undo 67 = .ok (.aload_n 0, 1) := by decide +kernel
theorem d_M_undo_68 : decode b_M_undo 68 = .ok (.getfield 7, 3) := by decide +kernel
theorem d_M_undo_71 : decode b_M_undo 71 = .ok (.iconst 0, 1) := by decide +kernel
theorem d_M_undo_72 : decode b_M_undo 72 = .ok (.iload_n 1, 1) := by decide +kernel
theorem d_M_undo_73 : decode b_M_undo 73 = .ok (.iastore, 1) := by decide +kernel
theorem d_M_undo_74 : decode b_M_undo 74 = .ok (.iload_n 2, 1) := by decide +kernel
theorem d_M_undo_75 : decode b_M_undo 75 = .ok (.ireturn, 1) := by decide +kernel
theorem d_M_upper_0 : decode b_M_upper 0 = .ok (.aload_n 0, 1) := by decide +kernel
theorem d_M_upper_1 : decode b_M_upper 1 = .ok (.getfield 326, 3) := by decide +kernel
theorem d_M_upper_4 : decode b_M_upper 4 = .ok (.lreturn, 1) := by decide +kernel
theorem d_M_village_0 : decode b_M_village 0 = .ok (.iload_n 1, 1) := by decide +kernel
theorem d_M_village_1 : decode b_M_village 1 = .ok (.invokestatic 94, 3) := by decide +kernel
theorem d_M_village_4 : decode b_M_village 4 = .ok (.ifCond .ne 5, 3) := by decide +kernel
theorem d_M_village_7 : decode b_M_village 7 = .ok (.iconst (-1), 1) := by decide +kernel
theorem d_M_village_8 : decode b_M_village 8 = .ok (.ireturn, 1) := by decide +kernel
theorem d_M_village_9 : decode b_M_village 9 = .ok (.aload_n 0, 1) := by decide +kernel
theorem d_M_village_10 : decode b_M_village 10 = .ok (.getfield 22, 3) := by decide +kernel
theorem d_M_village_13 : decode b_M_village 13 = .ok (.iload_n 1, 1) := by decide +kernel
theorem d_M_village_14 : decode b_M_village 14 = .ok (.iaload, 1) := by decide +kernel
theorem d_M_village_15 : decode b_M_village 15 = .ok (.ifCond .ge 9, 3) := by decide +kernel
theorem d_M_village_18 : decode b_M_village 18 = .ok (.aload_n 0, 1) := by decide +kernel
theorem d_M_village_19 : decode b_M_village 19 = .ok (.iconst 1, 1) := by decide +kernel
theorem d_M_village_20 : decode b_M_village 20 = .ok (.invokevirtual 75, 3) := by decide +kernel
theorem d_M_village_23 : decode b_M_village 23 = .ok (.ireturn, 1) := by decide +kernel
theorem d_M_village_24 : decode b_M_village 24 = .ok (.aload_n 0, 1) := by decide +kernel
theorem d_M_village_25 : decode b_M_village 25 = .ok (.iload_n 1, 1) := by decide +kernel
theorem d_M_village_26 : decode b_M_village 26 = .ok (.invokevirtual 133, 3) := by decide +kernel
theorem d_M_village_29 : decode b_M_village 29 = .ok (.bipush (-9), 2) := by decide +kernel
theorem d_M_village_31 : decode b_M_village 31 = .ok (.if_icmp .eq 6, 3) := by decide +kernel
theorem d_M_village_34 : decode b_M_village 34 = .ok (.bipush (-4), 2) := by decide +kernel
theorem d_M_village_36 : decode b_M_village 36 = .ok (.ireturn, 1) := by decide +kernel
theorem d_M_village_37 : decode b_M_village 37 = .ok (.aload_n 0, 1) := by decide +kernel
theorem d_M_village_38 : decode b_M_village 38 = .ok (.aload_n 0, 1) := by decide +kernel
theorem d_M_village_39 : decode b_M_village 39 = .ok (.getfield 113, 3) := by decide +kernel
theorem d_M_village_42 : decode b_M_village 42 = .ok (.putfield 136, 3) := by decide +kernel
theorem d_M_village_45 : decode b_M_village 45 = .ok (.iconst 0, 1) := by decide +kernel
theorem d_M_village_46 : decode b_M_village 46 = .ok (.istore_n 2, 1) := by decide +kernel
theorem d_M_village_47 : decode b_M_village 47 = .ok (.iload_n 2, 1) := by decide +kernel
theorem d_M_village_48 : decode b_M_village 48 = .ok (.aload_n 0, 1) := by decide +kernel
theorem d_M_village_49 : decode b_M_village 49 = .ok (.getfield 136, 3) := by decide +kernel
theorem d_M_village_52 : decode b_M_village 52 = .ok (.if_icmp .ge 21, 3) := by decide +kernel
theorem d_M_village_55 : decode b_M_village 55 = .ok (.aload_n 0, 1) := by decide +kernel
theorem d_M_village_56 : decode b_M_village 56 = .ok (.getfield 13, 3) := by decide +kernel
theorem d_M_village_59 : decode b_M_village 59 = .ok (.iload_n 2, 1) := by decide +kernel
theorem d_M_village_60 : decode b_M_village 60 = .ok (.aload_n 0, 1) := by decide +kernel
theorem d_M_village_61 : decode b_M_village 61 = .ok (.getfield 35, 3) := by decide +kernel
theorem d_M_village_64 : decode b_M_village 64 = .ok (.iload_n 2, 1) := by decide +kernel
theorem d_M_village_65 : decode b_M_village 65 = .ok (.iaload, 1) := by decide +kernel
theorem d_M_village_66 : decode b_M_village 66 = .ok (.iastore, 1) := by decide +kernel
theorem d_M_village_67 : decode b_M_village 67 = .ok (.iinc 2 1, 3) := by decide +kernel
theorem d_M_village_70 : decode b_M_village 70 = .ok (.goto (-23), 3) := by decide +kernel
theorem d_M_village_73 : decode b_M_village 73 = .ok (.iconst 0, 1) := by decide +kernel
theorem d_M_village_74 : decode b_M_village 74 = .ok (.istore_n 2, 1) := by decide +kernel
theorem d_M_village_75 : decode b_M_village 75 = .ok (.iload_n 2, 1) := by decide +kernel
theorem d_M_village_76 : decode b_M_village 76 = .ok (.sipush 2994, 3) := by decide +kernel
theorem d_M_village_79 : decode b_M_village 79 = .ok (.if_icmp .ge 16, 3) := by decide +kernel
theorem d_M_village_82 : decode b_M_village 82 = .ok (.aload_n 0, 1) := by decide +kernel
theorem d_M_village_83 : decode b_M_village 83 = .ok (.getfield 7, 3) := by decide +kernel
theorem d_M_village_86 : decode b_M_village 86 = .ok (.iload_n 2, 1) := by decide +kernel
theorem d_M_village_87 : decode b_M_village 87 = .ok (.iconst 0, 1) := by decide +kernel
theorem d_M_village_88 : decode b_M_village 88 = .ok (.iastore, 1) := by decide +kernel
theorem d_M_village_89 : decode b_M_village 89 = .ok (.iinc 2 1, 3) := by decide +kernel
theorem d_M_village_92 : decode b_M_village 92 = .ok (.goto (-17), 3) := by decide +kernel
theorem d_M_village_95 : decode b_M_village 95 = .ok (.iconst 0, 1) := by decide +kernel
theorem d_M_village_96 : decode b_M_village 96 = .ok (.istore_n 2, 1) := by decide +kernel
theorem d_M_village_97 : decode b_M_village 97 = .ok (.iload_n 2, 1) := by decide +kernel
theorem d_M_village_98 : decode b_M_village 98 = .ok (.aload_n 0, 1) := by decide +kernel
theorem d_M_village_99 : decode b_M_village 99 = .ok (.getfield 116, 3) := by decide +kernel
theorem d_M_village_102 : decode b_M_village 102 = .ok (.if_icmp .ge 51, 3) := by decide +kernel
theorem d_M_village_105 : decode b_M_village 105 = .ok (.aload_n 0, 1) := by decide +kernel
theorem d_M_village_106 : decode b_M_village 106 = .ok (.aload_n 0, 1) := by decide +kernel
theorem d_M_village_107 : decode b_M_village 107 = .ok (.getfield 38, 3) := by decide +kernel
theorem d_M_village_110 : decode b_M_village 110 = .ok (.iconst 4, 1) := by decide +kernel
theorem d_M_village_111 : decode b_M_village 111 = .ok (.iload_n 2, 1) := by decide +kernel
theorem d_M_village_112 : decode b_M_village 112 = .ok (.imul, 1) := by decide +kernel
theorem d_M_village_113 : decode b_M_village 113 = .ok (.iaload, 1) := by decide +kernel
theorem d_M_village_114 : decode b_M_village 114 = .ok (.aload_n 0, 1) := by decide +kernel
theorem d_M_village_115 : decode b_M_village 115 = .ok (.getfield 38, 3) := by decide +kernel
theorem d_M_village_118 : decode b_M_village 118 = .ok (.iconst 4, 1) := by decide +kernel
theorem d_M_village_119 : decode b_M_village 119 = .ok (.iload_n 2, 1) := by decide +kernel
theorem d_M_village_120 : decode b_M_village 120 = .ok (.imul, 1) := by decide +kernel
theorem d_M_village_121 : decode b_M_village 121 = .ok (.iconst 1, 1) := by decide +kernel
theorem d_M_village_122 : decode b_M_village 122 = .ok (.iadd, 1) := by decide +kernel
theorem d_M_village_123 : decode b_M_village 123 = .ok (.iaload, 1) := by decide +kernel
theorem d_M_village_124 : decode b_M_village 124 = .ok (.aload_n 0, 1) := by decide +kernel
theorem d_M_village_125 : decode b_M_village 125 = .ok (.getfield 38, 3) := by decide +kernel
theorem d_M_village_128 : decode b_M_village 128 = .ok (.iconst 4, 1) := by decide +kernel
theorem d_M_village_129 : decode b_M_village 129 = .ok (.iload_n 2, 1) := by decide +kernel
theorem d_M_village_130 : decode b_M_village 130 = .ok (.imul, 1) := by decide +kernel
theorem d_M_village_131 : decode b_M_village 131 = .ok (.iconst 2, 1) := by decide +kernel
theorem d_M_village_132 : decode b_M_village 132 = .ok (.iadd, 1) := by decide +kernel
theorem d_M_village_133 : decode b_M_village 133 = .ok (.iaload, 1) := by decide +kernel
theorem d_M_village_134 : decode b_M_village 134 = .ok (.aload_n 0, 1) := by decide +kernel
theorem d_M_village_135 : decode b_M_village 135 = .ok (.getfield 38, 3) := by decide +kernel
theorem d_M_village_138 : decode b_M_village 138 = .ok (.iconst 4, 1) := by decide +kernel
theorem d_M_village_139 : decode b_M_village 139 = .ok (.iload_n 2, 1) := by decide +kernel
theorem d_M_village_140 : decode b_M_village 140 = .ok (.imul, 1) := by decide +kernel
theorem d_M_village_141 : decode b_M_village 141 = .ok (.iconst 3, 1) := by decide +kernel
theorem d_M_village_142 : decode b_M_village 142 = .ok (.iadd, 1) := by decide +kernel
theorem d_M_village_143 : decode b_M_village 143 = .ok (.iaload, 1) := by decide +kernel
theorem d_M_village_144 : decode b_M_village 144 = .ok (.invokevirtual 139, 3) := by decide +kernel
theorem d_M_village_147 : decode b_M_village 147 = .ok (.iinc 2 1, 3) := by decide +kernel
theorem d_M_village_150 : decode b_M_village 150 = .ok (.goto (-53), 3) := by decide +kernel
theorem d_M_village_153 : decode b_M_village 153 = .ok (.iconst 1, 1) := by decide +kernel
theorem d_M_village_154 : decode b_M_village 154 = .ok (.istore_n 2, 1) := by decide +kernel
theorem d_M_village_155 : decode b_M_village 155 = .ok (.iload_n 2, 1) := by decide +kernel
theorem d_M_village_156 : decode b_M_village 156 = .ok (.iconst 4, 1) := by decide +kernel
theorem d_M_village_157 : decode b_M_village 157 = .ok (.if_icmp .ge 22, 3) := by decide +kernel
theorem d_M_village_160 : decode b_M_village 160 = .ok (.aload_n 0, 1) := by decide +kernel
theorem d_M_village_161 : decode b_M_village 161 = .ok (.getfield 7, 3) := by decide +kernel
theorem d_M_village_164 : decode b_M_village 164 = .ok (.sipush 2994, 3) := by decide +kernel
theorem d_M_village_167 : decode b_M_village 167 = .ok (.iload_n 2, 1) := by decide +kernel
theorem d_M_village_168 : decode b_M_village 168 = .ok (.imul, 1) := by decide +kernel
theorem d_M_village_169 : decode b_M_village 169 = .ok (.iconst 0, 1) := by decide +kernel
theorem d_M_village_170 : decode b_M_village 170 = .ok (.iadd, 1) := by decide +kernel
theorem d_M_village_171 : decode b_M_village 171 = .ok (.iconst (-1), 1) := by decide +kernel
theorem d_M_village_172 : decode b_M_village 172 = .ok (.iastore, 1) := by decide +kernel
theorem d_M_village_173 : decode b_M_village 173 = .ok (.iinc 2 1, 3) := by decide +kernel
theorem d_M_village_176 : decode b_M_village 176 = .ok (.goto (-21), 3) := by decide +kernel
theorem d_M_village_179 : decode b_M_village 179 = .ok (.aload_n 0, 1) := by decide +kernel
theorem d_M_village_180 : decode b_M_village 180 = .ok (.getfield 136, 3) := by decide +kernel
theorem d_M_village_183 : decode b_M_village 183 = .ok (.ireturn, 1) := by decide +kernel
theorem d_M_week_0 : decode b_M_week 0 = .ok (.aload_n 0, 1) := by decide +kernel
theorem d_M_week_1 : decode b_M_week 1 = .ok (.getfield 136, 3) := by decide +kernel
theorem d_M_week_4 : decode b_M_week 4 = .ok (.ifCond .ne 6, 3) := by decide +kernel
theorem d_M_week_7 : decode b_M_week 7 = .ok (.bipush (-4), 2) := by decide +kernel
theorem d_M_week_9 : decode b_M_week 9 = .ok (.ireturn, 1) := by decide +kernel
theorem d_M_week_10 : decode b_M_week 10 = .ok (.aload_n 0, 1) := by decide +kernel
theorem d_M_week_11 : decode b_M_week 11 = .ok (.invokevirtual 207, 3) := by decide +kernel
theorem d_M_week_14 : decode b_M_week 14 = .ok (.ifCond .eq 6, 3) := by decide +kernel
theorem d_M_week_17 : decode b_M_week 17 = .ok (.bipush (-2), 2) := by decide +kernel
theorem d_M_week_19 : decode b_M_week 19 = .ok (.ireturn, 1) := by decide +kernel
theorem d_M_week_20 : decode b_M_week 20 = .ok (.aload_n 0, 1) := by decide +kernel
theorem d_M_week_21 : decode b_M_week 21 = .ok (.invokevirtual 210, 3) := by decide +kernel
theorem d_M_week_24 : decode b_M_week 24 = .ok (.iconst 0, 1) := by decide +kernel
theorem d_M_week_25 : decode b_M_week 25 = .ok (.istore_n 1, 1) := by decide +kernel
theorem d_M_week_26 : decode b_M_week 26 = .ok (.iconst 0, 1) := by decide +kernel
theorem d_M_week_27 : decode b_M_week 27 = .ok (.istore_n 2, 1) := by decide +kernel
theorem d_M_week_28 : decode b_M_week 28 = .ok (.iload_n 2, 1) := by decide +kernel
theorem d_M_week_29 : decode b_M_week 29 = .ok (.aload_n 0, 1) := by decide +kernel
theorem d_M_week_30 : decode b_M_week 30 = .ok (.getfield 7, 3) := by decide +kernel
theorem d_M_week_33 : decode b_M_week 33 = .ok (.iconst 1, 1) := by decide +kernel
theorem d_M_week_34 : decode b_M_week 34 = .ok (.iaload, 1) := by decide +kernel
theorem d_M_week_35 : decode b_M_week 35 = .ok (.if_icmp .ge 120, 3) := by decide +kernel
theorem d_M_week_38 : decode b_M_week 38 = .ok (.aload_n 0, 1) := by decide +kernel
theorem d_M_week_39 : decode b_M_week 39 = .ok (.iload_n 2, 1) := by decide +kernel
theorem d_M_week_40 : decode b_M_week 40 = .ok (.invokevirtual 156, 3) := by decide +kernel
theorem d_M_week_43 : decode b_M_week 43 = .ok (.ifCond .eq 106, 3) := by decide +kernel
theorem d_M_week_46 : decode b_M_week 46 = .ok (.aload_n 0, 1) := by decide +kernel
theorem d_M_week_47 : decode b_M_week 47 = .ok (.getfield 7, 3) := by decide +kernel
theorem d_M_week_50 : decode b_M_week 50 = .ok (.iconst 2, 1) := by decide +kernel
theorem d_M_week_51 : decode b_M_week 51 = .ok (.bipush 6, 2) := by decide +kernel
theorem d_M_week_53 : decode b_M_week 53 = .ok (.iload_n 2, 1) := by decide +kernel
theorem d_M_week_54 : decode b_M_week 54 = .ok (.imul, 1) := by decide +kernel
theorem d_M_week_55 : decode b_M_week 55 = .ok (.iadd, 1) := by decide +kernel
theorem d_M_week_56 : decode b_M_week 56 = .ok (.iconst 4, 1) := by decide +kernel
theorem d_M_week_57 : decode b_M_week 57 = .ok (.iadd, 1) := by decide +kernel
theorem d_M_week_58 : decode b_M_week 58 = .ok (.dup2, 1) := by decide +kernel
theorem d_M_week_59 : decode b_M_week 59 = .ok (.iaload, 1) := by decide +kernel
theorem d_M_week_60 : decode b_M_week 60 = .ok (.iconst 1, 1) := by decide +kernel
theorem d_M_week_61 : decode b_M_week 61 = .ok (.iadd, 1) := by decide +kernel
theorem d_M_week_62 : decode b_M_week 62 = .ok (.iastore, 1) := by decide +kernel
theorem d_M_week_63 : decode b_M_week 63 = .ok (.aload_n 0, 1) := by decide +kernel
theorem d_M_week_64 : decode b_M_week 64 = .ok (.iload_n 2, 1) := by decide +kernel
theorem d_M_week_65 : decode b_M_week 65 = .ok (.iconst 3, 1) := by decide +kernel
theorem d_M_week_66 : decode b_M_week 66 = .ok (.invokevirtual 146, 3) := by decide +kernel
theorem d_M_week_69 : decode b_M_week 69 = .ok (.aload_n 0, 1) := by decide +kernel
theorem d_M_week_70 : decode b_M_week 70 = .ok (.aload_n 0, 1) := by decide +kernel
theorem d_M_week_71 : decode b_M_week 71 = .ok (.iload_n 2, 1) := by decide +kernel
theorem d_M_week_72 : decode b_M_week 72 = .ok (.iconst 1, 1) := by decide +kernel
theorem d_M_week_73 : decode b_M_week 73 = .ok (.invokevirtual 146, 3) := by decide +kernel
theorem d_M_week_76 : decode b_M_week 76 = .ok (.invokevirtual 188, 3) := by decide +kernel
theorem d_M_week_79 : decode b_M_week 79 = .ok (.iadd, 1) := by decide +kernel
theorem d_M_week_80 : decode b_M_week 80 = .ok (.istore_n 3, 1) := by decide +kernel
theorem d_M_week_81 : decode b_M_week 81 = .ok (.iload_n 3, 1) := by decide +kernel
theorem d_M_week_82 : decode b_M_week 82 = .ok (.bipush 99, 2) := by decide +kernel
theorem d_M_week_84 : decode b_M_week 84 = .ok (.if_icmp .le 8, 3) := by decide +kernel
theorem d_M_week_87 : decode b_M_week 87 = .ok (.bipush 99, 2) := by decide +kernel
theorem d_M_week_89 : decode b_M_week 89 = .ok (.goto 4, 3) := by decide +kernel
theorem d_M_week_92 : decode b_M_week 92 = .ok (.iload_n 3, 1) := by decide +kernel
theorem d_M_week_93 : decode b_M_week 93 = .ok (.istore_n 3, 1) := by decide +kernel
theorem d_M_week_94 : decode b_M_week 94 = .ok (.aload_n 0, 1) := by decide +kernel
theorem d_M_week_95 : decode b_M_week 95 = .ok (.iload_n 2, 1) := by decide +kernel
theorem d_M_week_96 : decode b_M_week 96 = .ok (.iconst 4, 1) := by decide +kernel
theorem d_M_week_97 : decode b_M_week 97 = .ok (.invokevirtual 146, 3) := by decide +kernel
theorem d_M_week_100 : decode b_M_week 100 = .ok (.iconst 3, 1) := by decide +kernel
theorem d_M_week_101 : decode b_M_week 101 = .ok (.if_icmp .le 17, 3) := by decide +kernel
theorem d_M_week_104 : decode b_M_week 104 = .ok (.aload_n 0, 1) := by decide +kernel
theorem d_M_week_105 : decode b_M_week 105 = .ok (.iload_n 2, 1) := by decide +kernel
theorem d_M_week_106 : decode b_M_week 106 = .ok (.iconst 2, 1) := by decide +kernel
theorem d_M_week_107 : decode b_M_week 107 = .ok (.invokevirtual 146, 3) := by decide +kernel
theorem d_M_week_110 : decode b_M_week 110 = .ok (.iconst 2, 1) := by decide +kernel
theorem d_M_week_111 : decode b_M_week 111 = .ok (.if_icmp .eq 7, 3) := by decide +kernel
theorem d_M_week_114 : decode b_M_week 114 = .ok (.iconst 1, 1) := by decide +kernel
theorem d_M_week_115 : decode b_M_week 115 = .ok (.goto 4, 3) := by decide +kernel
theorem d_M_week_118 : decode b_M_week 118 = .ok (.iconst 0, 1) := by decide +kernel
theorem d_M_week_119 : decode b_M_week 119 = .ok (.istore 4, 2) := by decide +kernel
theorem d_M_week_121 : decode b_M_week 121 = .ok (.iload_n 1, 1) := by decide +kernel
theorem d_M_week_122 : decode b_M_week 122 = .ok (.iload 4, 2) := by decide +kernel
theorem d_M_week_124 : decode b_M_week 124 = .ok (.ifCond .eq 7, 3) := by decide +kernel
theorem d_M_week_127 : decode b_M_week 127 = .ok (.iload_n 3, 1) := by decide +kernel
theorem d_M_week_128 : decode b_M_week 128 = .ok (.goto 4, 3) := by decide +kernel
theorem d_M_week_131 : decode b_M_week 131 = .ok (.iconst 0, 1) := by decide +kernel
theorem d_M_week_132 : decode b_M_week 132 = .ok (.iadd, 1) := by decide +kernel
theorem d_M_week_133 : decode b_M_week 133 = .ok (.istore_n 1, 1) := by decide +kernel
theorem d_M_week_134 : decode b_M_week 134 = .ok (.aload_n 0, 1) := by decide +kernel
theorem d_M_week_135 : decode b_M_week 135 = .ok (.iload_n 2, 1) := by decide +kernel
theorem d_M_week_136 : decode b_M_week 136 = .ok (.iload 4, 2) := by decide +kernel
theorem d_M_week_138 : decode b_M_week 138 = .ok (.ifCond .eq 7, 3) := by decide +kernel
theorem d_M_week_141 : decode b_M_week 141 = .ok (.iconst 0, 1) := by decide +kernel
theorem d_M_week_142 : decode b_M_week 142 = .ok (.goto 4, 3) := by decide +kernel
theorem d_M_week_145 : decode b_M_week 145 = .ok (.iload_n 3, 1) := by decide +kernel
theorem d_M_week_146 : decode b_M_week 146 = .ok (.invokevirtual 219, 3) := by decide +kernel
theorem d_M_week_149 : decode b_M_week 149 = .ok (.iinc 2 1, 3) := by decide +kernel
theorem d_M_week_152 : decode b_M_week 152 = .ok (.goto (-124), 3) := by decide +kernel
theorem d_M_week_155 : decode b_M_week 155 = .ok (.iload_n 1, 1) := by decide +kernel
theorem d_M_week_156 : decode b_M_week 156 = .ok (.ireturn, 1) := by decide +kernel
theorem d_M_worst_0 : decode b_M_worst 0 = .ok (.aload_n 0, 1) := by decide +kernel
theorem d_M_worst_1 : decode b_M_worst 1 = .ok (.getfield 136, 3) := by decide +kernel
theorem d_M_worst_4 : decode b_M_worst 4 = .ok (.ifCond .ne 6, 3) := by decide +kernel
theorem d_M_worst_7 : decode b_M_worst 7 = .ok (.bipush (-4), 2) := by decide +kernel
theorem d_M_worst_9 : decode b_M_worst 9 = .ok (.ireturn, 1) := by decide +kernel
theorem d_M_worst_10 : decode b_M_worst 10 = .ok (.iconst 0, 1) := by decide +kernel
theorem d_M_worst_11 : decode b_M_worst 11 = .ok (.istore_n 1, 1) := by decide +kernel
theorem d_M_worst_12 : decode b_M_worst 12 = .ok (.iconst (-1), 1) := by decide +kernel
theorem d_M_worst_13 : decode b_M_worst 13 = .ok (.istore_n 2, 1) := by decide +kernel
theorem d_M_worst_14 : decode b_M_worst 14 = .ok (.iconst 0, 1) := by decide +kernel
theorem d_M_worst_15 : decode b_M_worst 15 = .ok (.istore_n 3, 1) := by decide +kernel
theorem d_M_worst_16 : decode b_M_worst 16 = .ok (.iload_n 3, 1) := by decide +kernel
theorem d_M_worst_17 : decode b_M_worst 17 = .ok (.aload_n 0, 1) := by decide +kernel
theorem d_M_worst_18 : decode b_M_worst 18 = .ok (.getfield 136, 3) := by decide +kernel
theorem d_M_worst_21 : decode b_M_worst 21 = .ok (.if_icmp .ge 47, 3) := by decide +kernel
theorem d_M_worst_24 : decode b_M_worst 24 = .ok (.aload_n 0, 1) := by decide +kernel
theorem d_M_worst_25 : decode b_M_worst 25 = .ok (.iload_n 3, 1) := by decide +kernel
theorem d_M_worst_26 : decode b_M_worst 26 = .ok (.bipush (-9), 2) := by decide +kernel
theorem d_M_worst_28 : decode b_M_worst 28 = .ok (.iconst 0, 1) := by decide +kernel
theorem d_M_worst_29 : decode b_M_worst 29 = .ok (.invokevirtual 274, 3) := by decide +kernel
theorem d_M_worst_32 : decode b_M_worst 32 = .ok (.invokestatic 159, 3) := by decide +kernel
theorem d_M_worst_35 : decode b_M_worst 35 = .ok (.istore 4, 2) := by decide +kernel
theorem d_M_worst_37 : decode b_M_worst 37 = .ok (.iload 4, 2) := by decide +kernel
theorem d_M_worst_39 : decode b_M_worst 39 = .ok (.iload_n 2, 1) := by decide +kernel
theorem d_M_worst_40 : decode b_M_worst 40 = .ok (.if_icmp .le 7, 3) := by decide +kernel
theorem d_M_worst_43 : decode b_M_worst 43 = .ok (.iload_n 3, 1) := by decide +kernel
theorem d_M_worst_44 : decode b_M_worst 44 = .ok (.goto 4, 3) := by decide +kernel
theorem d_M_worst_47 : decode b_M_worst 47 = .ok (.iload_n 1, 1) := by decide +kernel
theorem d_M_worst_48 : decode b_M_worst 48 = .ok (.istore_n 1, 1) := by decide +kernel
theorem d_M_worst_49 : decode b_M_worst 49 = .ok (.iload 4, 2) := by decide +kernel
theorem d_M_worst_51 : decode b_M_worst 51 = .ok (.iload_n 2, 1) := by decide +kernel
theorem d_M_worst_52 : decode b_M_worst 52 = .ok (.if_icmp .le 8, 3) := by decide +kernel
theorem d_M_worst_55 : decode b_M_worst 55 = .ok (.iload 4, 2) := by decide +kernel
theorem d_M_worst_57 : decode b_M_worst 57 = .ok (.goto 4, 3) := by decide +kernel
theorem d_M_worst_60 : decode b_M_worst 60 = .ok (.iload_n 2, 1) := by decide +kernel
theorem d_M_worst_61 : decode b_M_worst 61 = .ok (.istore_n 2, 1) := by decide +kernel
theorem d_M_worst_62 : decode b_M_worst 62 = .ok (.iinc 3 1, 3) := by decide +kernel
theorem d_M_worst_65 : decode b_M_worst 65 = .ok (.goto (-49), 3) := by decide +kernel
theorem d_M_worst_68 : decode b_M_worst 68 = .ok (.aload_n 0, 1) := by decide +kernel
theorem d_M_worst_69 : decode b_M_worst 69 = .ok (.iload_n 2, 1) := by decide +kernel
theorem d_M_worst_70 : decode b_M_worst 70 = .ok (.putfield 60, 3) := by decide +kernel
theorem d_M_worst_73 : decode b_M_worst 73 = .ok (.iload_n 1, 1) := by decide +kernel
theorem d_M_worst_74 : decode b_M_worst 74 = .ok (.ireturn, 1) := by decide +kernel
theorem d_M_worth_0 : decode b_M_worth 0 = .ok (.aload_n 0, 1) := by decide +kernel
theorem d_M_worth_1 : decode b_M_worth 1 = .ok (.iload_n 1, 1) := by decide +kernel
theorem d_M_worth_2 : decode b_M_worth 2 = .ok (.iconst 3, 1) := by decide +kernel
theorem d_M_worth_3 : decode b_M_worth 3 = .ok (.invokevirtual 146, 3) := by decide +kernel
theorem d_M_worth_6 : decode b_M_worth 6 = .ok (.aload_n 0, 1) := by decide +kernel
theorem d_M_worth_7 : decode b_M_worth 7 = .ok (.iload_n 1, 1) := by decide +kernel
theorem d_M_worth_8 : decode b_M_worth 8 = .ok (.iconst 2, 1) := by decide +kernel
theorem d_M_worth_9 : decode b_M_worth 9 = .ok (.invokevirtual 146, 3) := by decide +kernel
theorem d_M_worth_12 : decode b_M_worth 12 = .ok (.iconst 1, 1) := by decide +kernel
theorem d_M_worth_13 : decode b_M_worth 13 = .ok (.iadd, 1) := by decide +kernel
theorem d_M_worth_14 : decode b_M_worth 14 = .ok (.imul, 1) := by decide +kernel
theorem d_M_worth_15 : decode b_M_worth 15 = .ok (.ireturn, 1) := by decide +kernel
