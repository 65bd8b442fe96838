theorem d_B_init_0 : decode b_B_init 0 = .ok (.aload_n 0, 1) := by decide +kernel
theorem d_B_init_1 : decode b_B_init 1 = .ok (.invokespecial 3, 3) := by decide +kernel
theorem d_B_init_4 : decode b_B_init 4 = .ok (.aload_n 0, 1) := by decide +kernel
theorem d_B_init_5 : decode b_B_init 5 = .ok (.iconst 0, 1) := by decide +kernel
theorem d_B_init_6 : decode b_B_init 6 = .ok (.putfield 9, 3) := by decide +kernel
theorem d_B_init_9 : decode b_B_init 9 = .ok (.aload_n 0, 1) := by decide +kernel
theorem d_B_init_10 : decode b_B_init 10 = .ok (.bipush (-9), 2) := by decide +kernel
theorem d_B_init_12 : decode b_B_init 12 = .ok (.putfield 15, 3) := by decide +kernel
theorem d_B_init_15 : decode b_B_init 15 = .ok (.aload_n 0, 1) := by decide +kernel
theorem d_B_init_16 : decode b_B_init 16 = .ok (.iconst 0, 1) := by decide +kernel
theorem d_B_init_17 : decode b_B_init 17 = .ok (.putfield 18, 3) := by decide +kernel
theorem d_B_init_20 : decode b_B_init 20 = .ok (.aload_n 0, 1) := by decide +kernel
theorem d_B_init_21 : decode b_B_init 21 = .ok (.bipush 6, 2) := by decide +kernel
theorem d_B_init_23 : decode b_B_init 23 = .ok (.newarray .int, 2) := by decide +kernel
theorem d_B_init_25 : decode b_B_init 25 = .ok (.putfield 21, 3) := by decide +kernel
theorem d_B_init_28 : decode b_B_init 28 = .ok (.return_, 1) := by decide +kernel
theorem d_B_choose_0 : decode b_B_choose 0 = .ok (.iload_n 2, 1) := by decide +kernel
theorem d_B_choose_1 : decode b_B_choose 1 = .ok (.ifCond .lt 9, 3) := by decide +kernel
theorem d_B_choose_4 : decode b_B_choose 4 = .ok (.iload_n 2, 1) := by decide +kernel
theorem d_B_choose_5 : decode b_B_choose 5 = .ok (.bipush 12, 2) := by decide +kernel
theorem d_B_choose_7 : decode b_B_choose 7 = .ok (.if_icmp .lt 10, 3) := by decide +kernel
theorem d_B_choose_10 : decode b_B_choose 10 = .ok (.aload_n 0, 1) := by decide +kernel
theorem d_B_choose_11 : decode b_B_choose 11 = .ok (.aload_n 1, 1) := by decide +kernel
theorem d_B_choose_12 : decode b_B_choose 12 = .ok (.iload_n 3, 1) := by decide +kernel
theorem d_B_choose_13 : decode b_B_choose 13 = .ok (.invokevirtual 37, 3) := by decide +kernel
theorem d_B_choose_16 : decode b_B_choose 16 = .ok (.return_, 1) := by decide +kernel
theorem d_B_choose_17 : decode b_B_choose 17 = .ok (.aload_n 0, 1) := by decide +kernel
theorem d_B_choose_18 : decode b_B_choose 18 = .ok (.aload_n 1, 1) := by decide +kernel
theorem d_B_choose_19 : decode b_B_choose 19 = .ok (.iload_n 2, 1) := by decide +kernel
theorem d_B_choose_20 : decode b_B_choose 20 = .ok (.iconst 1, 1) := by decide +kernel
theorem d_B_choose_21 : decode b_B_choose 21 = .ok (.isub, 1) := by decide +kernel
theorem d_B_choose_22 : decode b_B_choose 22 = .ok (.iload_n 3, 1) := by decide +kernel
theorem d_B_choose_23 : decode b_B_choose 23 = .ok (.invokevirtual 33, 3) := by decide +kernel
theorem d_B_choose_26 : decode b_B_choose 26 = .ok (.aload_n 1, 1) := by decide +kernel
theorem d_B_choose_27 : decode b_B_choose 27 = .ok (.getfield 41, 3) := by decide +kernel
theorem d_B_choose_30 : decode b_B_choose 30 = .ok (.iload_n 2, 1) := by decide +kernel
theorem d_B_choose_31 : decode b_B_choose 31 = .ok (.aaload, 1) := by decide +kernel
theorem d_B_choose_32 : decode b_B_choose 32 = .ok (.astore 4, 2) := by decide +kernel
theorem d_B_choose_34 : decode b_B_choose 34 = .ok (.aload 4, 2) := by decide +kernel
theorem d_B_choose_36 : decode b_B_choose 36 = .ok (.getfield 45, 3) := by decide +kernel
theorem d_B_choose_39 : decode b_B_choose 39 = .ok (.istore 5, 2) := by decide +kernel
theorem d_B_choose_41 : decode b_B_choose 41 = .ok (.aload 4, 2) := by decide +kernel
theorem d_B_choose_43 : decode b_B_choose 43 = .ok (.invokevirtual 50, 3) := by decide +kernel
theorem d_B_choose_46 : decode b_B_choose 46 = .ok (.ifCond .eq 106, 3) := by decide +kernel
theorem d_B_choose_49 : decode b_B_choose 49 = .ok (.aload_n 0, 1) := by decide +kernel
theorem d_B_choose_50 : decode b_B_choose 50 = .ok (.getfield 21, 3) := by decide +kernel
theorem d_B_choose_53 : decode b_B_choose 53 = .ok (.aload 4, 2) := by decide +kernel
theorem d_B_choose_55 : decode b_B_choose 55 = .ok (.getfield 54, 3) := by decide +kernel
theorem d_B_choose_58 : decode b_B_choose 58 = .ok (.iaload, 1) := by decide +kernel
theorem d_B_choose_59 : decode b_B_choose 59 = .ok (.iload 5, 2) := by decide +kernel
theorem d_B_choose_61 : decode b_B_choose 61 = .ok (.if_icmp .lt 91, 3) := by decide +kernel
theorem d_B_choose_64 : decode b_B_choose 64 = .ok (.aload_n 0, 1) := by decide +kernel
theorem d_B_choose_65 : decode b_B_choose 65 = .ok (.getfield 21, 3) := by decide +kernel
theorem d_B_choose_68 : decode b_B_choose 68 = .ok (.aload 4, 2) := by decide +kernel
theorem d_B_choose_70 : decode b_B_choose 70 = .ok (.getfield 57, 3) := by decide +kernel
theorem d_B_choose_73 : decode b_B_choose 73 = .ok (.iaload, 1) := by decide +kernel
theorem d_B_choose_74 : decode b_B_choose 74 = .ok (.iload 5, 2) := by decide +kernel
theorem d_B_choose_76 : decode b_B_choose 76 = .ok (.if_icmp .lt 76, 3) := by decide +kernel
theorem d_B_choose_79 : decode b_B_choose 79 = .ok (.aload_n 0, 1) := by decide +kernel
theorem d_B_choose_80 : decode b_B_choose 80 = .ok (.getfield 21, 3) := by decide +kernel
theorem d_B_choose_83 : decode b_B_choose 83 = .ok (.aload 4, 2) := by decide +kernel
theorem d_B_choose_85 : decode b_B_choose 85 = .ok (.getfield 54, 3) := by decide +kernel
theorem d_B_choose_88 : decode b_B_choose 88 = .ok (.dup2, 1) := by decide +kernel
theorem d_B_choose_89 : decode b_B_choose 89 = .ok (.iaload, 1) := by decide +kernel
theorem d_B_choose_90 : decode b_B_choose 90 = .ok (.iload 5, 2) := by decide +kernel
theorem d_B_choose_92 : decode b_B_choose 92 = .ok (.isub, 1) := by decide +kernel
theorem d_B_choose_93 : decode b_B_choose 93 = .ok (.iastore, 1) := by decide +kernel
theorem d_B_choose_94 : decode b_B_choose 94 = .ok (.aload_n 0, 1) := by decide +kernel
theorem d_B_choose_95 : decode b_B_choose 95 = .ok (.getfield 21, 3) := by decide +kernel
theorem d_B_choose_98 : decode b_B_choose 98 = .ok (.aload 4, 2) := by decide +kernel
theorem d_B_choose_100 : decode b_B_choose 100 = .ok (.getfield 57, 3) := by decide +kernel
theorem d_B_choose_103 : decode b_B_choose 103 = .ok (.dup2, 1) := by decide +kernel
theorem d_B_choose_104 : decode b_B_choose 104 = .ok (.iaload, 1) := by decide +kernel
theorem d_B_choose_105 : decode b_B_choose 105 = .ok (.iload 5, 2) := by decide +kernel
theorem d_B_choose_107 : decode b_B_choose 107 = .ok (.isub, 1) := by decide +kernel
theorem d_B_choose_108 : decode b_B_choose 108 = .ok (.iastore, 1) := by decide +kernel
theorem d_B_choose_109 : decode b_B_choose 109 = .ok (.aload_n 0, 1) := by decide +kernel
theorem d_B_choose_110 : decode b_B_choose 110 = .ok (.aload_n 1, 1) := by decide +kernel
theorem d_B_choose_111 : decode b_B_choose 111 = .ok (.iload_n 2, 1) := by decide +kernel
theorem d_B_choose_112 : decode b_B_choose 112 = .ok (.iconst 1, 1) := by decide +kernel
theorem d_B_choose_113 : decode b_B_choose 113 = .ok (.isub, 1) := by decide +kernel
theorem d_B_choose_114 : decode b_B_choose 114 = .ok (.iload_n 3, 1) := by decide +kernel
theorem d_B_choose_115 : decode b_B_choose 115 = .ok (.iconst 1, 1) := by decide +kernel
theorem d_B_choose_116 : decode b_B_choose 116 = .ok (.iload_n 2, 1) := by decide +kernel
theorem d_B_choose_117 : decode b_B_choose 117 = .ok (.ishl, 1) := by decide +kernel
theorem d_B_choose_118 : decode b_B_choose 118 = .ok (.ior, 1) := by decide +kernel
theorem d_B_choose_119 : decode b_B_choose 119 = .ok (.invokevirtual 33, 3) := by decide +kernel
theorem d_B_choose_122 : decode b_B_choose 122 = .ok (.aload_n 0, 1) := by decide +kernel
theorem d_B_choose_123 : decode b_B_choose 123 = .ok (.getfield 21, 3) := by decide +kernel
theorem d_B_choose_126 : decode b_B_choose 126 = .ok (.aload 4, 2) := by decide +kernel
theorem d_B_choose_128 : decode b_B_choose 128 = .ok (.getfield 54, 3) := by decide +kernel
theorem d_B_choose_131 : decode b_B_choose 131 = .ok (.dup2, 1) := by decide +kernel
theorem d_B_choose_132 : decode b_B_choose 132 = .ok (.iaload, 1) := by decide +kernel
theorem d_B_choose_133 : decode b_B_choose 133 = .ok (.iload 5, 2) := by decide +kernel
theorem d_B_choose_135 : decode b_B_choose 135 = .ok (.iadd, 1) := by decide +kernel
theorem d_B_choose_136 : decode b_B_choose 136 = .ok (.iastore, 1) := by decide +kernel
theorem d_B_choose_137 : decode b_B_choose 137 = .ok (.aload_n 0, 1) := by decide +kernel
theorem d_B_choose_138 : decode b_B_choose 138 = .ok (.getfield 21, 3) := by decide +kernel
theorem d_B_choose_141 : decode b_B_choose 141 = .ok (.aload 4, 2) := by decide +kernel
theorem d_B_choose_143 : decode b_B_choose 143 = .ok (.getfield 57, 3) := by decide +kernel
theorem d_B_choose_146 : decode b_B_choose 146 = .ok (.dup2, 1) := by decide +kernel
theorem d_B_choose_147 : decode b_B_choose 147 = .ok (.iaload, 1) := by decide +kernel
theorem d_B_choose_148 : decode b_B_choose 148 = .ok (.iload 5, 2) := by decide +kernel
theorem d_B_choose_150 : decode b_B_choose 150 = .ok (.iadd, 1) := by decide +kernel
theorem d_B_choose_151 : decode b_B_choose 151 = .ok (.iastore, 1) := by decide +kernel
theorem d_B_choose_152 : decode b_B_choose 152 = .ok (.return_, 1) := by decide +kernel
theorem d_B_search_0 : decode b_B_search 0 = .ok (.aload_n 0, 1) := by decide +kernel
theorem d_B_search_1 : decode b_B_search 1 = .ok (.iconst 0, 1) := by decide +kernel
theorem d_B_search_2 : decode b_B_search 2 = .ok (.putfield 9, 3) := by decide +kernel
theorem d_B_search_5 : decode b_B_search 5 = .ok (.aload_n 0, 1) := by decide +kernel
theorem d_B_search_6 : decode b_B_search 6 = .ok (.bipush (-9), 2) := by decide +kernel
theorem d_B_search_8 : decode b_B_search 8 = .ok (.putfield 15, 3) := by decide +kernel
theorem d_B_search_11 : decode b_B_search 11 = .ok (.aload_n 0, 1) := by decide +kernel
theorem d_B_search_12 : decode b_B_search 12 = .ok (.iconst 0, 1) := by decide +kernel
theorem d_B_search_13 : decode b_B_search 13 = .ok (.putfield 18, 3) := by decide +kernel
theorem d_B_search_16 : decode b_B_search 16 = .ok (.iconst 0, 1) := by decide +kernel
theorem d_B_search_17 : decode b_B_search 17 = .ok (.istore_n 3, 1) := by decide +kernel
theorem d_B_search_18 : decode b_B_search 18 = .ok (.iload_n 3, 1) := by decide +kernel
theorem d_B_search_19 : decode b_B_search 19 = .ok (.aload_n 1, 1) := by decide +kernel
theorem d_B_search_20 : decode b_B_search 20 = .ok (.getfield 25, 3) := by decide +kernel
theorem d_B_search_23 : decode b_B_search 23 = .ok (.if_icmp .ge 24, 3) := by decide +kernel
theorem d_B_search_26 : decode b_B_search 26 = .ok (.iload_n 3, 1) := by decide +kernel
theorem d_B_search_27 : decode b_B_search 27 = .ok (.aload_n 2, 1) := by decide +kernel
theorem d_B_search_28 : decode b_B_search 28 = .ok (.arraylength, 1) := by decide +kernel
theorem d_B_search_29 : decode b_B_search 29 = .ok (.if_icmp .ge 18, 3) := by decide +kernel
theorem d_B_search_32 : decode b_B_search 32 = .ok (.aload_n 0, 1) := by decide +kernel
theorem d_B_search_33 : decode b_B_search 33 = .ok (.getfield 21, 3) := by decide +kernel
theorem d_B_search_36 : decode b_B_search 36 = .ok (.iload_n 3, 1) := by decide +kernel
theorem d_B_search_37 : decode b_B_search 37 = .ok (.aload_n 2, 1) := by decide +kernel
theorem d_B_search_38 : decode b_B_search 38 = .ok (.iload_n 3, 1) := by decide +kernel
theorem d_B_search_39 : decode b_B_search 39 = .ok (.iaload, 1) := by decide +kernel
theorem d_B_search_40 : decode b_B_search 40 = .ok (.iastore, 1) := by decide +kernel
theorem d_B_search_41 : decode b_B_search 41 = .ok (.iinc 3 1, 3) := by decide +kernel
theorem d_B_search_44 : decode b_B_search 44 = .ok (.goto (-26), 3) := by decide +kernel
theorem d_B_search_47 : decode b_B_search 47 = .ok (.aload_n 0, 1) := by decide +kernel
theorem d_B_search_48 : decode b_B_search 48 = .ok (.aload_n 1, 1) := by decide +kernel
theorem d_B_search_49 : decode b_B_search 49 = .ok (.aload_n 1, 1) := by decide +kernel
theorem d_B_search_50 : decode b_B_search 50 = .ok (.getfield 30, 3) := by decide +kernel
theorem d_B_search_53 : decode b_B_search 53 = .ok (.iconst 1, 1) := by decide +kernel
theorem d_B_search_54 : decode b_B_search 54 = .ok (.isub, 1) := by decide +kernel
theorem d_B_search_55 : decode b_B_search 55 = .ok (.iconst 0, 1) := by decide +kernel
theorem d_B_search_56 : decode b_B_search 56 = .ok (.invokevirtual 33, 3) := by decide +kernel
theorem d_B_search_59 : decode b_B_search 59 = .ok (.return_, 1) := by decide +kernel
theorem d_B_takeIfFitting_0 : decode b_B_takeIfFitting 0 = .ok (.iconst 0, 1) := by decide +kernel
theorem d_B_takeIfFitting_1 : decode b_B_takeIfFitting 1 = .ok (.istore_n 3, 1) := by decide +kernel
theorem d_B_takeIfFitting_2 : decode b_B_takeIfFitting 2 = .ok (.iload_n 3, 1) := by decide +kernel
theorem d_B_takeIfFitting_3 : decode b_B_takeIfFitting 3 = .ok (.aload_n 1, 1) := by decide +kernel
theorem d_B_takeIfFitting_4 : decode b_B_takeIfFitting 4 = .ok (.getfield 25, 3) := by decide +kernel
theorem d_B_takeIfFitting_7 : decode b_B_takeIfFitting 7 = .ok (.if_icmp .ge 19, 3) := by decide +kernel
theorem d_B_takeIfFitting_10 : decode b_B_takeIfFitting 10 = .ok (.aload_n 0, 1) := by decide +kernel
theorem d_B_takeIfFitting_11 : decode b_B_takeIfFitting 11 = .ok (.getfield 21, 3) := by decide +kernel
theorem d_B_takeIfFitting_14 : decode b_B_takeIfFitting 14 = .ok (.iload_n 3, 1) := by decide +kernel
theorem d_B_takeIfFitting_15 : decode b_B_takeIfFitting 15 = .ok (.iaload, 1) := by decide +kernel
theorem d_B_takeIfFitting_16 : decode b_B_takeIfFitting 16 = .ok (.ifCond .eq 4, 3) := by decide +kernel
theorem d_B_takeIfFitting_19 : decode b_B_takeIfFitting 19 = .ok (.return_, 1) := by decide +kernel
theorem d_B_takeIfFitting_20 : decode b_B_takeIfFitting 20 = .ok (.iinc 3 1, 3) := by decide +kernel
theorem d_B_takeIfFitting_23 : decode b_B_takeIfFitting 23 = .ok (.goto (-21), 3) := by decide +kernel
theorem d_B_takeIfFitting_26 : decode b_B_takeIfFitting 26 = .ok (.aload_n 0, 1) := by decide +kernel
theorem d_B_takeIfFitting_27 : decode b_B_takeIfFitting 27 = .ok (.aload_n 0, 1) := by decide +kernel
theorem d_B_takeIfFitting_28 : decode b_B_takeIfFitting 28 = .ok (.getfield 9, 3) := by decide +kernel
theorem d_B_takeIfFitting_31 : decode b_B_takeIfFitting 31 = .ok (.ifCond .ne 7, 3) := by decide +kernel
theorem d_B_takeIfFitting_34 : decode b_B_takeIfFitting 34 = .ok (.iload_n 2, 1) := by decide +kernel
theorem d_B_takeIfFitting_35 : decode b_B_takeIfFitting 35 = .ok (.goto 7, 3) := by decide +kernel
theorem d_B_takeIfFitting_38 : decode b_B_takeIfFitting 38 = .ok (.aload_n 0, 1) := by decide +kernel
theorem d_B_takeIfFitting_39 : decode b_B_takeIfFitting 39 = .ok (.getfield 15, 3) := by decide +kernel
theorem d_B_takeIfFitting_42 : decode b_B_takeIfFitting 42 = .ok (.putfield 15, 3) := by decide +kernel
theorem d_B_takeIfFitting_45 : decode b_B_takeIfFitting 45 = .ok (.aload_n 0, 1) := by decide +kernel
theorem d_B_takeIfFitting_46 : decode b_B_takeIfFitting 46 = .ok (.aload_n 0, 1) := by decide +kernel
theorem d_B_takeIfFitting_47 : decode b_B_takeIfFitting 47 = .ok (.getfield 9, 3) := by decide +kernel
theorem d_B_takeIfFitting_50 : decode b_B_takeIfFitting 50 = .ok (.ifCond .ne 7, 3) := by decide +kernel
theorem d_B_takeIfFitting_53 : decode b_B_takeIfFitting 53 = .ok (.iload_n 2, 1) := by decide +kernel
theorem d_B_takeIfFitting_54 : decode b_B_takeIfFitting 54 = .ok (.goto 9, 3) := by decide +kernel
theorem d_B_takeIfFitting_57 : decode b_B_takeIfFitting 57 = .ok (.aload_n 0, 1) := by decide +kernel
theorem d_B_takeIfFitting_58 : decode b_B_takeIfFitting 58 = .ok (.getfield 18, 3) := by decide +kernel
theorem d_B_takeIfFitting_61 : decode b_B_takeIfFitting 61 = .ok (.iload_n 2, 1) := by decide +kernel
theorem d_B_takeIfFitting_62 : decode b_B_takeIfFitting 62 = .ok (.iand, 1) := by decide +kernel
theorem d_B_takeIfFitting_63 : decode b_B_takeIfFitting 63 = .ok (.putfield 18, 3) := by decide +kernel
theorem d_B_takeIfFitting_66 : decode b_B_takeIfFitting 66 = .ok (.aload_n 0, 1) := by decide +kernel
theorem d_B_takeIfFitting_67 : decode b_B_takeIfFitting 67 = .ok (.dup, 1) := by decide +kernel
theorem d_B_takeIfFitting_68 : decode b_B_takeIfFitting 68 = .ok (.getfield 9, 3) := by decide +kernel
theorem d_B_takeIfFitting_71 : decode b_B_takeIfFitting 71 = .ok (.iconst 1, 1) := by decide +kernel
theorem d_B_takeIfFitting_72 : decode b_B_takeIfFitting 72 = .ok (.iadd, 1) := by decide +kernel
theorem d_B_takeIfFitting_73 : decode b_B_takeIfFitting 73 = .ok (.putfield 9, 3) := by decide +kernel
theorem d_B_takeIfFitting_76 : decode b_B_takeIfFitting 76 = .ok (.return_, 1) := by decide +kernel
theorem d_D_init_0 : decode b_D_init 0 = .ok (.aload_n 0, 1) := by decide +kernel
theorem d_D_init_1 : decode b_D_init 1 = .ok (.invokespecial 1, 3) := by decide +kernel
theorem d_D_init_4 : decode b_D_init 4 = .ok (.return_, 1) := by decide +kernel
theorem d_D_become_0 : decode b_D_become 0 = .ok (.aload_n 0, 1) := by decide +kernel
theorem d_D_become_1 : decode b_D_become 1 = .ok (.iload_n 1, 1) := by decide +kernel
theorem d_D_become_2 : decode b_D_become 2 = .ok (.putfield 16, 3) := by decide +kernel
theorem d_D_become_5 : decode b_D_become 5 = .ok (.aload_n 0, 1) := by decide +kernel
theorem d_D_become_6 : decode b_D_become 6 = .ok (.iload_n 2, 1) := by decide +kernel
theorem d_D_become_7 : decode b_D_become 7 = .ok (.putfield 19, 3) := by decide +kernel
theorem d_D_become_10 : decode b_D_become 10 = .ok (.aload_n 0, 1) := by decide +kernel
theorem d_D_become_11 : decode b_D_become 11 = .ok (.iload_n 3, 1) := by decide +kernel
theorem d_D_become_12 : decode b_D_become 12 = .ok (.putfield 13, 3) := by decide +kernel
theorem d_D_become_15 : decode b_D_become 15 = .ok (.aload_n 0, 1) := by decide +kernel
theorem d_D_become_16 : decode b_D_become 16 = .ok (.iload 4, 2) := by decide +kernel
theorem d_D_become_18 : decode b_D_become 18 = .ok (.putfield 7, 3) := by decide +kernel
theorem d_D_become_21 : decode b_D_become 21 = .ok (.aload_n 0, 1) := by decide +kernel
theorem d_D_become_22 : decode b_D_become 22 = .ok (.iconst 0, 1) := by decide +kernel
theorem d_D_become_23 : decode b_D_become 23 = .ok (.putfield 22, 3) := by decide +kernel
theorem d_D_become_26 : decode b_D_become 26 = .ok (.aload_n 0, 1) := by decide +kernel
theorem d_D_become_27 : decode b_D_become 27 = .ok (.iconst 0, 1) := by decide +kernel
theorem d_D_become_28 : decode b_D_become 28 = .ok (.putfield 25, 3) := by decide +kernel
theorem d_D_become_31 : decode b_D_become 31 = .ok (.return_, 1) := by decide +kernel
theorem d_D_becomeLike_0 : decode b_D_becomeLike 0 = .ok (.aload_n 0, 1) := by decide +kernel
theorem d_D_becomeLike_1 : decode b_D_becomeLike 1 = .ok (.aload_n 1, 1) := by decide +kernel
theorem d_D_becomeLike_2 : decode b_D_becomeLike 2 = .ok (.getfield 16, 3) := by decide +kernel
theorem d_D_becomeLike_5 : decode b_D_becomeLike 5 = .ok (.aload_n 1, 1) := by decide +kernel
theorem d_D_becomeLike_6 : decode b_D_becomeLike 6 = .ok (.getfield 19, 3) := by decide +kernel
theorem d_D_becomeLike_9 : decode b_D_becomeLike 9 = .ok (.aload_n 1, 1) := by decide +kernel
theorem d_D_becomeLike_10 : decode b_D_becomeLike 10 = .ok (.getfield 13, 3) := by decide +kernel
theorem d_D_becomeLike_13 : decode b_D_becomeLike 13 = .ok (.aload_n 1, 1) := by decide +kernel
theorem d_D_becomeLike_14 : decode b_D_becomeLike 14 = .ok (.getfield 7, 3) := by decide +kernel
theorem d_D_becomeLike_17 : decode b_D_becomeLike 17 = .ok (.invokevirtual 28, 3) := by decide +kernel
theorem d_D_becomeLike_20 : decode b_D_becomeLike 20 = .ok (.aload_n 0, 1) := by decide +kernel
theorem d_D_becomeLike_21 : decode b_D_becomeLike 21 = .ok (.aload_n 1, 1) := by decide +kernel
theorem d_D_becomeLike_22 : decode b_D_becomeLike 22 = .ok (.getfield 22, 3) := by decide +kernel
theorem d_D_becomeLike_25 : decode b_D_becomeLike 25 = .ok (.putfield 22, 3) := by decide +kernel
theorem d_D_becomeLike_28 : decode b_D_becomeLike 28 = .ok (.aload_n 0, 1) := by decide +kernel
theorem d_D_becomeLike_29 : decode b_D_becomeLike 29 = .ok (.aload_n 1, 1) := by decide +kernel
theorem d_D_becomeLike_30 : decode b_D_becomeLike 30 = .ok (.getfield 25, 3) := by decide +kernel
theorem d_D_becomeLike_33 : decode b_D_becomeLike 33 = .ok (.putfield 25, 3) := by decide +kernel
theorem d_D_becomeLike_36 : decode b_D_becomeLike 36 = .ok (.return_, 1) := by decide +kernel
theorem d_D_isOpen_0 : decode b_D_isOpen 0 = .ok (.aload_n 0, 1) := by decide +kernel
theorem d_D_isOpen_1 : decode b_D_isOpen 1 = .ok (.getfield 7, 3) := by decide +kernel
theorem d_D_isOpen_4 : decode b_D_isOpen 4 = .ok (.ifCond .le 7, 3) := by decide +kernel
theorem d_D_isOpen_7 : decode b_D_isOpen 7 = .ok (.iconst 1, 1) := by decide +kernel
theorem d_D_isOpen_8 : decode b_D_isOpen 8 = .ok (.goto 4, 3) := by decide +kernel
theorem d_D_isOpen_11 : decode b_D_isOpen 11 = .ok (.iconst 0, 1) := by decide +kernel
theorem d_D_isOpen_12 : decode b_D_isOpen 12 = .ok (.ireturn, 1) := by decide +kernel
theorem d_D_isOpenOf_0 : decode b_D_isOpenOf 0 = .ok (.aload_n 0, 1) := by decide +kernel
theorem d_D_isOpenOf_1 : decode b_D_isOpenOf 1 = .ok (.getfield 7, 3) := by decide +kernel
theorem d_D_isOpenOf_4 : decode b_D_isOpenOf 4 = .ok (.ifCond .le 15, 3) := by decide +kernel
theorem d_D_isOpenOf_7 : decode b_D_isOpenOf 7 = .ok (.aload_n 0, 1) := by decide +kernel
theorem d_D_isOpenOf_8 : decode b_D_isOpenOf 8 = .ok (.getfield 13, 3) := by decide +kernel
theorem d_D_isOpenOf_11 : decode b_D_isOpenOf 11 = .ok (.iload_n 1, 1) := by decide +kernel
theorem d_D_isOpenOf_12 : decode b_D_isOpenOf 12 = .ok (.if_icmp .ne 7, 3) := by decide +kernel
theorem d_D_isOpenOf_15 : decode b_D_isOpenOf 15 = .ok (.iconst 1, 1) := by decide +kernel
theorem d_D_isOpenOf_16 : decode b_D_isOpenOf 16 = .ok (.goto 4, 3) := by decide +kernel
theorem d_D_isOpenOf_19 : decode b_D_isOpenOf 19 = .ok (.iconst 0, 1) := by decide +kernel
theorem d_D_isOpenOf_20 : decode b_D_isOpenOf 20 = .ok (.ireturn, 1) := by decide +kernel
theorem d_D_packed_0 : decode b_D_packed 0 = .ok (.aload_n 0, 1) := by decide +kernel
theorem d_D_packed_1 : decode b_D_packed 1 = .ok (.getfield 16, 3) := by decide +kernel
theorem d_D_packed_4 : decode b_D_packed 4 = .ok (.aload_n 0, 1) := by decide +kernel
theorem d_D_packed_5 : decode b_D_packed 5 = .ok (.getfield 19, 3) := by decide +kernel
theorem d_D_packed_8 : decode b_D_packed 8 = .ok (.iconst 3, 1) := by decide +kernel
theorem d_D_packed_9 : decode b_D_packed 9 = .ok (.ishl, 1) := by decide +kernel
theorem d_D_packed_10 : decode b_D_packed 10 = .ok (.ior, 1) := by decide +kernel
theorem d_D_packed_11 : decode b_D_packed 11 = .ok (.aload_n 0, 1) := by decide +kernel
theorem d_D_packed_12 : decode b_D_packed 12 = .ok (.getfield 13, 3) := by decide +kernel
theorem d_D_packed_15 : decode b_D_packed 15 = .ok (.bipush 6, 2) := by decide +kernel
theorem d_D_packed_17 : decode b_D_packed 17 = .ok (.ishl, 1) := by decide +kernel
theorem d_D_packed_18 : decode b_D_packed 18 = .ok (.ior, 1) := by decide +kernel
theorem d_D_packed_19 : decode b_D_packed 19 = .ok (.aload_n 0, 1) := by decide +kernel
theorem d_D_packed_20 : decode b_D_packed 20 = .ok (.getfield 25, 3) := by decide +kernel
theorem d_D_packed_23 : decode b_D_packed 23 = .ok (.bipush 8, 2) := by decide +kernel
theorem d_D_packed_25 : decode b_D_packed 25 = .ok (.ishl, 1) := by decide +kernel
theorem d_D_packed_26 : decode b_D_packed 26 = .ok (.ior, 1) := by decide +kernel
theorem d_D_packed_27 : decode b_D_packed 27 = .ok (.aload_n 0, 1) := by decide +kernel
theorem d_D_packed_28 : decode b_D_packed 28 = .ok (.getfield 22, 3) := by decide +kernel
theorem d_D_packed_31 : decode b_D_packed 31 = .ok (.bipush 10, 2) := by decide +kernel
theorem d_D_packed_33 : decode b_D_packed 33 = .ok (.ishl, 1) := by decide +kernel
theorem d_D_packed_34 : decode b_D_packed 34 = .ok (.ior, 1) := by decide +kernel
theorem d_D_packed_35 : decode b_D_packed 35 = .ok (.aload_n 0, 1) := by decide +kernel
theorem d_D_packed_36 : decode b_D_packed 36 = .ok (.getfield 7, 3) := by decide +kernel
theorem d_D_packed_39 : decode b_D_packed 39 = .ok (.bipush 16, 2) := by decide +kernel
theorem d_D_packed_41 : decode b_D_packed 41 = .ok (.ishl, 1) := by decide +kernel
theorem d_D_packed_42 : decode b_D_packed 42 = .ok (.ior, 1) := by decide +kernel
theorem d_D_packed_43 : decode b_D_packed 43 = .ok (.ireturn, 1) := by decide +kernel
theorem d_D_unpack_0 : decode b_D_unpack 0 = .ok (.aload_n 0, 1) := by decide +kernel
theorem d_D_unpack_1 : decode b_D_unpack 1 = .ok (.iload_n 1, 1) := by decide +kernel
theorem d_D_unpack_2 : decode b_D_unpack 2 = .ok (.bipush 7, 2) := by decide +kernel
theorem d_D_unpack_4 : decode b_D_unpack 4 = .ok (.iand, 1) := by decide +kernel
theorem d_D_unpack_5 : decode b_D_unpack 5 = .ok (.iload_n 1, 1) := by decide +kernel
theorem d_D_unpack_6 : decode b_D_unpack 6 = .ok (.iconst 3, 1) := by decide +kernel
theorem d_D_unpack_7 : decode b_D_unpack 7 = .ok (.ishr, 1) := by decide +kernel
theorem d_D_unpack_8 : decode b_D_unpack 8 = .ok (.bipush 7, 2) := by decide +kernel
theorem d_D_unpack_10 : decode b_D_unpack 10 = .ok (.iand, 1) := by decide +kernel
theorem d_D_unpack_11 : decode b_D_unpack 11 = .ok (.iload_n 1, 1) := by decide +kernel
theorem d_D_unpack_12 : decode b_D_unpack 12 = .ok (.bipush 6, 2) := by decide +kernel
theorem d_D_unpack_14 : decode b_D_unpack 14 = .ok (.ishr, 1) := by decide +kernel
theorem d_D_unpack_15 : decode b_D_unpack 15 = .ok (.iconst 3, 1) := by decide +kernel
theorem d_D_unpack_16 : decode b_D_unpack 16 = .ok (.iand, 1) := by decide +kernel
theorem d_D_unpack_17 : decode b_D_unpack 17 = .ok (.iload_n 1, 1) := by decide +kernel
theorem d_D_unpack_18 : decode b_D_unpack 18 = .ok (.bipush 16, 2) := by decide +kernel
theorem d_D_unpack_20 : decode b_D_unpack 20 = .ok (.ishr, 1) := by decide +kernel
theorem d_D_unpack_21 : decode b_D_unpack 21 = .ok (.bipush 127, 2) := by decide +kernel
theorem d_D_unpack_23 : decode b_D_unpack 23 = .ok (.iand, 1) := by decide +kernel
theorem d_D_unpack_24 : decode b_D_unpack 24 = .ok (.invokevirtual 28, 3) := by decide +kernel
theorem d_D_unpack_27 : decode b_D_unpack 27 = .ok (.aload_n 0, 1) := by decide +kernel
theorem d_D_unpack_28 : decode b_D_unpack 28 = .ok (.iload_n 1, 1) := by decide +kernel
theorem d_D_unpack_29 : decode b_D_unpack 29 = .ok (.bipush 8, 2) := by decide +kernel
theorem d_D_unpack_31 : decode b_D_unpack 31 = .ok (.ishr, 1) := by decide +kernel
theorem d_D_unpack_32 : decode b_D_unpack 32 = .ok (.iconst 3, 1) := by decide +kernel
theorem d_D_unpack_33 : decode b_D_unpack 33 = .ok (.iand, 1) := by decide +kernel
theorem d_D_unpack_34 : decode b_D_unpack 34 = .ok (.putfield 25, 3) := by decide +kernel
theorem d_D_unpack_37 : decode b_D_unpack 37 = .ok (.aload_n 0, 1) := by decide +kernel
theorem d_D_unpack_38 : decode b_D_unpack 38 = .ok (.iload_n 1, 1) := by decide +kernel
theorem d_D_unpack_39 : decode b_D_unpack 39 = .ok (.bipush 10, 2) := by decide +kernel
theorem d_D_unpack_41 : decode b_D_unpack 41 = .ok (.ishr, 1) := by decide +kernel
theorem d_D_unpack_42 : decode b_D_unpack 42 = .ok (.bipush 63, 2) := by decide +kernel
theorem d_D_unpack_44 : decode b_D_unpack 44 = .ok (.iand, 1) := by decide +kernel
theorem d_D_unpack_45 : decode b_D_unpack 45 = .ok (.putfield 22, 3) := by decide +kernel
theorem d_D_unpack_48 : decode b_D_unpack 48 = .ok (.return_, 1) := by decide +kernel
theorem d_D_worth_0 : decode b_D_worth 0 = .ok (.aload_n 0, 1) := by decide +kernel
theorem d_D_worth_1 : decode b_D_worth 1 = .ok (.getfield 7, 3) := by decide +kernel
theorem d_D_worth_4 : decode b_D_worth 4 = .ok (.aload_n 0, 1) := by decide +kernel
theorem d_D_worth_5 : decode b_D_worth 5 = .ok (.getfield 13, 3) := by decide +kernel
theorem d_D_worth_8 : decode b_D_worth 8 = .ok (.iconst 1, 1) := by decide +kernel
theorem d_D_worth_9 : decode b_D_worth 9 = .ok (.iadd, 1) := by decide +kernel
theorem d_D_worth_10 : decode b_D_worth 10 = .ok (.imul, 1) := by decide +kernel
theorem d_D_worth_11 : decode b_D_worth 11 = .ok (.ireturn, 1) := by decide +kernel
theorem d_H_init_0 : decode b_H_init 0 = .ok (.aload_n 0, 1) := by decide +kernel
theorem d_H_init_1 : decode b_H_init 1 = .ok (.invokespecial 3, 3) := by decide +kernel
theorem d_H_init_4 : decode b_H_init 4 = .ok (.aload_n 0, 1) := by decide +kernel
theorem d_H_init_5 : decode b_H_init 5 = .ok (.iconst 0, 1) := by decide +kernel
theorem d_H_init_6 : decode b_H_init 6 = .ok (.putfield 9, 3) := by decide +kernel
theorem d_H_init_9 : decode b_H_init 9 = .ok (.aload_n 0, 1) := by decide +kernel
theorem d_H_init_10 : decode b_H_init 10 = .ok (.bipush 41, 2) := by decide +kernel
theorem d_H_init_12 : decode b_H_init 12 = .ok (.newarray .int, 2) := by decide +kernel
theorem d_H_init_14 : decode b_H_init 14 = .ok (.putfield 15, 3) := by decide +kernel
theorem d_H_init_17 : decode b_H_init 17 = .ok (.aload_n 0, 1) := by decide +kernel
theorem d_H_init_18 : decode b_H_init 18 = .ok (.sipush 492, 3) := by decide +kernel
theorem d_H_init_21 : decode b_H_init 21 = .ok (.newarray .int, 2) := by decide +kernel
theorem d_H_init_23 : decode b_H_init 23 = .ok (.putfield 19, 3) := by decide +kernel
theorem d_H_init_26 : decode b_H_init 26 = .ok (.return_, 1) := by decide +kernel
theorem d_H_becomeLike_0 : decode b_H_becomeLike 0 = .ok (.aload_n 0, 1) := by decide +kernel
theorem d_H_becomeLike_1 : decode b_H_becomeLike 1 = .ok (.aload_n 1, 1) := by decide +kernel
theorem d_H_becomeLike_2 : decode b_H_becomeLike 2 = .ok (.getfield 9, 3) := by decide +kernel
theorem d_H_becomeLike_5 : decode b_H_becomeLike 5 = .ok (.putfield 9, 3) := by decide +kernel
theorem d_H_becomeLike_8 : decode b_H_becomeLike 8 = .ok (.aload_n 1, 1) := by decide +kernel
theorem d_H_becomeLike_9 : decode b_H_becomeLike 9 = .ok (.getfield 15, 3) := by decide +kernel
theorem d_H_becomeLike_12 : decode b_H_becomeLike 12 = .ok (.iconst 0, 1) := by decide +kernel
theorem d_H_becomeLike_13 : decode b_H_becomeLike 13 = .ok (.aload_n 0, 1) := by decide +kernel
theorem d_H_becomeLike_14 : decode b_H_becomeLike 14 = .ok (.getfield 15, 3) := by decide +kernel
theorem d_H_becomeLike_17 : decode b_H_becomeLike 17 = .ok (.iconst 0, 1) := by decide +kernel
theorem d_H_becomeLike_18 : decode b_H_becomeLike 18 = .ok (.aload_n 0, 1) := by decide +kernel
theorem d_H_becomeLike_19 : decode b_H_becomeLike 19 = .ok (.getfield 9, 3) := by decide +kernel
theorem d_H_becomeLike_22 : decode b_H_becomeLike 22 = .ok (.iconst 1, 1) := by decide +kernel
theorem d_H_becomeLike_23 : decode b_H_becomeLike 23 = .ok (.iadd, 1) := by decide +kernel
theorem d_H_becomeLike_24 : decode b_H_becomeLike 24 = .ok (.invokestatic 49, 3) := by decide +kernel
theorem d_H_becomeLike_27 : decode b_H_becomeLike 27 = .ok (.aload_n 1, 1) := by decide +kernel
theorem d_H_becomeLike_28 : decode b_H_becomeLike 28 = .ok (.getfield 19, 3) := by decide +kernel
theorem d_H_becomeLike_31 : decode b_H_becomeLike 31 = .ok (.iconst 0, 1) := by decide +kernel
theorem d_H_becomeLike_32 : decode b_H_becomeLike 32 = .ok (.aload_n 0, 1) := by decide +kernel
theorem d_H_becomeLike_33 : decode b_H_becomeLike 33 = .ok (.getfield 19, 3) := by decide +kernel
theorem d_H_becomeLike_36 : decode b_H_becomeLike 36 = .ok (.iconst 0, 1) := by decide +kernel
theorem d_H_becomeLike_37 : decode b_H_becomeLike 37 = .ok (.aload_n 0, 1) := by decide +kernel
theorem d_H_becomeLike_38 : decode b_H_becomeLike 38 = .ok (.getfield 9, 3) := by decide +kernel
theorem d_H_becomeLike_41 : decode b_H_becomeLike 41 = .ok (.iconst 1, 1) := by decide +kernel
theorem d_H_becomeLike_42 : decode b_H_becomeLike 42 = .ok (.iadd, 1) := by decide +kernel
theorem d_H_becomeLike_43 : decode b_H_becomeLike 43 = .ok (.bipush 12, 2) := by decide +kernel
theorem d_H_becomeLike_45 : decode b_H_becomeLike 45 = .ok (.imul, 1) := by decide +kernel
theorem d_H_becomeLike_46 : decode b_H_becomeLike 46 = .ok (.invokestatic 49, 3) := by decide +kernel
theorem d_H_becomeLike_49 : decode b_H_becomeLike 49 = .ok (.return_, 1) := by decide +kernel
theorem d_H_begin_0 : decode b_H_begin 0 = .ok (.aload_n 0, 1) := by decide +kernel
theorem d_H_begin_1 : decode b_H_begin 1 = .ok (.iconst 1, 1) := by decide +kernel
theorem d_H_begin_2 : decode b_H_begin 2 = .ok (.invokevirtual 22, 3) := by decide +kernel
theorem d_H_begin_5 : decode b_H_begin 5 = .ok (.ifCond .ne 18, 3) := by decide +kernel
theorem d_H_begin_8 : decode b_H_begin 8 = .ok (.aload_n 0, 1) := by decide +kernel
theorem d_H_begin_9 : decode b_H_begin 9 = .ok (.aload_n 1, 1) := by decide +kernel
theorem d_H_begin_10 : decode b_H_begin 10 = .ok (.invokevirtual 26, 3) := by decide +kernel
theorem d_H_begin_13 : decode b_H_begin 13 = .ok (.aload_n 0, 1) := by decide +kernel
theorem d_H_begin_14 : decode b_H_begin 14 = .ok (.dup, 1) := by decide +kernel
theorem d_H_begin_15 : decode b_H_begin 15 = .ok (.getfield 9, 3) := by decide +kernel
theorem d_H_begin_18 : decode b_H_begin 18 = .ok (.iconst 1, 1) := by decide +kernel
theorem d_H_begin_19 : decode b_H_begin 19 = .ok (.iadd, 1) := by decide +kernel
theorem d_H_begin_20 : decode b_H_begin 20 = .ok (.putfield 9, 3) := by decide +kernel
theorem d_H_begin_23 : decode b_H_begin 23 = .ok (.return_, 1) := by decide +kernel
theorem d_H_goBack_0 : decode b_H_goBack 0 = .ok (.iload_n 1, 1) := by decide +kernel
theorem d_H_goBack_1 : decode b_H_goBack 1 = .ok (.ifCond .lt 11, 3) := by decide +kernel
theorem d_H_goBack_4 : decode b_H_goBack 4 = .ok (.iload_n 1, 1) := by decide +kernel
theorem d_H_goBack_5 : decode b_H_goBack 5 = .ok (.aload_n 0, 1) := by decide +kernel
theorem d_H_goBack_6 : decode b_H_goBack 6 = .ok (.getfield 9, 3) := by decide +kernel
theorem d_H_goBack_9 : decode b_H_goBack 9 = .ok (.if_icmp .le 4, 3) := by decide +kernel
theorem d_H_goBack_12 : decode b_H_goBack 12 = .ok (.return_, 1) := by decide +kernel
theorem d_H_goBack_13 : decode b_H_goBack 13 = .ok (.aload_n 0, 1) := by decide +kernel
theorem d_H_goBack_14 : decode b_H_goBack 14 = .ok (.iload_n 1, 1) := by decide +kernel
theorem d_H_goBack_15 : decode b_H_goBack 15 = .ok (.putfield 9, 3) := by decide +kernel
theorem d_H_goBack_18 : decode b_H_goBack 18 = .ok (.aload_n 2, 1) := by decide +kernel
theorem d_H_goBack_19 : decode b_H_goBack 19 = .ok (.aload_n 0, 1) := by decide +kernel
theorem d_H_goBack_20 : decode b_H_goBack 20 = .ok (.getfield 15, 3) := by decide +kernel
theorem d_H_goBack_23 : decode b_H_goBack 23 = .ok (.iload_n 1, 1) := by decide +kernel
theorem d_H_goBack_24 : decode b_H_goBack 24 = .ok (.iaload, 1) := by decide +kernel
theorem d_H_goBack_25 : decode b_H_goBack 25 = .ok (.putfield 30, 3) := by decide +kernel
theorem d_H_goBack_28 : decode b_H_goBack 28 = .ok (.iconst 0, 1) := by decide +kernel
theorem d_H_goBack_29 : decode b_H_goBack 29 = .ok (.istore_n 3, 1) := by decide +kernel
theorem d_H_goBack_30 : decode b_H_goBack 30 = .ok (.iload_n 3, 1) := by decide +kernel
theorem d_H_goBack_31 : decode b_H_goBack 31 = .ok (.aload_n 2, 1) := by decide +kernel
theorem d_H_goBack_32 : decode b_H_goBack 32 = .ok (.getfield 30, 3) := by decide +kernel
theorem d_H_goBack_35 : decode b_H_goBack 35 = .ok (.if_icmp .ge 29, 3) := by decide +kernel
theorem d_H_goBack_38 : decode b_H_goBack 38 = .ok (.aload_n 2, 1) := by decide +kernel
theorem d_H_goBack_39 : decode b_H_goBack 39 = .ok (.getfield 35, 3) := by decide +kernel
theorem d_H_goBack_42 : decode b_H_goBack 42 = .ok (.iload_n 3, 1) := by decide +kernel
theorem d_H_goBack_43 : decode b_H_goBack 43 = .ok (.aaload, 1) := by decide +kernel
theorem d_H_goBack_44 : decode b_H_goBack 44 = .ok (.aload_n 0, 1) := by decide +kernel
theorem d_H_goBack_45 : decode b_H_goBack 45 = .ok (.getfield 19, 3) := by decide +kernel
theorem d_H_goBack_48 : decode b_H_goBack 48 = .ok (.iload_n 1, 1) := by decide +kernel
theorem d_H_goBack_49 : decode b_H_goBack 49 = .ok (.bipush 12, 2) := by decide +kernel
theorem d_H_goBack_51 : decode b_H_goBack 51 = .ok (.imul, 1) := by decide +kernel
theorem d_H_goBack_52 : decode b_H_goBack 52 = .ok (.iload_n 3, 1) := by decide +kernel
theorem d_H_goBack_53 : decode b_H_goBack 53 = .ok (.iadd, 1) := by decide +kernel
theorem d_H_goBack_54 : decode b_H_goBack 54 = .ok (.iaload, 1) := by decide +kernel
theorem d_H_goBack_55 : decode b_H_goBack 55 = .ok (.invokevirtual 45, 3) := by decide +kernel
theorem d_H_goBack_58 : decode b_H_goBack 58 = .ok (.iinc 3 1, 3) := by decide +kernel
theorem d_H_goBack_61 : decode b_H_goBack 61 = .ok (.goto (-31), 3) := by decide +kernel
theorem d_H_goBack_64 : decode b_H_goBack 64 = .ok (.return_, 1) := by decide +kernel
theorem d_H_isFullFor_0 : decode b_H_isFullFor 0 = .ok (.aload_n 0, 1) := by decide +kernel
theorem d_H_isFullFor_1 : decode b_H_isFullFor 1 = .ok (.getfield 9, 3) := by decide +kernel
theorem d_H_isFullFor_4 : decode b_H_isFullFor 4 = .ok (.iload_n 1, 1) := by decide +kernel
theorem d_H_isFullFor_5 : decode b_H_isFullFor 5 = .ok (.iadd, 1) := by decide +kernel
theorem d_H_isFullFor_6 : decode b_H_isFullFor 6 = .ok (.bipush 40, 2) := by decide +kernel
theorem d_H_isFullFor_8 : decode b_H_isFullFor 8 = .ok (.if_icmp .le 7, 3) := by decide +kernel
theorem d_H_isFullFor_11 : decode b_H_isFullFor 11 = .ok (.iconst 1, 1) := by decide +kernel
theorem d_H_isFullFor_12 : decode b_H_isFullFor 12 = .ok (.goto 4, 3) := by decide +kernel
theorem d_H_isFullFor_15 : decode b_H_isFullFor 15 = .ok (.iconst 0, 1) := by decide +kernel
theorem d_H_isFullFor_16 : decode b_H_isFullFor 16 = .ok (.ireturn, 1) := by decide +kernel
theorem d_H_save_0 : decode b_H_save 0 = .ok (.aload_n 0, 1) := by decide +kernel
theorem d_H_save_1 : decode b_H_save 1 = .ok (.getfield 9, 3) := by decide +kernel
theorem d_H_save_4 : decode b_H_save 4 = .ok (.ifCond .lt 12, 3) := by decide +kernel
theorem d_H_save_7 : decode b_H_save 7 = .ok (.aload_n 0, 1) := by decide +kernel
theorem d_H_save_8 : decode b_H_save 8 = .ok (.getfield 9, 3) := by decide +kernel
theorem d_H_save_11 : decode b_H_save 11 = .ok (.bipush 40, 2) := by decide +kernel
theorem d_H_save_13 : decode b_H_save 13 = .ok (.if_icmp .le 4, 3) := by decide +kernel
theorem d_H_save_16 : decode b_H_save 16 = .ok (.return_, 1) := by decide +kernel
theorem d_H_save_17 : decode b_H_save 17 = .ok (.aload_n 0, 1) := by decide +kernel
theorem d_H_save_18 : decode b_H_save 18 = .ok (.getfield 15, 3) := by decide +kernel
theorem d_H_save_21 : decode b_H_save 21 = .ok (.aload_n 0, 1) := by decide +kernel
theorem d_H_save_22 : decode b_H_save 22 = .ok (.getfield 9, 3) := by decide +kernel
theorem d_H_save_25 : decode b_H_save 25 = .ok (.aload_n 1, 1) := by decide +kernel
theorem d_H_save_26 : decode b_H_save 26 = .ok (.getfield 30, 3) := by decide +kernel
theorem d_H_save_29 : decode b_H_save 29 = .ok (.iastore, 1) := by decide +kernel
theorem d_H_save_30 : decode b_H_save 30 = .ok (.iconst 0, 1) := by decide +kernel
theorem d_H_save_31 : decode b_H_save 31 = .ok (.istore_n 2, 1) := by decide +kernel
theorem d_H_save_32 : decode b_H_save 32 = .ok (.iload_n 2, 1) := by decide +kernel
theorem d_H_save_33 : decode b_H_save 33 = .ok (.aload_n 1, 1) := by decide +kernel
theorem d_H_save_34 : decode b_H_save 34 = .ok (.getfield 30, 3) := by decide +kernel
theorem d_H_save_37 : decode b_H_save 37 = .ok (.if_icmp .ge 32, 3) := by decide +kernel
theorem d_H_save_40 : decode b_H_save 40 = .ok (.aload_n 0, 1) := by decide +kernel
theorem d_H_save_41 : decode b_H_save 41 = .ok (.getfield 19, 3) := by decide +kernel
theorem d_H_save_44 : decode b_H_save 44 = .ok (.aload_n 0, 1) := by decide +kernel
theorem d_H_save_45 : decode b_H_save 45 = .ok (.getfield 9, 3) := by decide +kernel
theorem d_H_save_48 : decode b_H_save 48 = .ok (.bipush 12, 2) := by decide +kernel
theorem d_H_save_50 : decode b_H_save 50 = .ok (.imul, 1) := by decide +kernel
theorem d_H_save_51 : decode b_H_save 51 = .ok (.iload_n 2, 1) := by decide +kernel
theorem d_H_save_52 : decode b_H_save 52 = .ok (.iadd, 1) := by decide +kernel
theorem d_H_save_53 : decode b_H_save 53 = .ok (.aload_n 1, 1) := by decide +kernel
theorem d_H_save_54 : decode b_H_save 54 = .ok (.getfield 35, 3) := by decide +kernel
theorem d_H_save_57 : decode b_H_save 57 = .ok (.iload_n 2, 1) := by decide +kernel
theorem d_H_save_58 : decode b_H_save 58 = .ok (.aaload, 1) := by decide +kernel
theorem d_H_save_59 : decode b_H_save 59 = .ok (.invokevirtual 39, 3) := by decide +kernel
theorem d_H_save_62 : decode b_H_save 62 = .ok (.iastore, 1) := by decide +kernel
theorem d_H_save_63 : decode b_H_save 63 = .ok (.iinc 2 1, 3) := by decide +kernel
theorem d_H_save_66 : decode b_H_save 66 = .ok (.goto (-34), 3) := by decide +kernel
theorem d_H_save_69 : decode b_H_save 69 = .ok (.return_, 1) := by decide +kernel
theorem d_R_faultOf_0 : decode b_R_faultOf 0 = .ok (.aload_n 1, 1) := by decide +kernel
theorem d_R_faultOf_1 : decode b_R_faultOf 1 = .ok (.invokevirtual 9, 3) := by decide +kernel
theorem d_R_faultOf_4 : decode b_R_faultOf 4 = .ok (.iconst 0, 1) := by decide +kernel
theorem d_R_faultOf_5 : decode b_R_faultOf 5 = .ok (.istore_n 2, 1) := by decide +kernel
theorem d_R_faultOf_6 : decode b_R_faultOf 6 = .ok (.iload_n 2, 1) := by decide +kernel
theorem d_R_faultOf_7 : decode b_R_faultOf 7 = .ok (.aload_n 0, 1) := by decide +kernel
theorem d_R_faultOf_8 : decode b_R_faultOf 8 = .ok (.getfield 14, 3) := by decide +kernel
theorem d_R_faultOf_11 : decode b_R_faultOf 11 = .ok (.if_icmp .ge 70, 3) := by decide +kernel
theorem d_R_faultOf_14 : decode b_R_faultOf 14 = .ok (.aload_n 0, 1) := by decide +kernel
theorem d_R_faultOf_15 : decode b_R_faultOf 15 = .ok (.iload_n 2, 1) := by decide +kernel
theorem d_R_faultOf_16 : decode b_R_faultOf 16 = .ok (.invokestatic 20, 3) := by decide +kernel
theorem d_R_faultOf_19 : decode b_R_faultOf 19 = .ok (.istore_n 3, 1) := by decide +kernel
theorem d_R_faultOf_20 : decode b_R_faultOf 20 = .ok (.iload_n 3, 1) := by decide +kernel
theorem d_R_faultOf_21 : decode b_R_faultOf 21 = .ok (.bipush 32, 2) := by decide +kernel
theorem d_R_faultOf_23 : decode b_R_faultOf 23 = .ok (.if_icmp .ne 9, 3) := by decide +kernel
theorem d_R_faultOf_26 : decode b_R_faultOf 26 = .ok (.iinc 2 1, 3) := by decide +kernel
theorem d_R_faultOf_29 : decode b_R_faultOf 29 = .ok (.goto 49, 3) := by decide +kernel
theorem d_R_faultOf_32 : decode b_R_faultOf 32 = .ok (.iload_n 3, 1) := by decide +kernel
theorem d_R_faultOf_33 : decode b_R_faultOf 33 = .ok (.bipush 120, 2) := by decide +kernel
theorem d_R_faultOf_35 : decode b_R_faultOf 35 = .ok (.if_icmp .ne 27, 3) := by decide +kernel
theorem d_R_faultOf_38 : decode b_R_faultOf 38 = .ok (.aload_n 0, 1) := by decide +kernel
theorem d_R_faultOf_39 : decode b_R_faultOf 39 = .ok (.iload_n 2, 1) := by decide +kernel
theorem d_R_faultOf_40 : decode b_R_faultOf 40 = .ok (.aload_n 1, 1) := by decide +kernel
theorem d_R_faultOf_41 : decode b_R_faultOf 41 = .ok (.invokestatic 26, 3) := by decide +kernel
theorem d_R_faultOf_44 : decode b_R_faultOf 44 = .ok (.istore 4, 2) := by decide +kernel
theorem d_R_faultOf_46 : decode b_R_faultOf 46 = .ok (.iload 4, 2) := by decide +kernel
theorem d_R_faultOf_48 : decode b_R_faultOf 48 = .ok (.bipush (-9), 2) := by decide +kernel
theorem d_R_faultOf_50 : decode b_R_faultOf 50 = .ok (.if_icmp .eq 6, 3) := by decide +kernel
theorem d_R_faultOf_53 : decode b_R_faultOf 53 = .ok (.iload 4, 2) := by decide +kernel
theorem d_R_faultOf_55 : decode b_R_faultOf 55 = .ok (.ireturn, 1) := by decide +kernel
theorem d_R_faultOf_56 : decode b_R_faultOf 56 = .ok (.iinc 2 5, 3) := by decide +kernel
theorem d_R_faultOf_59 : decode b_R_faultOf 59 = .ok (.goto 19, 3) := by decide +kernel
theorem d_R_faultOf_62 : decode b_R_faultOf 62 = .ok (.iload_n 3, 1) := by decide +kernel
theorem d_R_faultOf_63 : decode b_R_faultOf 63 = .ok (.aload_n 1, 1) := by decide +kernel
theorem d_R_faultOf_64 : decode b_R_faultOf 64 = .ok (.invokestatic 30, 3) := by decide +kernel
theorem d_R_faultOf_67 : decode b_R_faultOf 67 = .ok (.ifCond .eq 9, 3) := by decide +kernel
theorem d_R_faultOf_70 : decode b_R_faultOf 70 = .ok (.iinc 2 1, 3) := by decide +kernel
theorem d_R_faultOf_73 : decode b_R_faultOf 73 = .ok (.goto 5, 3) := by decide +kernel
theorem d_R_faultOf_76 : decode b_R_faultOf 76 = .ok (.iload_n 2, 1) := by decide +kernel
theorem d_R_faultOf_77 : decode b_R_faultOf 77 = .ok (.ireturn, 1) := by decide +kernel
theorem d_R_faultOf_78 : decode b_R_faultOf 78 = .ok (.goto (-72), 3) := by decide +kernel
theorem d_R_faultOf_81 : decode b_R_faultOf 81 = .ok (.aload_n 1, 1) := by decide +kernel
theorem d_R_faultOf_82 : decode b_R_faultOf 82 = .ok (.getfield 34, 3) := by decide +kernel
theorem d_R_faultOf_85 : decode b_R_faultOf 85 = .ok (.iconst 2, 1) := by decide +kernel
theorem d_R_faultOf_86 : decode b_R_faultOf 86 = .ok (.if_icmp .ge 10, 3) := by decide +kernel
theorem d_R_faultOf_89 : decode b_R_faultOf 89 = .ok (.aload_n 0, 1) := by decide +kernel
theorem d_R_faultOf_90 : decode b_R_faultOf 90 = .ok (.getfield 14, 3) := by decide +kernel
theorem d_R_faultOf_93 : decode b_R_faultOf 93 = .ok (.goto 5, 3) := by decide +kernel
theorem d_R_faultOf_96 : decode b_R_faultOf 96 = .ok (.bipush (-9), 2) := by decide +kernel
theorem d_R_faultOf_98 : decode b_R_faultOf 98 = .ok (.ireturn, 1) := by decide +kernel
theorem d_R_numberOf_0 : decode b_R_numberOf 0 = .ok (.iconst 0, 1) := by decide +kernel
theorem d_R_numberOf_1 : decode b_R_numberOf 1 = .ok (.istore_n 2, 1) := by decide +kernel
theorem d_R_numberOf_2 : decode b_R_numberOf 2 = .ok (.iload_n 2, 1) := by decide +kernel
theorem d_R_numberOf_3 : decode b_R_numberOf 3 = .ok (.aload_n 1, 1) := by decide +kernel
theorem d_R_numberOf_4 : decode b_R_numberOf 4 = .ok (.arraylength, 1) := by decide +kernel
theorem d_R_numberOf_5 : decode b_R_numberOf 5 = .ok (.if_icmp .ge 18, 3) := by decide +kernel
theorem d_R_numberOf_8 : decode b_R_numberOf 8 = .ok (.aload_n 1, 1) := by decide +kernel
theorem d_R_numberOf_9 : decode b_R_numberOf 9 = .ok (.iload_n 2, 1) := by decide +kernel
theorem d_R_numberOf_10 : decode b_R_numberOf 10 = .ok (.iaload, 1) := by decide +kernel
theorem d_R_numberOf_11 : decode b_R_numberOf 11 = .ok (.iload_n 0, 1) := by decide +kernel
theorem d_R_numberOf_12 : decode b_R_numberOf 12 = .ok (.if_icmp .ne 5, 3) := by decide +kernel
theorem d_R_numberOf_15 : decode b_R_numberOf 15 = .ok (.iload_n 2, 1) := by decide +kernel
theorem d_R_numberOf_16 : decode b_R_numberOf 16 = .ok (.ireturn, 1) := by decide +kernel
theorem d_R_numberOf_17 : decode b_R_numberOf 17 = .ok (.iinc 2 1, 3) := by decide +kernel
theorem d_R_numberOf_20 : decode b_R_numberOf 20 = .ok (.goto (-18), 3) := by decide +kernel
theorem d_R_numberOf_23 : decode b_R_numberOf 23 = .ok (.iconst (-1), 1) := by decide +kernel
theorem d_R_numberOf_24 : decode b_R_numberOf 24 = .ok (.ireturn, 1) := by decide +kernel
theorem d_R_readDraft_0 : decode b_R_readDraft 0 = .ok (.aload_n 2, 1) := by decide +kernel
theorem d_R_readDraft_1 : decode b_R_readDraft 1 = .ok (.getfield 34, 3) := by decide +kernel
theorem d_R_readDraft_4 : decode b_R_readDraft 4 = .ok (.iconst 2, 1) := by decide +kernel
theorem d_R_readDraft_5 : decode b_R_readDraft 5 = .ok (.if_icmp .lt 12, 3) := by decide +kernel
theorem d_R_readDraft_8 : decode b_R_readDraft 8 = .ok (.aload_n 2, 1) := by decide +kernel
theorem d_R_readDraft_9 : decode b_R_readDraft 9 = .ok (.getfield 45, 3) := by decide +kernel
theorem d_R_readDraft_12 : decode b_R_readDraft 12 = .ok (.bipush 12, 2) := by decide +kernel
theorem d_R_readDraft_14 : decode b_R_readDraft 14 = .ok (.if_icmp .lt 5, 3) := by decide +kernel
theorem d_R_readDraft_17 : decode b_R_readDraft 17 = .ok (.iload_n 1, 1) := by decide +kernel
theorem d_R_readDraft_18 : decode b_R_readDraft 18 = .ok (.ireturn, 1) := by decide +kernel
theorem d_R_readDraft_19 : decode b_R_readDraft 19 = .ok (.aload_n 0, 1) := by decide +kernel
theorem d_R_readDraft_20 : decode b_R_readDraft 20 = .ok (.iload_n 1, 1) := by decide +kernel
theorem d_R_readDraft_21 : decode b_R_readDraft 21 = .ok (.iconst 1, 1) := by decide +kernel
theorem d_R_readDraft_22 : decode b_R_readDraft 22 = .ok (.iadd, 1) := by decide +kernel
theorem d_R_readDraft_23 : decode b_R_readDraft 23 = .ok (.invokestatic 20, 3) := by decide +kernel
theorem d_R_readDraft_26 : decode b_R_readDraft 26 = .ok (.bipush 48, 2) := by decide +kernel
theorem d_R_readDraft_28 : decode b_R_readDraft 28 = .ok (.isub, 1) := by decide +kernel
theorem d_R_readDraft_29 : decode b_R_readDraft 29 = .ok (.istore_n 3, 1) := by decide +kernel
theorem d_R_readDraft_30 : decode b_R_readDraft 30 = .ok (.aload_n 2, 1) := by decide +kernel
theorem d_R_readDraft_31 : decode b_R_readDraft 31 = .ok (.iload_n 3, 1) := by decide +kernel
theorem d_R_readDraft_32 : decode b_R_readDraft 32 = .ok (.invokevirtual 52, 3) := by decide +kernel
theorem d_R_readDraft_35 : decode b_R_readDraft 35 = .ok (.ifCond .ne 7, 3) := by decide +kernel
theorem d_R_readDraft_38 : decode b_R_readDraft 38 = .ok (.iload_n 1, 1) := by decide +kernel
theorem d_R_readDraft_39 : decode b_R_readDraft 39 = .ok (.iconst 1, 1) := by decide +kernel
theorem d_R_readDraft_40 : decode b_R_readDraft 40 = .ok (.iadd, 1) := by decide +kernel
theorem d_R_readDraft_41 : decode b_R_readDraft 41 = .ok (.ireturn, 1) := by decide +kernel
theorem d_R_readDraft_42 : decode b_R_readDraft 42 = .ok (.aload_n 0, 1) := by decide +kernel
theorem d_R_readDraft_43 : decode b_R_readDraft 43 = .ok (.iload_n 1, 1) := by decide +kernel
theorem d_R_readDraft_44 : decode b_R_readDraft 44 = .ok (.iconst 2, 1) := by decide +kernel
theorem d_R_readDraft_45 : decode b_R_readDraft 45 = .ok (.iadd, 1) := by decide +kernel
theorem d_R_readDraft_46 : decode b_R_readDraft 46 = .ok (.invokestatic 20, 3) := by decide +kernel
theorem d_R_readDraft_49 : decode b_R_readDraft 49 = .ok (.bipush 48, 2) := by decide +kernel
theorem d_R_readDraft_51 : decode b_R_readDraft 51 = .ok (.isub, 1) := by decide +kernel
theorem d_R_readDraft_52 : decode b_R_readDraft 52 = .ok (.istore 4, 2) := by decide +kernel
theorem d_R_readDraft_54 : decode b_R_readDraft 54 = .ok (.aload_n 2, 1) := by decide +kernel
theorem d_R_readDraft_55 : decode b_R_readDraft 55 = .ok (.iload_n 3, 1) := by decide +kernel
theorem d_R_readDraft_56 : decode b_R_readDraft 56 = .ok (.iload 4, 2) := by decide +kernel
theorem d_R_readDraft_58 : decode b_R_readDraft 58 = .ok (.invokevirtual 56, 3) := by decide +kernel
theorem d_R_readDraft_61 : decode b_R_readDraft 61 = .ok (.ifCond .ne 7, 3) := by decide +kernel
theorem d_R_readDraft_64 : decode b_R_readDraft 64 = .ok (.iload_n 1, 1) := by decide +kernel
theorem d_R_readDraft_65 : decode b_R_readDraft 65 = .ok (.iconst 2, 1) := by decide +kernel
theorem d_R_readDraft_66 : decode b_R_readDraft 66 = .ok (.iadd, 1) := by decide +kernel
theorem d_R_readDraft_67 : decode b_R_readDraft 67 = .ok (.ireturn, 1) := by decide +kernel
theorem d_R_readDraft_68 : decode b_R_readDraft 68 = .ok (.aload_n 0, 1) := by decide +kernel
theorem d_R_readDraft_69 : decode b_R_readDraft 69 = .ok (.iload_n 1, 1) := by decide +kernel
theorem d_R_readDraft_70 : decode b_R_readDraft 70 = .ok (.iconst 3, 1) := by decide +kernel
theorem d_R_readDraft_71 : decode b_R_readDraft 71 = .ok (.iadd, 1) := by decide +kernel
theorem d_R_readDraft_72 : decode b_R_readDraft 72 = .ok (.invokestatic 20, 3) := by decide +kernel
theorem d_R_readDraft_75 : decode b_R_readDraft 75 = .ok (.getstatic 60, 3) := by decide +kernel
theorem d_R_readDraft_78 : decode b_R_readDraft 78 = .ok (.invokestatic 41, 3) := by decide +kernel
theorem d_R_readDraft_81 : decode b_R_readDraft 81 = .ok (.istore 5, 2) := by decide +kernel
theorem d_R_readDraft_83 : decode b_R_readDraft 83 = .ok (.iload 5, 2) := by decide +kernel
theorem d_R_readDraft_85 : decode b_R_readDraft 85 = .ok (.ifCond .ge 7, 3) := by decide +kernel
theorem d_R_readDraft_88 : decode b_R_readDraft 88 = .ok (.iload_n 1, 1) := by decide +kernel
theorem d_R_readDraft_89 : decode b_R_readDraft 89 = .ok (.iconst 3, 1) := by decide +kernel
theorem d_R_readDraft_90 : decode b_R_readDraft 90 = .ok (.iadd, 1) := by decide +kernel
theorem d_R_readDraft_91 : decode b_R_readDraft 91 = .ok (.ireturn, 1) := by decide +kernel
theorem d_R_readDraft_92 : decode b_R_readDraft 92 = .ok (.aload_n 0, 1) := by decide +kernel
theorem d_R_readDraft_93 : decode b_R_readDraft 93 = .ok (.iload_n 1, 1) := by decide +kernel
theorem d_R_readDraft_94 : decode b_R_readDraft 94 = .ok (.iconst 4, 1) := by decide +kernel
theorem d_R_readDraft_95 : decode b_R_readDraft 95 = .ok (.iadd, 1) := by decide +kernel
theorem d_R_readDraft_96 : decode b_R_readDraft 96 = .ok (.invokestatic 20, 3) := by decide +kernel
theorem d_R_readDraft_99 : decode b_R_readDraft 99 = .ok (.bipush 48, 2) := by decide +kernel
theorem d_R_readDraft_101 : decode b_R_readDraft 101 = .ok (.isub, 1) := by decide +kernel
theorem d_R_readDraft_102 : decode b_R_readDraft 102 = .ok (.istore 6, 2) := by decide +kernel
theorem d_R_readDraft_104 : decode b_R_readDraft 104 = .ok (.iload 6, 2) := by decide +kernel
theorem d_R_readDraft_106 : decode b_R_readDraft 106 = .ok (.iconst 1, 1) := by decide +kernel
theorem d_R_readDraft_107 : decode b_R_readDraft 107 = .ok (.if_icmp .lt 10, 3) := by decide +kernel
theorem d_R_readDraft_110 : decode b_R_readDraft 110 = .ok (.iload 6, 2) := by decide +kernel
theorem d_R_readDraft_112 : decode b_R_readDraft 112 = .ok (.bipush 9, 2) := by decide +kernel
theorem d_R_readDraft_114 : decode b_R_readDraft 114 = .ok (.if_icmp .le 7, 3) := by decide +kernel
theorem d_R_readDraft_117 : decode b_R_readDraft 117 = .ok (.iload_n 1, 1) := by decide +kernel
theorem d_R_readDraft_118 : decode b_R_readDraft 118 = .ok (.iconst 4, 1) := by decide +kernel
theorem d_R_readDraft_119 : decode b_R_readDraft 119 = .ok (.iadd, 1) := by decide +kernel
theorem d_R_readDraft_120 : decode b_R_readDraft 120 = .ok (.ireturn, 1) := by decide +kernel
theorem d_R_readDraft_121 : decode b_R_readDraft 121 = .ok (.aload_n 2, 1) := by decide +kernel
theorem d_R_readDraft_122 : decode b_R_readDraft 122 = .ok (.iload_n 3, 1) := by decide +kernel
theorem d_R_readDraft_123 : decode b_R_readDraft 123 = .ok (.iload 4, 2) := by decide +kernel
theorem d_R_readDraft_125 : decode b_R_readDraft 125 = .ok (.iload 5, 2) := by decide +kernel
theorem d_R_readDraft_127 : decode b_R_readDraft 127 = .ok (.iload 6, 2) := by decide +kernel
theorem d_R_readDraft_129 : decode b_R_readDraft 129 = .ok (.invokevirtual 63, 3) := by decide +kernel
theorem d_R_readDraft_132 : decode b_R_readDraft 132 = .ok (.bipush (-9), 2) := by decide +kernel
theorem d_R_readDraft_134 : decode b_R_readDraft 134 = .ok (.ireturn, 1) := by decide +kernel
theorem d_R_readPerson_0 : decode b_R_readPerson 0 = .ok (.iload_n 0, 1) := by decide +kernel
theorem d_R_readPerson_1 : decode b_R_readPerson 1 = .ok (.getstatic 37, 3) := by decide +kernel
theorem d_R_readPerson_4 : decode b_R_readPerson 4 = .ok (.invokestatic 41, 3) := by decide +kernel
theorem d_R_readPerson_7 : decode b_R_readPerson 7 = .ok (.istore_n 2, 1) := by decide +kernel
theorem d_R_readPerson_8 : decode b_R_readPerson 8 = .ok (.iload_n 2, 1) := by decide +kernel
theorem d_R_readPerson_9 : decode b_R_readPerson 9 = .ok (.ifCond .lt 19, 3) := by decide +kernel
theorem d_R_readPerson_12 : decode b_R_readPerson 12 = .ok (.aload_n 1, 1) := by decide +kernel
theorem d_R_readPerson_13 : decode b_R_readPerson 13 = .ok (.getfield 45, 3) := by decide +kernel
theorem d_R_readPerson_16 : decode b_R_readPerson 16 = .ok (.ifCond .gt 12, 3) := by decide +kernel
theorem d_R_readPerson_19 : decode b_R_readPerson 19 = .ok (.aload_n 1, 1) := by decide +kernel
theorem d_R_readPerson_20 : decode b_R_readPerson 20 = .ok (.getfield 34, 3) := by decide +kernel
theorem d_R_readPerson_23 : decode b_R_readPerson 23 = .ok (.bipush 6, 2) := by decide +kernel
theorem d_R_readPerson_25 : decode b_R_readPerson 25 = .ok (.if_icmp .lt 5, 3) := by decide +kernel
theorem d_R_readPerson_28 : decode b_R_readPerson 28 = .ok (.iconst 0, 1) := by decide +kernel
theorem d_R_readPerson_29 : decode b_R_readPerson 29 = .ok (.ireturn, 1) := by decide +kernel
theorem d_R_readPerson_30 : decode b_R_readPerson 30 = .ok (.aload_n 1, 1) := by decide +kernel
theorem d_R_readPerson_31 : decode b_R_readPerson 31 = .ok (.iload_n 2, 1) := by decide +kernel
theorem d_R_readPerson_32 : decode b_R_readPerson 32 = .ok (.invokevirtual 48, 3) := by decide +kernel
theorem d_R_readPerson_35 : decode b_R_readPerson 35 = .ok (.iconst 1, 1) := by decide +kernel
theorem d_R_readPerson_36 : decode b_R_readPerson 36 = .ok (.ireturn, 1) := by decide +kernel
theorem d_R_signAt_0 : decode b_R_signAt 0 = .ok (.aload_n 0, 1) := by decide +kernel
theorem d_R_signAt_1 : decode b_R_signAt 1 = .ok (.iload_n 1, 1) := by decide +kernel
theorem d_R_signAt_2 : decode b_R_signAt 2 = .ok (.invokevirtual 67, 3) := by decide +kernel
theorem d_R_signAt_5 : decode b_R_signAt 5 = .ok (.ifCond .eq 12, 3) := by decide +kernel
theorem d_R_signAt_8 : decode b_R_signAt 8 = .ok (.aload_n 0, 1) := by decide +kernel
theorem d_R_signAt_9 : decode b_R_signAt 9 = .ok (.getfield 70, 3) := by decide +kernel
theorem d_R_signAt_12 : decode b_R_signAt 12 = .ok (.iload_n 1, 1) := by decide +kernel
theorem d_R_signAt_13 : decode b_R_signAt 13 = .ok (.iaload, 1) := by decide +kernel
theorem d_R_signAt_14 : decode b_R_signAt 14 = .ok (.goto 6, 3) := by decide +kernel
theorem d_R_signAt_17 : decode b_R_signAt 17 = .ok (.sipush (-1000), 3) := by decide +kernel
theorem d_R_signAt_20 : decode b_R_signAt 20 = .ok (.ireturn, 1) := by decide +kernel
theorem d_G_init_0 : decode b_G_init 0 = .ok (.aload_n 0, 1) := by decide +kernel
theorem d_G_init_1 : decode b_G_init 1 = .ok (.invokespecial 3, 3) := by decide +kernel
theorem d_G_init_4 : decode b_G_init 4 = .ok (.aload_n 0, 1) := by decide +kernel
theorem d_G_init_5 : decode b_G_init 5 = .ok (.iconst 0, 1) := by decide +kernel
theorem d_G_init_6 : decode b_G_init 6 = .ok (.putfield 9, 3) := by decide +kernel
theorem d_G_init_9 : decode b_G_init 9 = .ok (.aload_n 0, 1) := by decide +kernel
theorem d_G_init_10 : decode b_G_init 10 = .ok (.iconst 0, 1) := by decide +kernel
theorem d_G_init_11 : decode b_G_init 11 = .ok (.putfield 15, 3) := by decide +kernel
theorem d_G_init_14 : decode b_G_init 14 = .ok (.aload_n 0, 1) := by decide +kernel
theorem d_G_init_15 : decode b_G_init 15 = .ok (.iconst 0, 1) := by decide +kernel
theorem d_G_init_16 : decode b_G_init 16 = .ok (.putfield 18, 3) := by decide +kernel
theorem d_G_init_19 : decode b_G_init 19 = .ok (.aload_n 0, 1) := by decide +kernel
theorem d_G_init_20 : decode b_G_init 20 = .ok (.iconst 0, 1) := by decide +kernel
theorem d_G_init_21 : decode b_G_init 21 = .ok (.putfield 21, 3) := by decide +kernel
theorem d_G_init_24 : decode b_G_init 24 = .ok (.aload_n 0, 1) := by decide +kernel
theorem d_G_init_25 : decode b_G_init 25 = .ok (.bipush 6, 2) := by decide +kernel
theorem d_G_init_27 : decode b_G_init 27 = .ok (.newarray .int, 2) := by decide +kernel
theorem d_G_init_29 : decode b_G_init 29 = .ok (.putfield 24, 3) := by decide +kernel
theorem d_G_init_32 : decode b_G_init 32 = .ok (.aload_n 0, 1) := by decide +kernel
theorem d_G_init_33 : decode b_G_init 33 = .ok (.bipush 6, 2) := by decide +kernel
theorem d_G_init_35 : decode b_G_init 35 = .ok (.newarray .int, 2) := by decide +kernel
theorem d_G_init_37 : decode b_G_init 37 = .ok (.putfield 28, 3) := by decide +kernel
theorem d_G_init_40 : decode b_G_init 40 = .ok (.aload_n 0, 1) := by decide +kernel
theorem d_G_init_41 : decode b_G_init 41 = .ok (.bipush 6, 2) := by decide +kernel
theorem d_G_init_43 : decode b_G_init 43 = .ok (.newarray .int, 2) := by decide +kernel
theorem d_G_init_45 : decode b_G_init 45 = .ok (.putfield 31, 3) := by decide +kernel
theorem d_G_init_48 : decode b_G_init 48 = .ok (.return_, 1) := by decide +kernel
theorem d_G_extend_0 : decode b_G_extend 0 = .ok (.iload_n 2, 1) := by decide +kernel
theorem d_G_extend_1 : decode b_G_extend 1 = .ok (.iconst 1, 1) := by decide +kernel
theorem d_G_extend_2 : decode b_G_extend 2 = .ok (.if_icmp .lt 9, 3) := by decide +kernel
theorem d_G_extend_5 : decode b_G_extend 5 = .ok (.iload_n 2, 1) := by decide +kernel
theorem d_G_extend_6 : decode b_G_extend 6 = .ok (.bipush 6, 2) := by decide +kernel
theorem d_G_extend_8 : decode b_G_extend 8 = .ok (.if_icmp .le 4, 3) := by decide +kernel
theorem d_G_extend_11 : decode b_G_extend 11 = .ok (.return_, 1) := by decide +kernel
theorem d_G_extend_12 : decode b_G_extend 12 = .ok (.aload_n 1, 1) := by decide +kernel
theorem d_G_extend_13 : decode b_G_extend 13 = .ok (.getfield 39, 3) := by decide +kernel
theorem d_G_extend_16 : decode b_G_extend 16 = .ok (.aload_n 0, 1) := by decide +kernel
theorem d_G_extend_17 : decode b_G_extend 17 = .ok (.getfield 31, 3) := by decide +kernel
theorem d_G_extend_20 : decode b_G_extend 20 = .ok (.iconst 0, 1) := by decide +kernel
theorem d_G_extend_21 : decode b_G_extend 21 = .ok (.iaload, 1) := by decide +kernel
theorem d_G_extend_22 : decode b_G_extend 22 = .ok (.aaload, 1) := by decide +kernel
theorem d_G_extend_23 : decode b_G_extend 23 = .ok (.astore 5, 2) := by decide +kernel
theorem d_G_extend_25 : decode b_G_extend 25 = .ok (.aload_n 1, 1) := by decide +kernel
theorem d_G_extend_26 : decode b_G_extend 26 = .ok (.getfield 39, 3) := by decide +kernel
theorem d_G_extend_29 : decode b_G_extend 29 = .ok (.aload_n 0, 1) := by decide +kernel
theorem d_G_extend_30 : decode b_G_extend 30 = .ok (.getfield 31, 3) := by decide +kernel
theorem d_G_extend_33 : decode b_G_extend 33 = .ok (.iload_n 2, 1) := by decide +kernel
theorem d_G_extend_34 : decode b_G_extend 34 = .ok (.iconst 1, 1) := by decide +kernel
theorem d_G_extend_35 : decode b_G_extend 35 = .ok (.isub, 1) := by decide +kernel
theorem d_G_extend_36 : decode b_G_extend 36 = .ok (.iaload, 1) := by decide +kernel
theorem d_G_extend_37 : decode b_G_extend 37 = .ok (.aaload, 1) := by decide +kernel
theorem d_G_extend_38 : decode b_G_extend 38 = .ok (.getfield 59, 3) := by decide +kernel
theorem d_G_extend_41 : decode b_G_extend 41 = .ok (.istore 6, 2) := by decide +kernel
theorem d_G_extend_43 : decode b_G_extend 43 = .ok (.iload 6, 2) := by decide +kernel
theorem d_G_extend_45 : decode b_G_extend 45 = .ok (.aload 5, 2) := by decide +kernel
theorem d_G_extend_47 : decode b_G_extend 47 = .ok (.getfield 49, 3) := by decide +kernel
theorem d_G_extend_50 : decode b_G_extend 50 = .ok (.if_icmp .ne 12, 3) := by decide +kernel
theorem d_G_extend_53 : decode b_G_extend 53 = .ok (.aload_n 0, 1) := by decide +kernel
theorem d_G_extend_54 : decode b_G_extend 54 = .ok (.aload_n 1, 1) := by decide +kernel
theorem d_G_extend_55 : decode b_G_extend 55 = .ok (.iload_n 2, 1) := by decide +kernel
theorem d_G_extend_56 : decode b_G_extend 56 = .ok (.iload 4, 2) := by decide +kernel
theorem d_G_extend_58 : decode b_G_extend 58 = .ok (.invokevirtual 62, 3) := by decide +kernel
theorem d_G_extend_61 : decode b_G_extend 61 = .ok (.return_, 1) := by decide +kernel
theorem d_G_extend_62 : decode b_G_extend 62 = .ok (.iload_n 3, 1) := by decide +kernel
theorem d_G_extend_63 : decode b_G_extend 63 = .ok (.iconst 1, 1) := by decide +kernel
theorem d_G_extend_64 : decode b_G_extend 64 = .ok (.iload 6, 2) := by decide +kernel
theorem d_G_extend_66 : decode b_G_extend 66 = .ok (.ishl, 1) := by decide +kernel
theorem d_G_extend_67 : decode b_G_extend 67 = .ok (.iand, 1) := by decide +kernel
theorem d_G_extend_68 : decode b_G_extend 68 = .ok (.ifCond .ne 9, 3) := by decide +kernel
theorem d_G_extend_71 : decode b_G_extend 71 = .ok (.iload_n 2, 1) := by decide +kernel
theorem d_G_extend_72 : decode b_G_extend 72 = .ok (.bipush 6, 2) := by decide +kernel
theorem d_G_extend_74 : decode b_G_extend 74 = .ok (.if_icmp .ne 4, 3) := by decide +kernel
theorem d_G_extend_77 : decode b_G_extend 77 = .ok (.return_, 1) := by decide +kernel
theorem d_G_extend_78 : decode b_G_extend 78 = .ok (.aload_n 0, 1) := by decide +kernel
theorem d_G_extend_79 : decode b_G_extend 79 = .ok (.getfield 31, 3) := by decide +kernel
theorem d_G_extend_82 : decode b_G_extend 82 = .ok (.iconst 0, 1) := by decide +kernel
theorem d_G_extend_83 : decode b_G_extend 83 = .ok (.iaload, 1) := by decide +kernel
theorem d_G_extend_84 : decode b_G_extend 84 = .ok (.iconst 1, 1) := by decide +kernel
theorem d_G_extend_85 : decode b_G_extend 85 = .ok (.iadd, 1) := by decide +kernel
theorem d_G_extend_86 : decode b_G_extend 86 = .ok (.istore 7, 2) := by decide +kernel
theorem d_G_extend_88 : decode b_G_extend 88 = .ok (.iload 7, 2) := by decide +kernel
theorem d_G_extend_90 : decode b_G_extend 90 = .ok (.aload_n 1, 1) := by decide +kernel
theorem d_G_extend_91 : decode b_G_extend 91 = .ok (.getfield 34, 3) := by decide +kernel
theorem d_G_extend_94 : decode b_G_extend 94 = .ok (.if_icmp .ge 73, 3) := by decide +kernel
theorem d_G_extend_97 : decode b_G_extend 97 = .ok (.aload_n 1, 1) := by decide +kernel
theorem d_G_extend_98 : decode b_G_extend 98 = .ok (.getfield 39, 3) := by decide +kernel
theorem d_G_extend_101 : decode b_G_extend 101 = .ok (.iload 7, 2) := by decide +kernel
theorem d_G_extend_103 : decode b_G_extend 103 = .ok (.aaload, 1) := by decide +kernel
theorem d_G_extend_104 : decode b_G_extend 104 = .ok (.astore 8, 2) := by decide +kernel
theorem d_G_extend_106 : decode b_G_extend 106 = .ok (.aload 8, 2) := by decide +kernel
theorem d_G_extend_108 : decode b_G_extend 108 = .ok (.getfield 49, 3) := by decide +kernel
theorem d_G_extend_111 : decode b_G_extend 111 = .ok (.iload 6, 2) := by decide +kernel
theorem d_G_extend_113 : decode b_G_extend 113 = .ok (.if_icmp .ne 48, 3) := by decide +kernel
theorem d_G_extend_116 : decode b_G_extend 116 = .ok (.aload 8, 2) := by decide +kernel
theorem d_G_extend_118 : decode b_G_extend 118 = .ok (.aload 5, 2) := by decide +kernel
theorem d_G_extend_120 : decode b_G_extend 120 = .ok (.getfield 66, 3) := by decide +kernel
theorem d_G_extend_123 : decode b_G_extend 123 = .ok (.invokevirtual 43, 3) := by decide +kernel
theorem d_G_extend_126 : decode b_G_extend 126 = .ok (.ifCond .eq 35, 3) := by decide +kernel
theorem d_G_extend_129 : decode b_G_extend 129 = .ok (.aload_n 0, 1) := by decide +kernel
theorem d_G_extend_130 : decode b_G_extend 130 = .ok (.getfield 31, 3) := by decide +kernel
theorem d_G_extend_133 : decode b_G_extend 133 = .ok (.iload_n 2, 1) := by decide +kernel
theorem d_G_extend_134 : decode b_G_extend 134 = .ok (.iload 7, 2) := by decide +kernel
theorem d_G_extend_136 : decode b_G_extend 136 = .ok (.iastore, 1) := by decide +kernel
theorem d_G_extend_137 : decode b_G_extend 137 = .ok (.aload_n 0, 1) := by decide +kernel
theorem d_G_extend_138 : decode b_G_extend 138 = .ok (.aload_n 1, 1) := by decide +kernel
theorem d_G_extend_139 : decode b_G_extend 139 = .ok (.iload_n 2, 1) := by decide +kernel
theorem d_G_extend_140 : decode b_G_extend 140 = .ok (.iconst 1, 1) := by decide +kernel
theorem d_G_extend_141 : decode b_G_extend 141 = .ok (.iadd, 1) := by decide +kernel
theorem d_G_extend_142 : decode b_G_extend 142 = .ok (.iload_n 3, 1) := by decide +kernel
theorem d_G_extend_143 : decode b_G_extend 143 = .ok (.iconst 1, 1) := by decide +kernel
theorem d_G_extend_144 : decode b_G_extend 144 = .ok (.iload 6, 2) := by decide +kernel
theorem d_G_extend_146 : decode b_G_extend 146 = .ok (.ishl, 1) := by decide +kernel
theorem d_G_extend_147 : decode b_G_extend 147 = .ok (.ior, 1) := by decide +kernel
theorem d_G_extend_148 : decode b_G_extend 148 = .ok (.iload 4, 2) := by decide +kernel
theorem d_G_extend_150 : decode b_G_extend 150 = .ok (.aload 8, 2) := by decide +kernel
theorem d_G_extend_152 : decode b_G_extend 152 = .ok (.getfield 52, 3) := by decide +kernel
theorem d_G_extend_155 : decode b_G_extend 155 = .ok (.invokestatic 69, 3) := by decide +kernel
theorem d_G_extend_158 : decode b_G_extend 158 = .ok (.invokevirtual 55, 3) := by decide +kernel
theorem d_G_extend_161 : decode b_G_extend 161 = .ok (.iinc 7 1, 3) := by decide +kernel
theorem d_G_extend_164 : decode b_G_extend 164 = .ok (.goto (-76), 3) := by decide +kernel
theorem d_G_extend_167 : decode b_G_extend 167 = .ok (.return_, 1) := by decide +kernel
theorem d_G_search_0 : decode b_G_search 0 = .ok (.aload_n 0, 1) := by decide +kernel
theorem d_G_search_1 : decode b_G_search 1 = .ok (.iconst 0, 1) := by decide +kernel
theorem d_G_search_2 : decode b_G_search 2 = .ok (.putfield 9, 3) := by decide +kernel
theorem d_G_search_5 : decode b_G_search 5 = .ok (.aload_n 0, 1) := by decide +kernel
theorem d_G_search_6 : decode b_G_search 6 = .ok (.iconst 0, 1) := by decide +kernel
theorem d_G_search_7 : decode b_G_search 7 = .ok (.putfield 15, 3) := by decide +kernel
theorem d_G_search_10 : decode b_G_search 10 = .ok (.iconst 0, 1) := by decide +kernel
theorem d_G_search_11 : decode b_G_search 11 = .ok (.istore_n 3, 1) := by decide +kernel
theorem d_G_search_12 : decode b_G_search 12 = .ok (.iload_n 3, 1) := by decide +kernel
theorem d_G_search_13 : decode b_G_search 13 = .ok (.bipush 6, 2) := by decide +kernel
theorem d_G_search_15 : decode b_G_search 15 = .ok (.if_icmp .ge 16, 3) := by decide +kernel
theorem d_G_search_18 : decode b_G_search 18 = .ok (.aload_n 0, 1) := by decide +kernel
theorem d_G_search_19 : decode b_G_search 19 = .ok (.getfield 28, 3) := by decide +kernel
theorem d_G_search_22 : decode b_G_search 22 = .ok (.iload_n 3, 1) := by decide +kernel
theorem d_G_search_23 : decode b_G_search 23 = .ok (.iconst 0, 1) := by decide +kernel
theorem d_G_search_24 : decode b_G_search 24 = .ok (.iastore, 1) := by decide +kernel
theorem d_G_search_25 : decode b_G_search 25 = .ok (.iinc 3 1, 3) := by decide +kernel
theorem d_G_search_28 : decode b_G_search 28 = .ok (.goto (-16), 3) := by decide +kernel
theorem d_G_search_31 : decode b_G_search 31 = .ok (.iconst 0, 1) := by decide +kernel
theorem d_G_search_32 : decode b_G_search 32 = .ok (.istore_n 3, 1) := by decide +kernel
theorem d_G_search_33 : decode b_G_search 33 = .ok (.iload_n 3, 1) := by decide +kernel
theorem d_G_search_34 : decode b_G_search 34 = .ok (.aload_n 1, 1) := by decide +kernel
theorem d_G_search_35 : decode b_G_search 35 = .ok (.getfield 34, 3) := by decide +kernel
theorem d_G_search_38 : decode b_G_search 38 = .ok (.if_icmp .ge 51, 3) := by decide +kernel
theorem d_G_search_41 : decode b_G_search 41 = .ok (.aload_n 1, 1) := by decide +kernel
theorem d_G_search_42 : decode b_G_search 42 = .ok (.getfield 39, 3) := by decide +kernel
theorem d_G_search_45 : decode b_G_search 45 = .ok (.iload_n 3, 1) := by decide +kernel
theorem d_G_search_46 : decode b_G_search 46 = .ok (.aaload, 1) := by decide +kernel
theorem d_G_search_47 : decode b_G_search 47 = .ok (.astore 4, 2) := by decide +kernel
theorem d_G_search_49 : decode b_G_search 49 = .ok (.aload 4, 2) := by decide +kernel
theorem d_G_search_51 : decode b_G_search 51 = .ok (.iload_n 2, 1) := by decide +kernel
theorem d_G_search_52 : decode b_G_search 52 = .ok (.invokevirtual 43, 3) := by decide +kernel
theorem d_G_search_55 : decode b_G_search 55 = .ok (.ifCond .eq 28, 3) := by decide +kernel
theorem d_G_search_58 : decode b_G_search 58 = .ok (.aload_n 0, 1) := by decide +kernel
theorem d_G_search_59 : decode b_G_search 59 = .ok (.getfield 31, 3) := by decide +kernel
theorem d_G_search_62 : decode b_G_search 62 = .ok (.iconst 0, 1) := by decide +kernel
theorem d_G_search_63 : decode b_G_search 63 = .ok (.iload_n 3, 1) := by decide +kernel
theorem d_G_search_64 : decode b_G_search 64 = .ok (.iastore, 1) := by decide +kernel
theorem d_G_search_65 : decode b_G_search 65 = .ok (.aload_n 0, 1) := by decide +kernel
theorem d_G_search_66 : decode b_G_search 66 = .ok (.aload_n 1, 1) := by decide +kernel
theorem d_G_search_67 : decode b_G_search 67 = .ok (.iconst 1, 1) := by decide +kernel
theorem d_G_search_68 : decode b_G_search 68 = .ok (.iconst 1, 1) := by decide +kernel
theorem d_G_search_69 : decode b_G_search 69 = .ok (.aload 4, 2) := by decide +kernel
theorem d_G_search_71 : decode b_G_search 71 = .ok (.getfield 49, 3) := by decide +kernel
theorem d_G_search_74 : decode b_G_search 74 = .ok (.ishl, 1) := by decide +kernel
theorem d_G_search_75 : decode b_G_search 75 = .ok (.aload 4, 2) := by decide +kernel
theorem d_G_search_77 : decode b_G_search 77 = .ok (.getfield 52, 3) := by decide +kernel
theorem d_G_search_80 : decode b_G_search 80 = .ok (.invokevirtual 55, 3) := by decide +kernel
theorem d_G_search_83 : decode b_G_search 83 = .ok (.iinc 3 1, 3) := by decide +kernel
theorem d_G_search_86 : decode b_G_search 86 = .ok (.goto (-53), 3) := by decide +kernel
theorem d_G_search_89 : decode b_G_search 89 = .ok (.return_, 1) := by decide +kernel
theorem d_G_takeRing_0 : decode b_G_takeRing 0 = .ok (.iload_n 2, 1) := by decide +kernel
theorem d_G_takeRing_1 : decode b_G_takeRing 1 = .ok (.iconst 3, 1) := by decide +kernel
theorem d_G_takeRing_2 : decode b_G_takeRing 2 = .ok (.if_icmp .ge 4, 3) := by decide +kernel
theorem d_G_takeRing_5 : decode b_G_takeRing 5 = .ok (.return_, 1) := by decide +kernel
theorem d_G_takeRing_6 : decode b_G_takeRing 6 = .ok (.aload_n 0, 1) := by decide +kernel
theorem d_G_takeRing_7 : decode b_G_takeRing 7 = .ok (.dup, 1) := by decide +kernel
theorem d_G_takeRing_8 : decode b_G_takeRing 8 = .ok (.getfield 9, 3) := by decide +kernel
theorem d_G_takeRing_11 : decode b_G_takeRing 11 = .ok (.iconst 1, 1) := by decide +kernel
theorem d_G_takeRing_12 : decode b_G_takeRing 12 = .ok (.iadd, 1) := by decide +kernel
theorem d_G_takeRing_13 : decode b_G_takeRing 13 = .ok (.putfield 9, 3) := by decide +kernel
theorem d_G_takeRing_16 : decode b_G_takeRing 16 = .ok (.iconst 0, 1) := by decide +kernel
theorem d_G_takeRing_17 : decode b_G_takeRing 17 = .ok (.istore 4, 2) := by decide +kernel
theorem d_G_takeRing_19 : decode b_G_takeRing 19 = .ok (.iload 4, 2) := by decide +kernel
theorem d_G_takeRing_21 : decode b_G_takeRing 21 = .ok (.iload_n 2, 1) := by decide +kernel
theorem d_G_takeRing_22 : decode b_G_takeRing 22 = .ok (.if_icmp .ge 33, 3) := by decide +kernel
theorem d_G_takeRing_25 : decode b_G_takeRing 25 = .ok (.aload_n 0, 1) := by decide +kernel
theorem d_G_takeRing_26 : decode b_G_takeRing 26 = .ok (.getfield 28, 3) := by decide +kernel
theorem d_G_takeRing_29 : decode b_G_takeRing 29 = .ok (.aload_n 1, 1) := by decide +kernel
theorem d_G_takeRing_30 : decode b_G_takeRing 30 = .ok (.getfield 39, 3) := by decide +kernel
theorem d_G_takeRing_33 : decode b_G_takeRing 33 = .ok (.aload_n 0, 1) := by decide +kernel
theorem d_G_takeRing_34 : decode b_G_takeRing 34 = .ok (.getfield 31, 3) := by decide +kernel
theorem d_G_takeRing_37 : decode b_G_takeRing 37 = .ok (.iload 4, 2) := by decide +kernel
theorem d_G_takeRing_39 : decode b_G_takeRing 39 = .ok (.iaload, 1) := by decide +kernel
theorem d_G_takeRing_40 : decode b_G_takeRing 40 = .ok (.aaload, 1) := by decide +kernel
theorem d_G_takeRing_41 : decode b_G_takeRing 41 = .ok (.getfield 49, 3) := by decide +kernel
theorem d_G_takeRing_44 : decode b_G_takeRing 44 = .ok (.dup2, 1) := by decide +kernel
theorem d_G_takeRing_45 : decode b_G_takeRing 45 = .ok (.iaload, 1) := by decide +kernel
theorem d_G_takeRing_46 : decode b_G_takeRing 46 = .ok (.iconst 1, 1) := by decide +kernel
theorem d_G_takeRing_47 : decode b_G_takeRing 47 = .ok (.iadd, 1) := by decide +kernel
theorem d_G_takeRing_48 : decode b_G_takeRing 48 = .ok (.iastore, 1) := by decide +kernel
theorem d_G_takeRing_49 : decode b_G_takeRing 49 = .ok (.iinc 4 1, 3) := by decide +kernel
theorem d_G_takeRing_52 : decode b_G_takeRing 52 = .ok (.goto (-33), 3) := by decide +kernel
theorem d_G_takeRing_55 : decode b_G_takeRing 55 = .ok (.iload_n 3, 1) := by decide +kernel
theorem d_G_takeRing_56 : decode b_G_takeRing 56 = .ok (.iload_n 2, 1) := by decide +kernel
theorem d_G_takeRing_57 : decode b_G_takeRing 57 = .ok (.imul, 1) := by decide +kernel
theorem d_G_takeRing_58 : decode b_G_takeRing 58 = .ok (.aload_n 0, 1) := by decide +kernel
theorem d_G_takeRing_59 : decode b_G_takeRing 59 = .ok (.getfield 15, 3) := by decide +kernel
theorem d_G_takeRing_62 : decode b_G_takeRing 62 = .ok (.if_icmp .le 34, 3) := by decide +kernel
theorem d_G_takeRing_65 : decode b_G_takeRing 65 = .ok (.aload_n 0, 1) := by decide +kernel
theorem d_G_takeRing_66 : decode b_G_takeRing 66 = .ok (.iload_n 3, 1) := by decide +kernel
theorem d_G_takeRing_67 : decode b_G_takeRing 67 = .ok (.iload_n 2, 1) := by decide +kernel
theorem d_G_takeRing_68 : decode b_G_takeRing 68 = .ok (.imul, 1) := by decide +kernel
theorem d_G_takeRing_69 : decode b_G_takeRing 69 = .ok (.putfield 15, 3) := by decide +kernel
theorem d_G_takeRing_72 : decode b_G_takeRing 72 = .ok (.aload_n 0, 1) := by decide +kernel
theorem d_G_takeRing_73 : decode b_G_takeRing 73 = .ok (.iload_n 3, 1) := by decide +kernel
theorem d_G_takeRing_74 : decode b_G_takeRing 74 = .ok (.putfield 18, 3) := by decide +kernel
theorem d_G_takeRing_77 : decode b_G_takeRing 77 = .ok (.aload_n 0, 1) := by decide +kernel
theorem d_G_takeRing_78 : decode b_G_takeRing 78 = .ok (.iload_n 2, 1) := by decide +kernel
theorem d_G_takeRing_79 : decode b_G_takeRing 79 = .ok (.putfield 21, 3) := by decide +kernel
theorem d_G_takeRing_82 : decode b_G_takeRing 82 = .ok (.aload_n 0, 1) := by decide +kernel
theorem d_G_takeRing_83 : decode b_G_takeRing 83 = .ok (.getfield 31, 3) := by decide +kernel
theorem d_G_takeRing_86 : decode b_G_takeRing 86 = .ok (.iconst 0, 1) := by decide +kernel
theorem d_G_takeRing_87 : decode b_G_takeRing 87 = .ok (.aload_n 0, 1) := by decide +kernel
theorem d_G_takeRing_88 : decode b_G_takeRing 88 = .ok (.getfield 24, 3) := by decide +kernel
theorem d_G_takeRing_91 : decode b_G_takeRing 91 = .ok (.iconst 0, 1) := by decide +kernel
theorem d_G_takeRing_92 : decode b_G_takeRing 92 = .ok (.iload_n 2, 1) := by decide +kernel
theorem d_G_takeRing_93 : decode b_G_takeRing 93 = .ok (.invokestatic 75, 3) := by decide +kernel
theorem d_G_takeRing_96 : decode b_G_takeRing 96 = .ok (.return_, 1) := by decide +kernel
theorem d_O_init_0 : decode b_O_init 0 = .ok (.aload_n 0, 1) := by decide +kernel
theorem d_O_init_1 : decode b_O_init 1 = .ok (.invokespecial 3, 3) := by decide +kernel
theorem d_O_init_4 : decode b_O_init 4 = .ok (.aload_n 0, 1) := by decide +kernel
theorem d_O_init_5 : decode b_O_init 5 = .ok (.iconst 0, 1) := by decide +kernel
theorem d_O_init_6 : decode b_O_init 6 = .ok (.putfield 9, 3) := by decide +kernel
theorem d_O_init_9 : decode b_O_init 9 = .ok (.aload_n 0, 1) := by decide +kernel
theorem d_O_init_10 : decode b_O_init 10 = .ok (.bipush 15, 2) := by decide +kernel
theorem d_O_init_12 : decode b_O_init 12 = .ok (.newarray .int, 2) := by decide +kernel
theorem d_O_init_14 : decode b_O_init 14 = .ok (.putfield 15, 3) := by decide +kernel
theorem d_O_init_17 : decode b_O_init 17 = .ok (.aload_n 0, 1) := by decide +kernel
theorem d_O_init_18 : decode b_O_init 18 = .ok (.bipush 15, 2) := by decide +kernel
theorem d_O_init_20 : decode b_O_init 20 = .ok (.newarray .int, 2) := by decide +kernel
theorem d_O_init_22 : decode b_O_init 22 = .ok (.putfield 19, 3) := by decide +kernel
theorem d_O_init_25 : decode b_O_init 25 = .ok (.aload_n 0, 1) := by decide +kernel
theorem d_O_init_26 : decode b_O_init 26 = .ok (.bipush 6, 2) := by decide +kernel
theorem d_O_init_28 : decode b_O_init 28 = .ok (.newarray .int, 2) := by decide +kernel
theorem d_O_init_30 : decode b_O_init 30 = .ok (.putfield 22, 3) := by decide +kernel
theorem d_O_init_33 : decode b_O_init 33 = .ok (.return_, 1) := by decide +kernel
theorem d_O_fewest_0 : decode b_O_fewest 0 = .ok (.aload_n 0, 1) := by decide +kernel
theorem d_O_fewest_1 : decode b_O_fewest 1 = .ok (.invokevirtual 34, 3) := by decide +kernel
theorem d_O_fewest_4 : decode b_O_fewest 4 = .ok (.istore_n 1, 1) := by decide +kernel
theorem d_O_fewest_5 : decode b_O_fewest 5 = .ok (.iload_n 1, 1) := by decide +kernel
theorem d_O_fewest_6 : decode b_O_fewest 6 = .ok (.aload_n 0, 1) := by decide +kernel
theorem d_O_fewest_7 : decode b_O_fewest 7 = .ok (.getfield 9, 3) := by decide +kernel
theorem d_O_fewest_10 : decode b_O_fewest 10 = .ok (.if_icmp .ge 42, 3) := by decide +kernel
theorem d_O_fewest_13 : decode b_O_fewest 13 = .ok (.iconst 0, 1) := by decide +kernel
theorem d_O_fewest_14 : decode b_O_fewest 14 = .ok (.istore_n 2, 1) := by decide +kernel
theorem d_O_fewest_15 : decode b_O_fewest 15 = .ok (.iload_n 2, 1) := by decide +kernel
theorem d_O_fewest_16 : decode b_O_fewest 16 = .ok (.bipush 6, 2) := by decide +kernel
theorem d_O_fewest_18 : decode b_O_fewest 18 = .ok (.if_icmp .ge 16, 3) := by decide +kernel
theorem d_O_fewest_21 : decode b_O_fewest 21 = .ok (.aload_n 0, 1) := by decide +kernel
theorem d_O_fewest_22 : decode b_O_fewest 22 = .ok (.getfield 22, 3) := by decide +kernel
theorem d_O_fewest_25 : decode b_O_fewest 25 = .ok (.iload_n 2, 1) := by decide +kernel
theorem d_O_fewest_26 : decode b_O_fewest 26 = .ok (.iconst 0, 1) := by decide +kernel
theorem d_O_fewest_27 : decode b_O_fewest 27 = .ok (.iastore, 1) := by decide +kernel
theorem d_O_fewest_28 : decode b_O_fewest 28 = .ok (.iinc 2 1, 3) := by decide +kernel
theorem d_O_fewest_31 : decode b_O_fewest 31 = .ok (.goto (-16), 3) := by decide +kernel
theorem d_O_fewest_34 : decode b_O_fewest 34 = .ok (.aload_n 0, 1) := by decide +kernel
theorem d_O_fewest_35 : decode b_O_fewest 35 = .ok (.iconst 0, 1) := by decide +kernel
theorem d_O_fewest_36 : decode b_O_fewest 36 = .ok (.iload_n 1, 1) := by decide +kernel
theorem d_O_fewest_37 : decode b_O_fewest 37 = .ok (.iconst 0, 1) := by decide +kernel
theorem d_O_fewest_38 : decode b_O_fewest 38 = .ok (.invokevirtual 38, 3) := by decide +kernel
theorem d_O_fewest_41 : decode b_O_fewest 41 = .ok (.ifCond .eq 5, 3) := by decide +kernel
theorem d_O_fewest_44 : decode b_O_fewest 44 = .ok (.iload_n 1, 1) := by decide +kernel
theorem d_O_fewest_45 : decode b_O_fewest 45 = .ok (.ireturn, 1) := by decide +kernel
theorem d_O_fewest_46 : decode b_O_fewest 46 = .ok (.iinc 1 1, 3) := by decide +kernel
theorem d_O_fewest_49 : decode b_O_fewest 49 = .ok (.goto (-44), 3) := by decide +kernel
theorem d_O_fewest_52 : decode b_O_fewest 52 = .ok (.aload_n 0, 1) := by decide +kernel
theorem d_O_fewest_53 : decode b_O_fewest 53 = .ok (.getfield 9, 3) := by decide +kernel
theorem d_O_fewest_56 : decode b_O_fewest 56 = .ok (.ireturn, 1) := by decide +kernel
theorem d_O_fit_0 : decode b_O_fit 0 = .ok (.iload_n 1, 1) := by decide +kernel
theorem d_O_fit_1 : decode b_O_fit 1 = .ok (.ifCond .lt 11, 3) := by decide +kernel
theorem d_O_fit_4 : decode b_O_fit 4 = .ok (.iload_n 1, 1) := by decide +kernel
theorem d_O_fit_5 : decode b_O_fit 5 = .ok (.aload_n 0, 1) := by decide +kernel
theorem d_O_fit_6 : decode b_O_fit 6 = .ok (.getfield 9, 3) := by decide +kernel
theorem d_O_fit_9 : decode b_O_fit 9 = .ok (.if_icmp .lt 5, 3) := by decide +kernel
theorem d_O_fit_12 : decode b_O_fit 12 = .ok (.iconst 1, 1) := by decide +kernel
theorem d_O_fit_13 : decode b_O_fit 13 = .ok (.ireturn, 1) := by decide +kernel
theorem d_O_fit_14 : decode b_O_fit 14 = .ok (.aload_n 0, 1) := by decide +kernel
theorem d_O_fit_15 : decode b_O_fit 15 = .ok (.getfield 15, 3) := by decide +kernel
theorem d_O_fit_18 : decode b_O_fit 18 = .ok (.iload_n 1, 1) := by decide +kernel
theorem d_O_fit_19 : decode b_O_fit 19 = .ok (.iaload, 1) := by decide +kernel
theorem d_O_fit_20 : decode b_O_fit 20 = .ok (.istore 4, 2) := by decide +kernel
theorem d_O_fit_22 : decode b_O_fit 22 = .ok (.aload_n 0, 1) := by decide +kernel
theorem d_O_fit_23 : decode b_O_fit 23 = .ok (.getfield 19, 3) := by decide +kernel
theorem d_O_fit_26 : decode b_O_fit 26 = .ok (.iload_n 1, 1) := by decide +kernel
theorem d_O_fit_27 : decode b_O_fit 27 = .ok (.iaload, 1) := by decide +kernel
theorem d_O_fit_28 : decode b_O_fit 28 = .ok (.istore 5, 2) := by decide +kernel
theorem d_O_fit_30 : decode b_O_fit 30 = .ok (.iconst 0, 1) := by decide +kernel
theorem d_O_fit_31 : decode b_O_fit 31 = .ok (.istore 6, 2) := by decide +kernel
theorem d_O_fit_33 : decode b_O_fit 33 = .ok (.iload 6, 2) := by decide +kernel
theorem d_O_fit_35 : decode b_O_fit 35 = .ok (.iload_n 2, 1) := by decide +kernel
theorem d_O_fit_36 : decode b_O_fit 36 = .ok (.if_icmp .ge 115, 3) := by decide +kernel
theorem d_O_fit_39 : decode b_O_fit 39 = .ok (.iload 6, 2) := by decide +kernel
theorem d_O_fit_41 : decode b_O_fit 41 = .ok (.iload_n 3, 1) := by decide +kernel
theorem d_O_fit_42 : decode b_O_fit 42 = .ok (.if_icmp .gt 109, 3) := by decide +kernel
theorem d_O_fit_45 : decode b_O_fit 45 = .ok (.iconst 1, 1) := by decide +kernel
theorem d_O_fit_46 : decode b_O_fit 46 = .ok (.iload 6, 2) := by decide +kernel
theorem d_O_fit_48 : decode b_O_fit 48 = .ok (.ishl, 1) := by decide +kernel
theorem d_O_fit_49 : decode b_O_fit 49 = .ok (.istore 7, 2) := by decide +kernel
theorem d_O_fit_51 : decode b_O_fit 51 = .ok (.aload_n 0, 1) := by decide +kernel
theorem d_O_fit_52 : decode b_O_fit 52 = .ok (.getfield 22, 3) := by decide +kernel
theorem d_O_fit_55 : decode b_O_fit 55 = .ok (.iload 4, 2) := by decide +kernel
theorem d_O_fit_57 : decode b_O_fit 57 = .ok (.iaload, 1) := by decide +kernel
theorem d_O_fit_58 : decode b_O_fit 58 = .ok (.aload_n 0, 1) := by decide +kernel
theorem d_O_fit_59 : decode b_O_fit 59 = .ok (.getfield 22, 3) := by decide +kernel
theorem d_O_fit_62 : decode b_O_fit 62 = .ok (.iload 5, 2) := by decide +kernel
theorem d_O_fit_64 : decode b_O_fit 64 = .ok (.iaload, 1) := by decide +kernel
theorem d_O_fit_65 : decode b_O_fit 65 = .ok (.ior, 1) := by decide +kernel
theorem d_O_fit_66 : decode b_O_fit 66 = .ok (.iload 7, 2) := by decide +kernel
theorem d_O_fit_68 : decode b_O_fit 68 = .ok (.iand, 1) := by decide +kernel
theorem d_O_fit_69 : decode b_O_fit 69 = .ok (.ifCond .ne 76, 3) := by decide +kernel
theorem d_O_fit_72 : decode b_O_fit 72 = .ok (.aload_n 0, 1) := by decide +kernel
theorem d_O_fit_73 : decode b_O_fit 73 = .ok (.getfield 22, 3) := by decide +kernel
theorem d_O_fit_76 : decode b_O_fit 76 = .ok (.iload 4, 2) := by decide +kernel
theorem d_O_fit_78 : decode b_O_fit 78 = .ok (.dup2, 1) := by decide +kernel
theorem d_O_fit_79 : decode b_O_fit 79 = .ok (.iaload, 1) := by decide +kernel
theorem d_O_fit_80 : decode b_O_fit 80 = .ok (.iload 7, 2) := by decide +kernel
theorem d_O_fit_82 : decode b_O_fit 82 = .ok (.ior, 1) := by decide +kernel
theorem d_O_fit_83 : decode b_O_fit 83 = .ok (.iastore, 1) := by decide +kernel
theorem d_O_fit_84 : decode b_O_fit 84 = .ok (.aload_n 0, 1) := by decide +kernel
theorem d_O_fit_85 : decode b_O_fit 85 = .ok (.getfield 22, 3) := by decide +kernel
theorem d_O_fit_88 : decode b_O_fit 88 = .ok (.iload 5, 2) := by decide +kernel
theorem d_O_fit_90 : decode b_O_fit 90 = .ok (.dup2, 1) := by decide +kernel
theorem d_O_fit_91 : decode b_O_fit 91 = .ok (.iaload, 1) := by decide +kernel
theorem d_O_fit_92 : decode b_O_fit 92 = .ok (.iload 7, 2) := by decide +kernel
theorem d_O_fit_94 : decode b_O_fit 94 = .ok (.ior, 1) := by decide +kernel
theorem d_O_fit_95 : decode b_O_fit 95 = .ok (.iastore, 1) := by decide +kernel
theorem d_O_fit_96 : decode b_O_fit 96 = .ok (.aload_n 0, 1) := by decide +kernel
theorem d_O_fit_97 : decode b_O_fit 97 = .ok (.iload_n 1, 1) := by decide +kernel
theorem d_O_fit_98 : decode b_O_fit 98 = .ok (.iconst 1, 1) := by decide +kernel
theorem d_O_fit_99 : decode b_O_fit 99 = .ok (.iadd, 1) := by decide +kernel
theorem d_O_fit_100 : decode b_O_fit 100 = .ok (.iload_n 2, 1) := by decide +kernel
theorem d_O_fit_101 : decode b_O_fit 101 = .ok (.iload_n 3, 1) := by decide +kernel
theorem d_O_fit_102 : decode b_O_fit 102 = .ok (.iload 6, 2) := by decide +kernel
theorem d_O_fit_104 : decode b_O_fit 104 = .ok (.iconst 1, 1) := by decide +kernel
theorem d_O_fit_105 : decode b_O_fit 105 = .ok (.iadd, 1) := by decide +kernel
theorem d_O_fit_106 : decode b_O_fit 106 = .ok (.invokestatic 42, 3) := by decide +kernel
theorem d_O_fit_109 : decode b_O_fit 109 = .ok (.invokevirtual 38, 3) := by decide +kernel
theorem d_O_fit_112 : decode b_O_fit 112 = .ok (.ifCond .eq 5, 3) := by decide +kernel
theorem d_O_fit_115 : decode b_O_fit 115 = .ok (.iconst 1, 1) := by decide +kernel
theorem d_O_fit_116 : decode b_O_fit 116 = .ok (.ireturn, 1) := by decide +kernel
theorem d_O_fit_117 : decode b_O_fit 117 = .ok (.aload_n 0, 1) := by decide +kernel
theorem d_O_fit_118 : decode b_O_fit 118 = .ok (.getfield 22, 3) := by decide +kernel
theorem d_O_fit_121 : decode b_O_fit 121 = .ok (.iload 4, 2) := by decide +kernel
theorem d_O_fit_123 : decode b_O_fit 123 = .ok (.dup2, 1) := by decide +kernel
theorem d_O_fit_124 : decode b_O_fit 124 = .ok (.iaload, 1) := by decide +kernel
theorem d_O_fit_125 : decode b_O_fit 125 = .ok (.iload 7, 2) := by decide +kernel
theorem d_O_fit_127 : decode b_O_fit 127 = .ok (.iconst (-1), 1) := by decide +kernel
theorem d_O_fit_128 : decode b_O_fit 128 = .ok (.ixor, 1) := by decide +kernel
theorem d_O_fit_129 : decode b_O_fit 129 = .ok (.iand, 1) := by decide +kernel
theorem d_O_fit_130 : decode b_O_fit 130 = .ok (.iastore, 1) := by decide +kernel
theorem d_O_fit_131 : decode b_O_fit 131 = .ok (.aload_n 0, 1) := by decide +kernel
theorem d_O_fit_132 : decode b_O_fit 132 = .ok (.getfield 22, 3) := by decide +kernel
theorem d_O_fit_135 : decode b_O_fit 135 = .ok (.iload 5, 2) := by decide +kernel
theorem d_O_fit_137 : decode b_O_fit 137 = .ok (.dup2, 1) := by decide +kernel
theorem d_O_fit_138 : decode b_O_fit 138 = .ok (.iaload, 1) := by decide +kernel
theorem d_O_fit_139 : decode b_O_fit 139 = .ok (.iload 7, 2) := by decide +kernel
theorem d_O_fit_141 : decode b_O_fit 141 = .ok (.iconst (-1), 1) := by decide +kernel
theorem d_O_fit_142 : decode b_O_fit 142 = .ok (.ixor, 1) := by decide +kernel
theorem d_O_fit_143 : decode b_O_fit 143 = .ok (.iand, 1) := by decide +kernel
theorem d_O_fit_144 : decode b_O_fit 144 = .ok (.iastore, 1) := by decide +kernel
theorem d_O_fit_145 : decode b_O_fit 145 = .ok (.iinc 6 1, 3) := by decide +kernel
theorem d_O_fit_148 : decode b_O_fit 148 = .ok (.goto (-115), 3) := by decide +kernel
theorem d_O_fit_151 : decode b_O_fit 151 = .ok (.iconst 0, 1) := by decide +kernel
theorem d_O_fit_152 : decode b_O_fit 152 = .ok (.ireturn, 1) := by decide +kernel
theorem d_O_gather_0 : decode b_O_gather 0 = .ok (.aload_n 0, 1) := by decide +kernel
theorem d_O_gather_1 : decode b_O_gather 1 = .ok (.iconst 0, 1) := by decide +kernel
theorem d_O_gather_2 : decode b_O_gather 2 = .ok (.putfield 9, 3) := by decide +kernel
theorem d_O_gather_5 : decode b_O_gather 5 = .ok (.iconst 0, 1) := by decide +kernel
theorem d_O_gather_6 : decode b_O_gather 6 = .ok (.istore_n 2, 1) := by decide +kernel
theorem d_O_gather_7 : decode b_O_gather 7 = .ok (.iload_n 2, 1) := by decide +kernel
theorem d_O_gather_8 : decode b_O_gather 8 = .ok (.aload_n 1, 1) := by decide +kernel
theorem d_O_gather_9 : decode b_O_gather 9 = .ok (.getfield 25, 3) := by decide +kernel
theorem d_O_gather_12 : decode b_O_gather 12 = .ok (.if_icmp .ge 113, 3) := by decide +kernel
theorem d_O_gather_15 : decode b_O_gather 15 = .ok (.aload_n 1, 1) := by decide +kernel
theorem d_O_gather_16 : decode b_O_gather 16 = .ok (.iconst 1, 1) := by decide +kernel
theorem d_O_gather_17 : decode b_O_gather 17 = .ok (.iload_n 2, 1) := by decide +kernel
theorem d_O_gather_18 : decode b_O_gather 18 = .ok (.ishl, 1) := by decide +kernel
theorem d_O_gather_19 : decode b_O_gather 19 = .ok (.invokevirtual 30, 3) := by decide +kernel
theorem d_O_gather_22 : decode b_O_gather 22 = .ok (.istore_n 3, 1) := by decide +kernel
theorem d_O_gather_23 : decode b_O_gather 23 = .ok (.iload_n 2, 1) := by decide +kernel
theorem d_O_gather_24 : decode b_O_gather 24 = .ok (.iconst 1, 1) := by decide +kernel
theorem d_O_gather_25 : decode b_O_gather 25 = .ok (.iadd, 1) := by decide +kernel
theorem d_O_gather_26 : decode b_O_gather 26 = .ok (.istore 4, 2) := by decide +kernel
theorem d_O_gather_28 : decode b_O_gather 28 = .ok (.iload 4, 2) := by decide +kernel
theorem d_O_gather_30 : decode b_O_gather 30 = .ok (.aload_n 1, 1) := by decide +kernel
theorem d_O_gather_31 : decode b_O_gather 31 = .ok (.getfield 25, 3) := by decide +kernel
theorem d_O_gather_34 : decode b_O_gather 34 = .ok (.if_icmp .ge 85, 3) := by decide +kernel
theorem d_O_gather_37 : decode b_O_gather 37 = .ok (.iload_n 3, 1) := by decide +kernel
theorem d_O_gather_38 : decode b_O_gather 38 = .ok (.iconst 1, 1) := by decide +kernel
theorem d_O_gather_39 : decode b_O_gather 39 = .ok (.iload 4, 2) := by decide +kernel
theorem d_O_gather_41 : decode b_O_gather 41 = .ok (.ishl, 1) := by decide +kernel
theorem d_O_gather_42 : decode b_O_gather 42 = .ok (.iand, 1) := by decide +kernel
theorem d_O_gather_43 : decode b_O_gather 43 = .ok (.ifCond .ne 18, 3) := by decide +kernel
theorem d_O_gather_46 : decode b_O_gather 46 = .ok (.aload_n 1, 1) := by decide +kernel
theorem d_O_gather_47 : decode b_O_gather 47 = .ok (.iconst 1, 1) := by decide +kernel
theorem d_O_gather_48 : decode b_O_gather 48 = .ok (.iload 4, 2) := by decide +kernel
theorem d_O_gather_50 : decode b_O_gather 50 = .ok (.ishl, 1) := by decide +kernel
theorem d_O_gather_51 : decode b_O_gather 51 = .ok (.invokevirtual 30, 3) := by decide +kernel
theorem d_O_gather_54 : decode b_O_gather 54 = .ok (.iconst 1, 1) := by decide +kernel
theorem d_O_gather_55 : decode b_O_gather 55 = .ok (.iload_n 2, 1) := by decide +kernel
theorem d_O_gather_56 : decode b_O_gather 56 = .ok (.ishl, 1) := by decide +kernel
theorem d_O_gather_57 : decode b_O_gather 57 = .ok (.iand, 1) := by decide +kernel
theorem d_O_gather_58 : decode b_O_gather 58 = .ok (.ifCond .eq 7, 3) := by decide +kernel
theorem d_O_gather_61 : decode b_O_gather 61 = .ok (.iconst 1, 1) := by decide +kernel
theorem d_O_gather_62 : decode b_O_gather 62 = .ok (.goto 4, 3) := by decide +kernel
theorem d_O_gather_65 : decode b_O_gather 65 = .ok (.iconst 0, 1) := by decide +kernel
theorem d_O_gather_66 : decode b_O_gather 66 = .ok (.istore 5, 2) := by decide +kernel
theorem d_O_gather_68 : decode b_O_gather 68 = .ok (.iload 5, 2) := by decide +kernel
theorem d_O_gather_70 : decode b_O_gather 70 = .ok (.ifCond .eq 43, 3) := by decide +kernel
theorem d_O_gather_73 : decode b_O_gather 73 = .ok (.aload_n 0, 1) := by decide +kernel
theorem d_O_gather_74 : decode b_O_gather 74 = .ok (.getfield 9, 3) := by decide +kernel
theorem d_O_gather_77 : decode b_O_gather 77 = .ok (.bipush 15, 2) := by decide +kernel
theorem d_O_gather_79 : decode b_O_gather 79 = .ok (.if_icmp .ge 34, 3) := by decide +kernel
theorem d_O_gather_82 : decode b_O_gather 82 = .ok (.aload_n 0, 1) := by decide +kernel
theorem d_O_gather_83 : decode b_O_gather 83 = .ok (.getfield 15, 3) := by decide +kernel
theorem d_O_gather_86 : decode b_O_gather 86 = .ok (.aload_n 0, 1) := by decide +kernel
theorem d_O_gather_87 : decode b_O_gather 87 = .ok (.getfield 9, 3) := by decide +kernel
theorem d_O_gather_90 : decode b_O_gather 90 = .ok (.iload_n 2, 1) := by decide +kernel
theorem d_O_gather_91 : decode b_O_gather 91 = .ok (.iastore, 1) := by decide +kernel
theorem d_O_gather_92 : decode b_O_gather 92 = .ok (.aload_n 0, 1) := by decide +kernel
theorem d_O_gather_93 : decode b_O_gather 93 = .ok (.getfield 19, 3) := by decide +kernel
theorem d_O_gather_96 : decode b_O_gather 96 = .ok (.aload_n 0, 1) := by decide +kernel
theorem d_O_gather_97 : decode b_O_gather 97 = .ok (.getfield 9, 3) := by decide +kernel
theorem d_O_gather_100 : decode b_O_gather 100 = .ok (.iload 4, 2) := by decide +kernel
theorem d_O_gather_102 : decode b_O_gather 102 = .ok (.iastore, 1) := by decide +kernel
theorem d_O_gather_103 : decode b_O_gather 103 = .ok (.aload_n 0, 1) := by decide +kernel
theorem d_O_gather_104 : decode b_O_gather 104 = .ok (.dup, 1) := by decide +kernel
theorem d_O_gather_105 : decode b_O_gather 105 = .ok (.getfield 9, 3) := by decide +kernel
theorem d_O_gather_108 : decode b_O_gather 108 = .ok (.iconst 1, 1) := by decide +kernel
theorem d_O_gather_109 : decode b_O_gather 109 = .ok (.iadd, 1) := by decide +kernel
theorem d_O_gather_110 : decode b_O_gather 110 = .ok (.putfield 9, 3) := by decide +kernel
theorem d_O_gather_113 : decode b_O_gather 113 = .ok (.iinc 4 1, 3) := by decide +kernel
theorem d_O_gather_116 : decode b_O_gather 116 = .ok (.goto (-88), 3) := by decide +kernel
theorem d_O_gather_119 : decode b_O_gather 119 = .ok (.iinc 2 1, 3) := by decide +kernel
theorem d_O_gather_122 : decode b_O_gather 122 = .ok (.goto (-115), 3) := by decide +kernel
theorem d_O_gather_125 : decode b_O_gather 125 = .ok (.return_, 1) := by decide +kernel
theorem d_O_mostOfOne_0 : decode b_O_mostOfOne 0 = .ok (.iconst 0, 1) := by decide +kernel
theorem d_O_mostOfOne_1 : decode b_O_mostOfOne 1 = .ok (.istore_n 1, 1) := by decide +kernel
theorem d_O_mostOfOne_2 : decode b_O_mostOfOne 2 = .ok (.iconst 0, 1) := by decide +kernel
theorem d_O_mostOfOne_3 : decode b_O_mostOfOne 3 = .ok (.istore_n 2, 1) := by decide +kernel
theorem d_O_mostOfOne_4 : decode b_O_mostOfOne 4 = .ok (.iload_n 2, 1) := by decide +kernel
theorem d_O_mostOfOne_5 : decode b_O_mostOfOne 5 = .ok (.bipush 6, 2) := by decide +kernel
theorem d_O_mostOfOne_7 : decode b_O_mostOfOne 7 = .ok (.if_icmp .ge 65, 3) := by decide +kernel
theorem d_O_mostOfOne_10 : decode b_O_mostOfOne 10 = .ok (.iconst 0, 1) := by decide +kernel
theorem d_O_mostOfOne_11 : decode b_O_mostOfOne 11 = .ok (.istore_n 3, 1) := by decide +kernel
theorem d_O_mostOfOne_12 : decode b_O_mostOfOne 12 = .ok (.iconst 0, 1) := by decide +kernel
theorem d_O_mostOfOne_13 : decode b_O_mostOfOne 13 = .ok (.istore 4, 2) := by decide +kernel
theorem d_O_mostOfOne_15 : decode b_O_mostOfOne 15 = .ok (.iload 4, 2) := by decide +kernel
theorem d_O_mostOfOne_17 : decode b_O_mostOfOne 17 = .ok (.aload_n 0, 1) := by decide +kernel
theorem d_O_mostOfOne_18 : decode b_O_mostOfOne 18 = .ok (.getfield 9, 3) := by decide +kernel
theorem d_O_mostOfOne_21 : decode b_O_mostOfOne 21 = .ok (.if_icmp .ge 39, 3) := by decide +kernel
theorem d_O_mostOfOne_24 : decode b_O_mostOfOne 24 = .ok (.iload_n 3, 1) := by decide +kernel
theorem d_O_mostOfOne_25 : decode b_O_mostOfOne 25 = .ok (.aload_n 0, 1) := by decide +kernel
theorem d_O_mostOfOne_26 : decode b_O_mostOfOne 26 = .ok (.getfield 15, 3) := by decide +kernel
theorem d_O_mostOfOne_29 : decode b_O_mostOfOne 29 = .ok (.iload 4, 2) := by decide +kernel
theorem d_O_mostOfOne_31 : decode b_O_mostOfOne 31 = .ok (.iaload, 1) := by decide +kernel
theorem d_O_mostOfOne_32 : decode b_O_mostOfOne 32 = .ok (.iload_n 2, 1) := by decide +kernel
theorem d_O_mostOfOne_33 : decode b_O_mostOfOne 33 = .ok (.if_icmp .eq 14, 3) := by decide +kernel
theorem d_O_mostOfOne_36 : decode b_O_mostOfOne 36 = .ok (.aload_n 0, 1) := by decide +kernel
theorem d_O_mostOfOne_37 : decode b_O_mostOfOne 37 = .ok (.getfield 19, 3) := by decide +kernel
theorem d_O_mostOfOne_40 : decode b_O_mostOfOne 40 = .ok (.iload 4, 2) := by decide +kernel
theorem d_O_mostOfOne_42 : decode b_O_mostOfOne 42 = .ok (.iaload, 1) := by decide +kernel
theorem d_O_mostOfOne_43 : decode b_O_mostOfOne 43 = .ok (.iload_n 2, 1) := by decide +kernel
theorem d_O_mostOfOne_44 : decode b_O_mostOfOne 44 = .ok (.if_icmp .ne 7, 3) := by decide +kernel
theorem d_O_mostOfOne_47 : decode b_O_mostOfOne 47 = .ok (.iconst 1, 1) := by decide +kernel
theorem d_O_mostOfOne_48 : decode b_O_mostOfOne 48 = .ok (.goto 4, 3) := by decide +kernel
theorem d_O_mostOfOne_51 : decode b_O_mostOfOne 51 = .ok (.iconst 0, 1) := by decide +kernel
theorem d_O_mostOfOne_52 : decode b_O_mostOfOne 52 = .ok (.iadd, 1) := by decide +kernel
theorem d_O_mostOfOne_53 : decode b_O_mostOfOne 53 = .ok (.istore_n 3, 1) := by decide +kernel
theorem d_O_mostOfOne_54 : decode b_O_mostOfOne 54 = .ok (.iinc 4 1, 3) := by decide +kernel
theorem d_O_mostOfOne_57 : decode b_O_mostOfOne 57 = .ok (.goto (-42), 3) := by decide +kernel
theorem d_O_mostOfOne_60 : decode b_O_mostOfOne 60 = .ok (.iload_n 1, 1) := by decide +kernel
theorem d_O_mostOfOne_61 : decode b_O_mostOfOne 61 = .ok (.iload_n 3, 1) := by decide +kernel
theorem d_O_mostOfOne_62 : decode b_O_mostOfOne 62 = .ok (.invokestatic 42, 3) := by decide +kernel
theorem d_O_mostOfOne_65 : decode b_O_mostOfOne 65 = .ok (.istore_n 1, 1) := by decide +kernel
theorem d_O_mostOfOne_66 : decode b_O_mostOfOne 66 = .ok (.iinc 2 1, 3) := by decide +kernel
theorem d_O_mostOfOne_69 : decode b_O_mostOfOne 69 = .ok (.goto (-65), 3) := by decide +kernel
theorem d_O_mostOfOne_72 : decode b_O_mostOfOne 72 = .ok (.iload_n 1, 1) := by decide +kernel
theorem d_O_mostOfOne_73 : decode b_O_mostOfOne 73 = .ok (.ireturn, 1) := by decide +kernel
theorem d_S_init_0 : decode b_S_init 0 = .ok (.aload_n 0, 1) := by decide +kernel
theorem d_S_init_1 : decode b_S_init 1 = .ok (.invokespecial 3, 3) := by decide +kernel
theorem d_S_init_4 : decode b_S_init 4 = .ok (.aload_n 0, 1) := by decide +kernel
theorem d_S_init_5 : decode b_S_init 5 = .ok (.iconst (-1), 1) := by decide +kernel
theorem d_S_init_6 : decode b_S_init 6 = .ok (.putfield 9, 3) := by decide +kernel
theorem d_S_init_9 : decode b_S_init 9 = .ok (.aload_n 0, 1) := by decide +kernel
theorem d_S_init_10 : decode b_S_init 10 = .ok (.iload_n 1, 1) := by decide +kernel
theorem d_S_init_11 : decode b_S_init 11 = .ok (.newarray .int, 2) := by decide +kernel
theorem d_S_init_13 : decode b_S_init 13 = .ok (.putfield 15, 3) := by decide +kernel
theorem d_S_init_16 : decode b_S_init 16 = .ok (.return_, 1) := by decide +kernel
theorem d_S_findingAt_0 : decode b_S_findingAt 0 = .ok (.aload_n 0, 1) := by decide +kernel
theorem d_S_findingAt_1 : decode b_S_findingAt 1 = .ok (.invokevirtual 19, 3) := by decide +kernel
theorem d_S_findingAt_4 : decode b_S_findingAt 4 = .ok (.ifCond .eq 5, 3) := by decide +kernel
theorem d_S_findingAt_7 : decode b_S_findingAt 7 = .ok (.iconst 1, 1) := by decide +kernel
theorem d_S_findingAt_8 : decode b_S_findingAt 8 = .ok (.ireturn, 1) := by decide +kernel
theorem d_S_findingAt_9 : decode b_S_findingAt 9 = .ok (.aload_n 0, 1) := by decide +kernel
theorem d_S_findingAt_10 : decode b_S_findingAt 10 = .ok (.iload_n 1, 1) := by decide +kernel
theorem d_S_findingAt_11 : decode b_S_findingAt 11 = .ok (.invokevirtual 23, 3) := by decide +kernel
theorem d_S_findingAt_14 : decode b_S_findingAt 14 = .ok (.ifCond .eq 7, 3) := by decide +kernel
theorem d_S_findingAt_17 : decode b_S_findingAt 17 = .ok (.iconst 0, 1) := by decide +kernel
theorem d_S_findingAt_18 : decode b_S_findingAt 18 = .ok (.goto 4, 3) := by decide +kernel
theorem d_S_findingAt_21 : decode b_S_findingAt 21 = .ok (.iconst 2, 1) := by decide +kernel
theorem d_S_findingAt_22 : decode b_S_findingAt 22 = .ok (.ireturn, 1) := by decide +kernel
theorem d_S_hasPlace_0 : decode b_S_hasPlace 0 = .ok (.iload_n 1, 1) := by decide +kernel
theorem d_S_hasPlace_1 : decode b_S_hasPlace 1 = .ok (.ifCond .lt 15, 3) := by decide +kernel
theorem d_S_hasPlace_4 : decode b_S_hasPlace 4 = .ok (.iload_n 1, 1) := by decide +kernel
theorem d_S_hasPlace_5 : decode b_S_hasPlace 5 = .ok (.aload_n 0, 1) := by decide +kernel
theorem d_S_hasPlace_6 : decode b_S_hasPlace 6 = .ok (.getfield 9, 3) := by decide +kernel
theorem d_S_hasPlace_9 : decode b_S_hasPlace 9 = .ok (.if_icmp .ge 7, 3) := by decide +kernel
theorem d_S_hasPlace_12 : decode b_S_hasPlace 12 = .ok (.iconst 1, 1) := by decide +kernel
theorem d_S_hasPlace_13 : decode b_S_hasPlace 13 = .ok (.goto 4, 3) := by decide +kernel
theorem d_S_hasPlace_16 : decode b_S_hasPlace 16 = .ok (.iconst 0, 1) := by decide +kernel
theorem d_S_hasPlace_17 : decode b_S_hasPlace 17 = .ok (.ireturn, 1) := by decide +kernel
theorem d_S_hasStretch_0 : decode b_S_hasStretch 0 = .ok (.iload_n 1, 1) := by decide +kernel
theorem d_S_hasStretch_1 : decode b_S_hasStretch 1 = .ok (.ifCond .lt 25, 3) := by decide +kernel
theorem d_S_hasStretch_4 : decode b_S_hasStretch 4 = .ok (.iload_n 1, 1) := by decide +kernel
theorem d_S_hasStretch_5 : decode b_S_hasStretch 5 = .ok (.aload_n 0, 1) := by decide +kernel
theorem d_S_hasStretch_6 : decode b_S_hasStretch 6 = .ok (.getfield 9, 3) := by decide +kernel
theorem d_S_hasStretch_9 : decode b_S_hasStretch 9 = .ok (.if_icmp .gt 17, 3) := by decide +kernel
theorem d_S_hasStretch_12 : decode b_S_hasStretch 12 = .ok (.iload_n 2, 1) := by decide +kernel
theorem d_S_hasStretch_13 : decode b_S_hasStretch 13 = .ok (.aload_n 0, 1) := by decide +kernel
theorem d_S_hasStretch_14 : decode b_S_hasStretch 14 = .ok (.getfield 9, 3) := by decide +kernel
theorem d_S_hasStretch_17 : decode b_S_hasStretch 17 = .ok (.iload_n 1, 1) := by decide +kernel
theorem d_S_hasStretch_18 : decode b_S_hasStretch 18 = .ok (.isub, 1) := by decide +kernel
theorem d_S_hasStretch_19 : decode b_S_hasStretch 19 = .ok (.if_icmp .gt 7, 3) := by decide +kernel
theorem d_S_hasStretch_22 : decode b_S_hasStretch 22 = .ok (.iconst 1, 1) := by decide +kernel
theorem d_S_hasStretch_23 : decode b_S_hasStretch 23 = .ok (.goto 4, 3) := by decide +kernel
theorem d_S_hasStretch_26 : decode b_S_hasStretch 26 = .ok (.iconst 0, 1) := by decide +kernel
theorem d_S_hasStretch_27 : decode b_S_hasStretch 27 = .ok (.ireturn, 1) := by decide +kernel
theorem d_S_isMissing_0 : decode b_S_isMissing 0 = .ok (.aload_n 0, 1) := by decide +kernel
theorem d_S_isMissing_1 : decode b_S_isMissing 1 = .ok (.getfield 9, 3) := by decide +kernel
theorem d_S_isMissing_4 : decode b_S_isMissing 4 = .ok (.iconst (-1), 1) := by decide +kernel
theorem d_S_isMissing_5 : decode b_S_isMissing 5 = .ok (.if_icmp .ne 7, 3) := by decide +kernel
theorem d_S_isMissing_8 : decode b_S_isMissing 8 = .ok (.iconst 1, 1) := by decide +kernel
theorem d_S_isMissing_9 : decode b_S_isMissing 9 = .ok (.goto 4, 3) := by decide +kernel
theorem d_S_isMissing_12 : decode b_S_isMissing 12 = .ok (.iconst 0, 1) := by decide +kernel
theorem d_S_isMissing_13 : decode b_S_isMissing 13 = .ok (.ireturn, 1) := by decide +kernel
theorem d_S_mixedInto_0 : decode b_S_mixedInto 0 = .ok (.ldc2_w 27, 3) := by decide +kernel
theorem d_S_mixedInto_3 : decode b_S_mixedInto 3 = .ok (.lload_n 1, 1) := by decide +kernel
theorem d_S_mixedInto_4 : decode b_S_mixedInto 4 = .ok (.lmul, 1) := by decide +kernel
theorem d_S_mixedInto_5 : decode b_S_mixedInto 5 = .ok (.aload_n 0, 1) := by decide +kernel
theorem d_S_mixedInto_6 : decode b_S_mixedInto 6 = .ok (.getfield 9, 3) := by decide +kernel
theorem d_S_mixedInto_9 : decode b_S_mixedInto 9 = .ok (.i2l, 1) := by decide +kernel
theorem d_S_mixedInto_10 : decode b_S_mixedInto 10 = .ok (.ladd, 1) := by decide +kernel
theorem d_S_mixedInto_11 : decode b_S_mixedInto 11 = .ok (.lstore_n 3, 1) := by decide +kernel
theorem d_S_mixedInto_12 : decode b_S_mixedInto 12 = .ok (.iconst 0, 1) := by decide +kernel
theorem d_S_mixedInto_13 : decode b_S_mixedInto 13 = .ok (.istore 5, 2) := by decide +kernel
theorem d_S_mixedInto_15 : decode b_S_mixedInto 15 = .ok (.iload 5, 2) := by decide +kernel
theorem d_S_mixedInto_17 : decode b_S_mixedInto 17 = .ok (.aload_n 0, 1) := by decide +kernel
theorem d_S_mixedInto_18 : decode b_S_mixedInto 18 = .ok (.getfield 9, 3) := by decide +kernel
theorem d_S_mixedInto_21 : decode b_S_mixedInto 21 = .ok (.if_icmp .ge 24, 3) := by decide +kernel
theorem d_S_mixedInto_24 : decode b_S_mixedInto 24 = .ok (.ldc2_w 27, 3) := by decide +kernel
theorem d_S_mixedInto_27 : decode b_S_mixedInto 27 = .ok (.lload_n 3, 1) := by decide +kernel
theorem d_S_mixedInto_28 : decode b_S_mixedInto 28 = .ok (.lmul, 1) := by decide +kernel
theorem d_S_mixedInto_29 : decode b_S_mixedInto 29 = .ok (.aload_n 0, 1) := by decide +kernel
theorem d_S_mixedInto_30 : decode b_S_mixedInto 30 = .ok (.getfield 15, 3) := by decide +kernel
theorem d_S_mixedInto_33 : decode b_S_mixedInto 33 = .ok (.iload 5, 2) := by decide +kernel
theorem d_S_mixedInto_35 : decode b_S_mixedInto 35 = .ok (.iaload, 1) := by decide +kernel
theorem d_S_mixedInto_36 : decode b_S_mixedInto 36 = .ok (.i2l, 1) := by decide +kernel
theorem d_S_mixedInto_37 : decode b_S_mixedInto 37 = .ok (.ladd, 1) := by decide +kernel
theorem d_S_mixedInto_38 : decode b_S_mixedInto 38 = .ok (.lstore_n 3, 1) := by decide +kernel
theorem d_S_mixedInto_39 : decode b_S_mixedInto 39 = .ok (.iinc 5 1, 3) := by decide +kernel
theorem d_S_mixedInto_42 : decode b_S_mixedInto 42 = .ok (.goto (-27), 3) := by decide +kernel
theorem d_S_mixedInto_45 : decode b_S_mixedInto 45 = .ok (.lload_n 3, 1) := by decide +kernel
theorem d_S_mixedInto_46 : decode b_S_mixedInto 46 = .ok (.lreturn, 1) := by decide +kernel
theorem d_S_renew_0 : decode b_S_renew 0 = .ok (.aload_n 0, 1) := by decide +kernel
theorem d_S_renew_1 : decode b_S_renew 1 = .ok (.iload_n 1, 1) := by decide +kernel
theorem d_S_renew_2 : decode b_S_renew 2 = .ok (.putfield 9, 3) := by decide +kernel
theorem d_S_renew_5 : decode b_S_renew 5 = .ok (.iconst 0, 1) := by decide +kernel
theorem d_S_renew_6 : decode b_S_renew 6 = .ok (.istore_n 3, 1) := by decide +kernel
theorem d_S_renew_7 : decode b_S_renew 7 = .ok (.iload_n 3, 1) := by decide +kernel
theorem d_S_renew_8 : decode b_S_renew 8 = .ok (.iload_n 1, 1) := by decide +kernel
theorem d_S_renew_9 : decode b_S_renew 9 = .ok (.if_icmp .ge 25, 3) := by decide +kernel
theorem d_S_renew_12 : decode b_S_renew 12 = .ok (.iload_n 3, 1) := by decide +kernel
theorem d_S_renew_13 : decode b_S_renew 13 = .ok (.aload_n 0, 1) := by decide +kernel
theorem d_S_renew_14 : decode b_S_renew 14 = .ok (.getfield 15, 3) := by decide +kernel
theorem d_S_renew_17 : decode b_S_renew 17 = .ok (.arraylength, 1) := by decide +kernel
theorem d_S_renew_18 : decode b_S_renew 18 = .ok (.if_icmp .ge 16, 3) := by decide +kernel
theorem d_S_renew_21 : decode b_S_renew 21 = .ok (.aload_n 0, 1) := by decide +kernel
theorem d_S_renew_22 : decode b_S_renew 22 = .ok (.getfield 15, 3) := by decide +kernel
theorem d_S_renew_25 : decode b_S_renew 25 = .ok (.iload_n 3, 1) := by decide +kernel
theorem d_S_renew_26 : decode b_S_renew 26 = .ok (.iload_n 2, 1) := by decide +kernel
theorem d_S_renew_27 : decode b_S_renew 27 = .ok (.iastore, 1) := by decide +kernel
theorem d_S_renew_28 : decode b_S_renew 28 = .ok (.iinc 3 1, 3) := by decide +kernel
theorem d_S_renew_31 : decode b_S_renew 31 = .ok (.goto (-24), 3) := by decide +kernel
theorem d_S_renew_34 : decode b_S_renew 34 = .ok (.return_, 1) := by decide +kernel
theorem d_V_init_0 : decode b_V_init 0 = .ok (.aload_n 0, 1) := by decide +kernel
theorem d_V_init_1 : decode b_V_init 1 = .ok (.invokespecial 3, 3) := by decide +kernel
theorem d_V_init_4 : decode b_V_init 4 = .ok (.aload_n 0, 1) := by decide +kernel
theorem d_V_init_5 : decode b_V_init 5 = .ok (.iconst 0, 1) := by decide +kernel
theorem d_V_init_6 : decode b_V_init 6 = .ok (.putfield 9, 3) := by decide +kernel
theorem d_V_init_9 : decode b_V_init 9 = .ok (.aload_n 0, 1) := by decide +kernel
theorem d_V_init_10 : decode b_V_init 10 = .ok (.iconst 0, 1) := by decide +kernel
theorem d_V_init_11 : decode b_V_init 11 = .ok (.putfield 15, 3) := by decide +kernel
theorem d_V_init_14 : decode b_V_init 14 = .ok (.aload_n 0, 1) := by decide +kernel
theorem d_V_init_15 : decode b_V_init 15 = .ok (.bipush 6, 2) := by decide +kernel
theorem d_V_init_17 : decode b_V_init 17 = .ok (.newarray .int, 2) := by decide +kernel
theorem d_V_init_19 : decode b_V_init 19 = .ok (.putfield 18, 3) := by decide +kernel
theorem d_V_init_22 : decode b_V_init 22 = .ok (.aload_n 0, 1) := by decide +kernel
theorem d_V_init_23 : decode b_V_init 23 = .ok (.bipush 12, 2) := by decide +kernel
theorem d_V_init_25 : decode b_V_init 25 = .ok (.anewarray 22, 3) := by decide +kernel
theorem d_V_init_28 : decode b_V_init 28 = .ok (.putfield 24, 3) := by decide +kernel
theorem d_V_init_31 : decode b_V_init 31 = .ok (.iconst 0, 1) := by decide +kernel
theorem d_V_init_32 : decode b_V_init 32 = .ok (.istore_n 1, 1) := by decide +kernel
theorem d_V_init_33 : decode b_V_init 33 = .ok (.iload_n 1, 1) := by decide +kernel
theorem d_V_init_34 : decode b_V_init 34 = .ok (.bipush 12, 2) := by decide +kernel
theorem d_V_init_36 : decode b_V_init 36 = .ok (.if_icmp .ge 22, 3) := by decide +kernel
theorem d_V_init_39 : decode b_V_init 39 = .ok (.aload_n 0, 1) := by decide +kernel
theorem d_V_init_40 : decode b_V_init 40 = .ok (.getfield 24, 3) := by decide +kernel
theorem d_V_init_43 : decode b_V_init 43 = .ok (.iload_n 1, 1) := by decide +kernel
theorem d_V_init_44 : decode b_V_init 44 = .ok (.new 22, 3) := by decide +kernel
theorem d_V_init_47 : decode b_V_init 47 = .ok (.dup, 1) := by decide +kernel
theorem d_V_init_48 : decode b_V_init 48 = .ok (.invokespecial 28, 3) := by decide +kernel
theorem d_V_init_51 : decode b_V_init 51 = .ok (.aastore, 1) := by decide +kernel
theorem d_V_init_52 : decode b_V_init 52 = .ok (.iinc 1 1, 3) := by decide +kernel
theorem d_V_init_55 : decode b_V_init 55 = .ok (.goto (-22), 3) := by decide +kernel
theorem d_V_init_58 : decode b_V_init 58 = .ok (.return_, 1) := by decide +kernel
theorem d_V_addDraft_0 : decode b_V_addDraft 0 = .ok (.aload_n 0, 1) := by decide +kernel
theorem d_V_addDraft_1 : decode b_V_addDraft 1 = .ok (.getfield 15, 3) := by decide +kernel
theorem d_V_addDraft_4 : decode b_V_addDraft 4 = .ok (.bipush 12, 2) := by decide +kernel
theorem d_V_addDraft_6 : decode b_V_addDraft 6 = .ok (.if_icmp .ge 30, 3) := by decide +kernel
theorem d_V_addDraft_9 : decode b_V_addDraft 9 = .ok (.aload_n 0, 1) := by decide +kernel
theorem d_V_addDraft_10 : decode b_V_addDraft 10 = .ok (.getfield 24, 3) := by decide +kernel
theorem d_V_addDraft_13 : decode b_V_addDraft 13 = .ok (.aload_n 0, 1) := by decide +kernel
theorem d_V_addDraft_14 : decode b_V_addDraft 14 = .ok (.getfield 15, 3) := by decide +kernel
theorem d_V_addDraft_17 : decode b_V_addDraft 17 = .ok (.aaload, 1) := by decide +kernel
theorem d_V_addDraft_18 : decode b_V_addDraft 18 = .ok (.iload_n 1, 1) := by decide +kernel
theorem d_V_addDraft_19 : decode b_V_addDraft 19 = .ok (.iload_n 2, 1) := by decide +kernel
theorem d_V_addDraft_20 : decode b_V_addDraft 20 = .ok (.iload_n 3, 1) := by decide +kernel
theorem d_V_addDraft_21 : decode b_V_addDraft 21 = .ok (.iload 4, 2) := by decide +kernel
theorem d_V_addDraft_23 : decode b_V_addDraft 23 = .ok (.invokevirtual 37, 3) := by decide +kernel
theorem d_V_addDraft_26 : decode b_V_addDraft 26 = .ok (.aload_n 0, 1) := by decide +kernel
theorem d_V_addDraft_27 : decode b_V_addDraft 27 = .ok (.dup, 1) := by decide +kernel
theorem d_V_addDraft_28 : decode b_V_addDraft 28 = .ok (.getfield 15, 3) := by decide +kernel
theorem d_V_addDraft_31 : decode b_V_addDraft 31 = .ok (.iconst 1, 1) := by decide +kernel
theorem d_V_addDraft_32 : decode b_V_addDraft 32 = .ok (.iadd, 1) := by decide +kernel
theorem d_V_addDraft_33 : decode b_V_addDraft 33 = .ok (.putfield 15, 3) := by decide +kernel
theorem d_V_addDraft_36 : decode b_V_addDraft 36 = .ok (.return_, 1) := by decide +kernel
theorem d_V_addPerson_0 : decode b_V_addPerson 0 = .ok (.aload_n 0, 1) := by decide +kernel
theorem d_V_addPerson_1 : decode b_V_addPerson 1 = .ok (.getfield 9, 3) := by decide +kernel
theorem d_V_addPerson_4 : decode b_V_addPerson 4 = .ok (.bipush 6, 2) := by decide +kernel
theorem d_V_addPerson_6 : decode b_V_addPerson 6 = .ok (.if_icmp .ge 23, 3) := by decide +kernel
theorem d_V_addPerson_9 : decode b_V_addPerson 9 = .ok (.aload_n 0, 1) := by decide +kernel
theorem d_V_addPerson_10 : decode b_V_addPerson 10 = .ok (.getfield 18, 3) := by decide +kernel
theorem d_V_addPerson_13 : decode b_V_addPerson 13 = .ok (.aload_n 0, 1) := by decide +kernel
theorem d_V_addPerson_14 : decode b_V_addPerson 14 = .ok (.getfield 9, 3) := by decide +kernel
theorem d_V_addPerson_17 : decode b_V_addPerson 17 = .ok (.iload_n 1, 1) := by decide +kernel
theorem d_V_addPerson_18 : decode b_V_addPerson 18 = .ok (.iastore, 1) := by decide +kernel
theorem d_V_addPerson_19 : decode b_V_addPerson 19 = .ok (.aload_n 0, 1) := by decide +kernel
theorem d_V_addPerson_20 : decode b_V_addPerson 20 = .ok (.dup, 1) := by decide +kernel
theorem d_V_addPerson_21 : decode b_V_addPerson 21 = .ok (.getfield 9, 3) := by decide +kernel
theorem d_V_addPerson_24 : decode b_V_addPerson 24 = .ok (.iconst 1, 1) := by decide +kernel
theorem d_V_addPerson_25 : decode b_V_addPerson 25 = .ok (.iadd, 1) := by decide +kernel
theorem d_V_addPerson_26 : decode b_V_addPerson 26 = .ok (.putfield 9, 3) := by decide +kernel
theorem d_V_addPerson_29 : decode b_V_addPerson 29 = .ok (.return_, 1) := by decide +kernel
theorem d_V_becomeEmpty_0 : decode b_V_becomeEmpty 0 = .ok (.aload_n 0, 1) := by decide +kernel
theorem d_V_becomeEmpty_1 : decode b_V_becomeEmpty 1 = .ok (.iconst 0, 1) := by decide +kernel
theorem d_V_becomeEmpty_2 : decode b_V_becomeEmpty 2 = .ok (.putfield 9, 3) := by decide +kernel
theorem d_V_becomeEmpty_5 : decode b_V_becomeEmpty 5 = .ok (.aload_n 0, 1) := by decide +kernel
theorem d_V_becomeEmpty_6 : decode b_V_becomeEmpty 6 = .ok (.iconst 0, 1) := by decide +kernel
theorem d_V_becomeEmpty_7 : decode b_V_becomeEmpty 7 = .ok (.putfield 15, 3) := by decide +kernel
theorem d_V_becomeEmpty_10 : decode b_V_becomeEmpty 10 = .ok (.return_, 1) := by decide +kernel
theorem d_V_becomeLike_0 : decode b_V_becomeLike 0 = .ok (.aload_n 0, 1) := by decide +kernel
theorem d_V_becomeLike_1 : decode b_V_becomeLike 1 = .ok (.aload_n 1, 1) := by decide +kernel
theorem d_V_becomeLike_2 : decode b_V_becomeLike 2 = .ok (.getfield 9, 3) := by decide +kernel
theorem d_V_becomeLike_5 : decode b_V_becomeLike 5 = .ok (.putfield 9, 3) := by decide +kernel
theorem d_V_becomeLike_8 : decode b_V_becomeLike 8 = .ok (.aload_n 0, 1) := by decide +kernel
theorem d_V_becomeLike_9 : decode b_V_becomeLike 9 = .ok (.aload_n 1, 1) := by decide +kernel
theorem d_V_becomeLike_10 : decode b_V_becomeLike 10 = .ok (.getfield 15, 3) := by decide +kernel
theorem d_V_becomeLike_13 : decode b_V_becomeLike 13 = .ok (.putfield 15, 3) := by decide +kernel
theorem d_V_becomeLike_16 : decode b_V_becomeLike 16 = .ok (.iconst 0, 1) := by decide +kernel
theorem d_V_becomeLike_17 : decode b_V_becomeLike 17 = .ok (.istore_n 2, 1) := by decide +kernel
theorem d_V_becomeLike_18 : decode b_V_becomeLike 18 = .ok (.iload_n 2, 1) := by decide +kernel
theorem d_V_becomeLike_19 : decode b_V_becomeLike 19 = .ok (.aload_n 0, 1) := by decide +kernel
theorem d_V_becomeLike_20 : decode b_V_becomeLike 20 = .ok (.getfield 9, 3) := by decide +kernel
theorem d_V_becomeLike_23 : decode b_V_becomeLike 23 = .ok (.if_icmp .ge 21, 3) := by decide +kernel
theorem d_V_becomeLike_26 : decode b_V_becomeLike 26 = .ok (.aload_n 0, 1) := by decide +kernel
theorem d_V_becomeLike_27 : decode b_V_becomeLike 27 = .ok (.getfield 18, 3) := by decide +kernel
theorem d_V_becomeLike_30 : decode b_V_becomeLike 30 = .ok (.iload_n 2, 1) := by decide +kernel
theorem d_V_becomeLike_31 : decode b_V_becomeLike 31 = .ok (.aload_n 1, 1) := by decide +kernel
theorem d_V_becomeLike_32 : decode b_V_becomeLike 32 = .ok (.getfield 18, 3) := by decide +kernel
theorem d_V_becomeLike_35 : decode b_V_becomeLike 35 = .ok (.iload_n 2, 1) := by decide +kernel
theorem d_V_becomeLike_36 : decode b_V_becomeLike 36 = .ok (.iaload, 1) := by decide +kernel
theorem d_V_becomeLike_37 : decode b_V_becomeLike 37 = .ok (.iastore, 1) := by decide +kernel
theorem d_V_becomeLike_38 : decode b_V_becomeLike 38 = .ok (.iinc 2 1, 3) := by decide +kernel
theorem d_V_becomeLike_41 : decode b_V_becomeLike 41 = .ok (.goto (-23), 3) := by decide +kernel
theorem d_V_becomeLike_44 : decode b_V_becomeLike 44 = .ok (.iconst 0, 1) := by decide +kernel
theorem d_V_becomeLike_45 : decode b_V_becomeLike 45 = .ok (.istore_n 2, 1) := by decide +kernel
theorem d_V_becomeLike_46 : decode b_V_becomeLike 46 = .ok (.iload_n 2, 1) := by decide +kernel
theorem d_V_becomeLike_47 : decode b_V_becomeLike 47 = .ok (.aload_n 0, 1) := by decide +kernel
theorem d_V_becomeLike_48 : decode b_V_becomeLike 48 = .ok (.getfield 15, 3) := by decide +kernel
theorem d_V_becomeLike_51 : decode b_V_becomeLike 51 = .ok (.if_icmp .ge 24, 3) := by decide +kernel
theorem d_V_becomeLike_54 : decode b_V_becomeLike 54 = .ok (.aload_n 0, 1) := by decide +kernel
theorem d_V_becomeLike_55 : decode b_V_becomeLike 55 = .ok (.getfield 24, 3) := by decide +kernel
theorem d_V_becomeLike_58 : decode b_V_becomeLike 58 = .ok (.iload_n 2, 1) := by decide +kernel
theorem d_V_becomeLike_59 : decode b_V_becomeLike 59 = .ok (.aaload, 1) := by decide +kernel
theorem d_V_becomeLike_60 : decode b_V_becomeLike 60 = .ok (.aload_n 1, 1) := by decide +kernel
theorem d_V_becomeLike_61 : decode b_V_becomeLike 61 = .ok (.getfield 24, 3) := by decide +kernel
theorem d_V_becomeLike_64 : decode b_V_becomeLike 64 = .ok (.iload_n 2, 1) := by decide +kernel
theorem d_V_becomeLike_65 : decode b_V_becomeLike 65 = .ok (.aaload, 1) := by decide +kernel
theorem d_V_becomeLike_66 : decode b_V_becomeLike 66 = .ok (.invokevirtual 33, 3) := by decide +kernel
theorem d_V_becomeLike_69 : decode b_V_becomeLike 69 = .ok (.iinc 2 1, 3) := by decide +kernel
theorem d_V_becomeLike_72 : decode b_V_becomeLike 72 = .ok (.goto (-26), 3) := by decide +kernel
theorem d_V_becomeLike_75 : decode b_V_becomeLike 75 = .ok (.return_, 1) := by decide +kernel
theorem d_V_clearRing_0 : decode b_V_clearRing 0 = .ok (.aload_n 0, 1) := by decide +kernel
theorem d_V_clearRing_1 : decode b_V_clearRing 1 = .ok (.aload_n 1, 1) := by decide +kernel
theorem d_V_clearRing_2 : decode b_V_clearRing 2 = .ok (.iload_n 2, 1) := by decide +kernel
theorem d_V_clearRing_3 : decode b_V_clearRing 3 = .ok (.invokevirtual 100, 3) := by decide +kernel
theorem d_V_clearRing_6 : decode b_V_clearRing 6 = .ok (.ifCond .ne 5, 3) := by decide +kernel
theorem d_V_clearRing_9 : decode b_V_clearRing 9 = .ok (.iconst 0, 1) := by decide +kernel
theorem d_V_clearRing_10 : decode b_V_clearRing 10 = .ok (.ireturn, 1) := by decide +kernel
theorem d_V_clearRing_11 : decode b_V_clearRing 11 = .ok (.aload_n 0, 1) := by decide +kernel
theorem d_V_clearRing_12 : decode b_V_clearRing 12 = .ok (.getfield 24, 3) := by decide +kernel
theorem d_V_clearRing_15 : decode b_V_clearRing 15 = .ok (.aload_n 1, 1) := by decide +kernel
theorem d_V_clearRing_16 : decode b_V_clearRing 16 = .ok (.iconst 0, 1) := by decide +kernel
theorem d_V_clearRing_17 : decode b_V_clearRing 17 = .ok (.iaload, 1) := by decide +kernel
theorem d_V_clearRing_18 : decode b_V_clearRing 18 = .ok (.aaload, 1) := by decide +kernel
theorem d_V_clearRing_19 : decode b_V_clearRing 19 = .ok (.getfield 78, 3) := by decide +kernel
theorem d_V_clearRing_22 : decode b_V_clearRing 22 = .ok (.istore_n 3, 1) := by decide +kernel
theorem d_V_clearRing_23 : decode b_V_clearRing 23 = .ok (.iconst 1, 1) := by decide +kernel
theorem d_V_clearRing_24 : decode b_V_clearRing 24 = .ok (.istore 4, 2) := by decide +kernel
theorem d_V_clearRing_26 : decode b_V_clearRing 26 = .ok (.iload 4, 2) := by decide +kernel
theorem d_V_clearRing_28 : decode b_V_clearRing 28 = .ok (.iload_n 2, 1) := by decide +kernel
theorem d_V_clearRing_29 : decode b_V_clearRing 29 = .ok (.if_icmp .ge 26, 3) := by decide +kernel
theorem d_V_clearRing_32 : decode b_V_clearRing 32 = .ok (.iload_n 3, 1) := by decide +kernel
theorem d_V_clearRing_33 : decode b_V_clearRing 33 = .ok (.aload_n 0, 1) := by decide +kernel
theorem d_V_clearRing_34 : decode b_V_clearRing 34 = .ok (.getfield 24, 3) := by decide +kernel
theorem d_V_clearRing_37 : decode b_V_clearRing 37 = .ok (.aload_n 1, 1) := by decide +kernel
theorem d_V_clearRing_38 : decode b_V_clearRing 38 = .ok (.iload 4, 2) := by decide +kernel
theorem d_V_clearRing_40 : decode b_V_clearRing 40 = .ok (.iaload, 1) := by decide +kernel
theorem d_V_clearRing_41 : decode b_V_clearRing 41 = .ok (.aaload, 1) := by decide +kernel
theorem d_V_clearRing_42 : decode b_V_clearRing 42 = .ok (.getfield 78, 3) := by decide +kernel
theorem d_V_clearRing_45 : decode b_V_clearRing 45 = .ok (.invokestatic 85, 3) := by decide +kernel
theorem d_V_clearRing_48 : decode b_V_clearRing 48 = .ok (.istore_n 3, 1) := by decide +kernel
theorem d_V_clearRing_49 : decode b_V_clearRing 49 = .ok (.iinc 4 1, 3) := by decide +kernel
theorem d_V_clearRing_52 : decode b_V_clearRing 52 = .ok (.goto (-26), 3) := by decide +kernel
theorem d_V_clearRing_55 : decode b_V_clearRing 55 = .ok (.iconst 0, 1) := by decide +kernel
theorem d_V_clearRing_56 : decode b_V_clearRing 56 = .ok (.istore 4, 2) := by decide +kernel
theorem d_V_clearRing_58 : decode b_V_clearRing 58 = .ok (.iload 4, 2) := by decide +kernel
theorem d_V_clearRing_60 : decode b_V_clearRing 60 = .ok (.iload_n 2, 1) := by decide +kernel
theorem d_V_clearRing_61 : decode b_V_clearRing 61 = .ok (.if_icmp .ge 27, 3) := by decide +kernel
theorem d_V_clearRing_64 : decode b_V_clearRing 64 = .ok (.aload_n 0, 1) := by decide +kernel
theorem d_V_clearRing_65 : decode b_V_clearRing 65 = .ok (.getfield 24, 3) := by decide +kernel
theorem d_V_clearRing_68 : decode b_V_clearRing 68 = .ok (.aload_n 1, 1) := by decide +kernel
theorem d_V_clearRing_69 : decode b_V_clearRing 69 = .ok (.iload 4, 2) := by decide +kernel
theorem d_V_clearRing_71 : decode b_V_clearRing 71 = .ok (.iaload, 1) := by decide +kernel
theorem d_V_clearRing_72 : decode b_V_clearRing 72 = .ok (.aaload, 1) := by decide +kernel
theorem d_V_clearRing_73 : decode b_V_clearRing 73 = .ok (.dup, 1) := by decide +kernel
theorem d_V_clearRing_74 : decode b_V_clearRing 74 = .ok (.getfield 78, 3) := by decide +kernel
theorem d_V_clearRing_77 : decode b_V_clearRing 77 = .ok (.iload_n 3, 1) := by decide +kernel
theorem d_V_clearRing_78 : decode b_V_clearRing 78 = .ok (.isub, 1) := by decide +kernel
theorem d_V_clearRing_79 : decode b_V_clearRing 79 = .ok (.putfield 78, 3) := by decide +kernel
theorem d_V_clearRing_82 : decode b_V_clearRing 82 = .ok (.iinc 4 1, 3) := by decide +kernel
theorem d_V_clearRing_85 : decode b_V_clearRing 85 = .ok (.goto (-27), 3) := by decide +kernel
theorem d_V_clearRing_88 : decode b_V_clearRing 88 = .ok (.iload_n 3, 1) := by decide +kernel
theorem d_V_clearRing_89 : decode b_V_clearRing 89 = .ok (.ireturn, 1) := by decide +kernel
theorem d_V_clearedByHalving_0 : decode b_V_clearedByHalving 0 = .ok (.iconst 0, 1) := by decide +kernel
theorem d_V_clearedByHalving_1 : decode b_V_clearedByHalving 1 = .ok (.istore_n 2, 1) := by decide +kernel
theorem d_V_clearedByHalving_2 : decode b_V_clearedByHalving 2 = .ok (.iconst 0, 1) := by decide +kernel
theorem d_V_clearedByHalving_3 : decode b_V_clearedByHalving 3 = .ok (.istore_n 3, 1) := by decide +kernel
theorem d_V_clearedByHalving_4 : decode b_V_clearedByHalving 4 = .ok (.iload_n 3, 1) := by decide +kernel
theorem d_V_clearedByHalving_5 : decode b_V_clearedByHalving 5 = .ok (.aload_n 0, 1) := by decide +kernel
theorem d_V_clearedByHalving_6 : decode b_V_clearedByHalving 6 = .ok (.getfield 15, 3) := by decide +kernel
theorem d_V_clearedByHalving_9 : decode b_V_clearedByHalving 9 = .ok (.if_icmp .ge 59, 3) := by decide +kernel
theorem d_V_clearedByHalving_12 : decode b_V_clearedByHalving 12 = .ok (.aload_n 0, 1) := by decide +kernel
theorem d_V_clearedByHalving_13 : decode b_V_clearedByHalving 13 = .ok (.getfield 24, 3) := by decide +kernel
theorem d_V_clearedByHalving_16 : decode b_V_clearedByHalving 16 = .ok (.iload_n 3, 1) := by decide +kernel
theorem d_V_clearedByHalving_17 : decode b_V_clearedByHalving 17 = .ok (.aaload, 1) := by decide +kernel
theorem d_V_clearedByHalving_18 : decode b_V_clearedByHalving 18 = .ok (.getfield 58, 3) := by decide +kernel
theorem d_V_clearedByHalving_21 : decode b_V_clearedByHalving 21 = .ok (.iload_n 1, 1) := by decide +kernel
theorem d_V_clearedByHalving_22 : decode b_V_clearedByHalving 22 = .ok (.if_icmp .eq 16, 3) := by decide +kernel
theorem d_V_clearedByHalving_25 : decode b_V_clearedByHalving 25 = .ok (.aload_n 0, 1) := by decide +kernel
theorem d_V_clearedByHalving_26 : decode b_V_clearedByHalving 26 = .ok (.getfield 24, 3) := by decide +kernel
theorem d_V_clearedByHalving_29 : decode b_V_clearedByHalving 29 = .ok (.iload_n 3, 1) := by decide +kernel
theorem d_V_clearedByHalving_30 : decode b_V_clearedByHalving 30 = .ok (.aaload, 1) := by decide +kernel
theorem d_V_clearedByHalving_31 : decode b_V_clearedByHalving 31 = .ok (.getfield 65, 3) := by decide +kernel
theorem d_V_clearedByHalving_34 : decode b_V_clearedByHalving 34 = .ok (.iload_n 1, 1) := by decide +kernel
theorem d_V_clearedByHalving_35 : decode b_V_clearedByHalving 35 = .ok (.if_icmp .ne 27, 3) := by decide +kernel
theorem d_V_clearedByHalving_38 : decode b_V_clearedByHalving 38 = .ok (.iload_n 2, 1) := by decide +kernel
theorem d_V_clearedByHalving_39 : decode b_V_clearedByHalving 39 = .ok (.aload_n 0, 1) := by decide +kernel
theorem d_V_clearedByHalving_40 : decode b_V_clearedByHalving 40 = .ok (.getfield 24, 3) := by decide +kernel
theorem d_V_clearedByHalving_43 : decode b_V_clearedByHalving 43 = .ok (.iload_n 3, 1) := by decide +kernel
theorem d_V_clearedByHalving_44 : decode b_V_clearedByHalving 44 = .ok (.aaload, 1) := by decide +kernel
theorem d_V_clearedByHalving_45 : decode b_V_clearedByHalving 45 = .ok (.getfield 78, 3) := by decide +kernel
theorem d_V_clearedByHalving_48 : decode b_V_clearedByHalving 48 = .ok (.aload_n 0, 1) := by decide +kernel
theorem d_V_clearedByHalving_49 : decode b_V_clearedByHalving 49 = .ok (.getfield 24, 3) := by decide +kernel
theorem d_V_clearedByHalving_52 : decode b_V_clearedByHalving 52 = .ok (.iload_n 3, 1) := by decide +kernel
theorem d_V_clearedByHalving_53 : decode b_V_clearedByHalving 53 = .ok (.aaload, 1) := by decide +kernel
theorem d_V_clearedByHalving_54 : decode b_V_clearedByHalving 54 = .ok (.getfield 78, 3) := by decide +kernel
theorem d_V_clearedByHalving_57 : decode b_V_clearedByHalving 57 = .ok (.iconst 2, 1) := by decide +kernel
theorem d_V_clearedByHalving_58 : decode b_V_clearedByHalving 58 = .ok (.idiv, 1) := by decide +kernel
theorem d_V_clearedByHalving_59 : decode b_V_clearedByHalving 59 = .ok (.isub, 1) := by decide +kernel
theorem d_V_clearedByHalving_60 : decode b_V_clearedByHalving 60 = .ok (.iadd, 1) := by decide +kernel
theorem d_V_clearedByHalving_61 : decode b_V_clearedByHalving 61 = .ok (.istore_n 2, 1) := by decide +kernel
theorem d_V_clearedByHalving_62 : decode b_V_clearedByHalving 62 = .ok (.iinc 3 1, 3) := by decide +kernel
theorem d_V_clearedByHalving_65 : decode b_V_clearedByHalving 65 = .ok (.goto (-61), 3) := by decide +kernel
theorem d_V_clearedByHalving_68 : decode b_V_clearedByHalving 68 = .ok (.iload_n 2, 1) := by decide +kernel
theorem d_V_clearedByHalving_69 : decode b_V_clearedByHalving 69 = .ok (.ireturn, 1) := by decide +kernel
theorem d_V_fallen_0 : decode b_V_fallen 0 = .ok (.iconst 1, 1) := by decide +kernel
theorem d_V_fallen_1 : decode b_V_fallen 1 = .ok (.iload_n 1, 1) := by decide +kernel
theorem d_V_fallen_2 : decode b_V_fallen 2 = .ok (.ishl, 1) := by decide +kernel
theorem d_V_fallen_3 : decode b_V_fallen 3 = .ok (.istore_n 3, 1) := by decide +kernel
theorem d_V_fallen_4 : decode b_V_fallen 4 = .ok (.iconst 1, 1) := by decide +kernel
theorem d_V_fallen_5 : decode b_V_fallen 5 = .ok (.istore 4, 2) := by decide +kernel
theorem d_V_fallen_7 : decode b_V_fallen 7 = .ok (.iconst 0, 1) := by decide +kernel
theorem d_V_fallen_8 : decode b_V_fallen 8 = .ok (.istore 5, 2) := by decide +kernel
theorem d_V_fallen_10 : decode b_V_fallen 10 = .ok (.iload 5, 2) := by decide +kernel
theorem d_V_fallen_12 : decode b_V_fallen 12 = .ok (.bipush 6, 2) := by decide +kernel
theorem d_V_fallen_14 : decode b_V_fallen 14 = .ok (.if_icmp .ge 93, 3) := by decide +kernel
theorem d_V_fallen_17 : decode b_V_fallen 17 = .ok (.iload 4, 2) := by decide +kernel
theorem d_V_fallen_19 : decode b_V_fallen 19 = .ok (.ifCond .eq 88, 3) := by decide +kernel
theorem d_V_fallen_22 : decode b_V_fallen 22 = .ok (.iload_n 3, 1) := by decide +kernel
theorem d_V_fallen_23 : decode b_V_fallen 23 = .ok (.istore 6, 2) := by decide +kernel
theorem d_V_fallen_25 : decode b_V_fallen 25 = .ok (.iconst 0, 1) := by decide +kernel
theorem d_V_fallen_26 : decode b_V_fallen 26 = .ok (.istore 7, 2) := by decide +kernel
theorem d_V_fallen_28 : decode b_V_fallen 28 = .ok (.iload 7, 2) := by decide +kernel
theorem d_V_fallen_30 : decode b_V_fallen 30 = .ok (.aload_n 0, 1) := by decide +kernel
theorem d_V_fallen_31 : decode b_V_fallen 31 = .ok (.getfield 9, 3) := by decide +kernel
theorem d_V_fallen_34 : decode b_V_fallen 34 = .ok (.if_icmp .ge 54, 3) := by decide +kernel
theorem d_V_fallen_37 : decode b_V_fallen 37 = .ok (.iload 7, 2) := by decide +kernel
theorem d_V_fallen_39 : decode b_V_fallen 39 = .ok (.iload_n 2, 1) := by decide +kernel
theorem d_V_fallen_40 : decode b_V_fallen 40 = .ok (.if_icmp .eq 42, 3) := by decide +kernel
theorem d_V_fallen_43 : decode b_V_fallen 43 = .ok (.iload_n 3, 1) := by decide +kernel
theorem d_V_fallen_44 : decode b_V_fallen 44 = .ok (.iconst 1, 1) := by decide +kernel
theorem d_V_fallen_45 : decode b_V_fallen 45 = .ok (.iload 7, 2) := by decide +kernel
theorem d_V_fallen_47 : decode b_V_fallen 47 = .ok (.ishl, 1) := by decide +kernel
theorem d_V_fallen_48 : decode b_V_fallen 48 = .ok (.iand, 1) := by decide +kernel
theorem d_V_fallen_49 : decode b_V_fallen 49 = .ok (.ifCond .ne 33, 3) := by decide +kernel
theorem d_V_fallen_52 : decode b_V_fallen 52 = .ok (.aload_n 0, 1) := by decide +kernel
theorem d_V_fallen_53 : decode b_V_fallen 53 = .ok (.iload 7, 2) := by decide +kernel
theorem d_V_fallen_55 : decode b_V_fallen 55 = .ok (.invokevirtual 107, 3) := by decide +kernel
theorem d_V_fallen_58 : decode b_V_fallen 58 = .ok (.aload_n 0, 1) := by decide +kernel
theorem d_V_fallen_59 : decode b_V_fallen 59 = .ok (.iload 7, 2) := by decide +kernel
theorem d_V_fallen_61 : decode b_V_fallen 61 = .ok (.iload_n 3, 1) := by decide +kernel
theorem d_V_fallen_62 : decode b_V_fallen 62 = .ok (.invokevirtual 110, 3) := by decide +kernel
theorem d_V_fallen_65 : decode b_V_fallen 65 = .ok (.aload_n 0, 1) := by decide +kernel
theorem d_V_fallen_66 : decode b_V_fallen 66 = .ok (.iload 7, 2) := by decide +kernel
theorem d_V_fallen_68 : decode b_V_fallen 68 = .ok (.invokevirtual 113, 3) := by decide +kernel
theorem d_V_fallen_71 : decode b_V_fallen 71 = .ok (.iadd, 1) := by decide +kernel
theorem d_V_fallen_72 : decode b_V_fallen 72 = .ok (.if_icmp .le 10, 3) := by decide +kernel
theorem d_V_fallen_75 : decode b_V_fallen 75 = .ok (.iload_n 3, 1) := by decide +kernel
theorem d_V_fallen_76 : decode b_V_fallen 76 = .ok (.iconst 1, 1) := by decide +kernel
theorem d_V_fallen_77 : decode b_V_fallen 77 = .ok (.iload 7, 2) := by decide +kernel
theorem d_V_fallen_79 : decode b_V_fallen 79 = .ok (.ishl, 1) := by decide +kernel
theorem d_V_fallen_80 : decode b_V_fallen 80 = .ok (.ior, 1) := by decide +kernel
theorem d_V_fallen_81 : decode b_V_fallen 81 = .ok (.istore_n 3, 1) := by decide +kernel
theorem d_V_fallen_82 : decode b_V_fallen 82 = .ok (.iinc 7 1, 3) := by decide +kernel
theorem d_V_fallen_85 : decode b_V_fallen 85 = .ok (.goto (-57), 3) := by decide +kernel
theorem d_V_fallen_88 : decode b_V_fallen 88 = .ok (.iload_n 3, 1) := by decide +kernel
theorem d_V_fallen_89 : decode b_V_fallen 89 = .ok (.iload 6, 2) := by decide +kernel
theorem d_V_fallen_91 : decode b_V_fallen 91 = .ok (.if_icmp .eq 7, 3) := by decide +kernel
theorem d_V_fallen_94 : decode b_V_fallen 94 = .ok (.iconst 1, 1) := by decide +kernel
theorem d_V_fallen_95 : decode b_V_fallen 95 = .ok (.goto 4, 3) := by decide +kernel
theorem d_V_fallen_98 : decode b_V_fallen 98 = .ok (.iconst 0, 1) := by decide +kernel
theorem d_V_fallen_99 : decode b_V_fallen 99 = .ok (.istore 4, 2) := by decide +kernel
theorem d_V_fallen_101 : decode b_V_fallen 101 = .ok (.iinc 5 1, 3) := by decide +kernel
theorem d_V_fallen_104 : decode b_V_fallen 104 = .ok (.goto (-94), 3) := by decide +kernel
theorem d_V_fallen_107 : decode b_V_fallen 107 = .ok (.iload_n 3, 1) := by decide +kernel
theorem d_V_fallen_108 : decode b_V_fallen 108 = .ok (.iconst 1, 1) := by decide +kernel
theorem d_V_fallen_109 : decode b_V_fallen 109 = .ok (.iload_n 1, 1) := by decide +kernel
theorem d_V_fallen_110 : decode b_V_fallen 110 = .ok (.ishl, 1) := by decide +kernel
theorem d_V_fallen_111 : decode b_V_fallen 111 = .ok (.iconst (-1), 1) := by decide +kernel
theorem d_V_fallen_112 : decode b_V_fallen 112 = .ok (.ixor, 1) := by decide +kernel
theorem d_V_fallen_113 : decode b_V_fallen 113 = .ok (.iand, 1) := by decide +kernel
theorem d_V_fallen_114 : decode b_V_fallen 114 = .ok (.ireturn, 1) := by decide +kernel
theorem d_V_growthFor_0 : decode b_V_growthFor 0 = .ok (.getstatic 55, 3) := by decide +kernel
theorem d_V_growthFor_3 : decode b_V_growthFor 3 = .ok (.aload_n 0, 1) := by decide +kernel
theorem d_V_growthFor_4 : decode b_V_growthFor 4 = .ok (.iload_n 1, 1) := by decide +kernel
theorem d_V_growthFor_5 : decode b_V_growthFor 5 = .ok (.invokevirtual 41, 3) := by decide +kernel
theorem d_V_growthFor_8 : decode b_V_growthFor 8 = .ok (.iaload, 1) := by decide +kernel
theorem d_V_growthFor_9 : decode b_V_growthFor 9 = .ok (.ireturn, 1) := by decide +kernel
theorem d_V_hasDraft_0 : decode b_V_hasDraft 0 = .ok (.iload_n 1, 1) := by decide +kernel
theorem d_V_hasDraft_1 : decode b_V_hasDraft 1 = .ok (.ifCond .lt 15, 3) := by decide +kernel
theorem d_V_hasDraft_4 : decode b_V_hasDraft 4 = .ok (.iload_n 1, 1) := by decide +kernel
theorem d_V_hasDraft_5 : decode b_V_hasDraft 5 = .ok (.aload_n 0, 1) := by decide +kernel
theorem d_V_hasDraft_6 : decode b_V_hasDraft 6 = .ok (.getfield 15, 3) := by decide +kernel
theorem d_V_hasDraft_9 : decode b_V_hasDraft 9 = .ok (.if_icmp .ge 7, 3) := by decide +kernel
theorem d_V_hasDraft_12 : decode b_V_hasDraft 12 = .ok (.iconst 1, 1) := by decide +kernel
theorem d_V_hasDraft_13 : decode b_V_hasDraft 13 = .ok (.goto 4, 3) := by decide +kernel
theorem d_V_hasDraft_16 : decode b_V_hasDraft 16 = .ok (.iconst 0, 1) := by decide +kernel
theorem d_V_hasDraft_17 : decode b_V_hasDraft 17 = .ok (.ireturn, 1) := by decide +kernel
theorem d_V_hasPerson_0 : decode b_V_hasPerson 0 = .ok (.iload_n 1, 1) := by decide +kernel
theorem d_V_hasPerson_1 : decode b_V_hasPerson 1 = .ok (.ifCond .lt 15, 3) := by decide +kernel
theorem d_V_hasPerson_4 : decode b_V_hasPerson 4 = .ok (.iload_n 1, 1) := by decide +kernel
theorem d_V_hasPerson_5 : decode b_V_hasPerson 5 = .ok (.aload_n 0, 1) := by decide +kernel
theorem d_V_hasPerson_6 : decode b_V_hasPerson 6 = .ok (.getfield 9, 3) := by decide +kernel
theorem d_V_hasPerson_9 : decode b_V_hasPerson 9 = .ok (.if_icmp .ge 7, 3) := by decide +kernel
theorem d_V_hasPerson_12 : decode b_V_hasPerson 12 = .ok (.iconst 1, 1) := by decide +kernel
theorem d_V_hasPerson_13 : decode b_V_hasPerson 13 = .ok (.goto 4, 3) := by decide +kernel
theorem d_V_hasPerson_16 : decode b_V_hasPerson 16 = .ok (.iconst 0, 1) := by decide +kernel
theorem d_V_hasPerson_17 : decode b_V_hasPerson 17 = .ok (.ireturn, 1) := by decide +kernel
theorem d_V_hasTwo_0 : decode b_V_hasTwo 0 = .ok (.aload_n 0, 1) := by decide +kernel
theorem d_V_hasTwo_1 : decode b_V_hasTwo 1 = .ok (.iload_n 1, 1) := by decide +kernel
theorem d_V_hasTwo_2 : decode b_V_hasTwo 2 = .ok (.invokevirtual 29, 3) := by decide +kernel
theorem d_V_hasTwo_5 : decode b_V_hasTwo 5 = .ok (.ifCond .eq 20, 3) := by decide +kernel
theorem d_V_hasTwo_8 : decode b_V_hasTwo 8 = .ok (.aload_n 0, 1) := by decide +kernel
theorem d_V_hasTwo_9 : decode b_V_hasTwo 9 = .ok (.iload_n 2, 1) := by decide +kernel
theorem d_V_hasTwo_10 : decode b_V_hasTwo 10 = .ok (.invokevirtual 29, 3) := by decide +kernel
theorem d_V_hasTwo_13 : decode b_V_hasTwo 13 = .ok (.ifCond .eq 12, 3) := by decide +kernel
theorem d_V_hasTwo_16 : decode b_V_hasTwo 16 = .ok (.iload_n 1, 1) := by decide +kernel
theorem d_V_hasTwo_17 : decode b_V_hasTwo 17 = .ok (.iload_n 2, 1) := by decide +kernel
theorem d_V_hasTwo_18 : decode b_V_hasTwo 18 = .ok (.if_icmp .eq 7, 3) := by decide +kernel
theorem d_V_hasTwo_21 : decode b_V_hasTwo 21 = .ok (.iconst 1, 1) := by decide +kernel
theorem d_V_hasTwo_22 : decode b_V_hasTwo 22 = .ok (.goto 4, 3) := by decide +kernel
theorem d_V_hasTwo_25 : decode b_V_hasTwo 25 = .ok (.iconst 0, 1) := by decide +kernel
theorem d_V_hasTwo_26 : decode b_V_hasTwo 26 = .ok (.ireturn, 1) := by decide +kernel
theorem d_V_isEmpty_0 : decode b_V_isEmpty 0 = .ok (.aload_n 0, 1) := by decide +kernel
theorem d_V_isEmpty_1 : decode b_V_isEmpty 1 = .ok (.getfield 9, 3) := by decide +kernel
theorem d_V_isEmpty_4 : decode b_V_isEmpty 4 = .ok (.ifCond .ne 7, 3) := by decide +kernel
theorem d_V_isEmpty_7 : decode b_V_isEmpty 7 = .ok (.iconst 1, 1) := by decide +kernel
theorem d_V_isEmpty_8 : decode b_V_isEmpty 8 = .ok (.goto 4, 3) := by decide +kernel
theorem d_V_isEmpty_11 : decode b_V_isEmpty 11 = .ok (.iconst 0, 1) := by decide +kernel
theorem d_V_isEmpty_12 : decode b_V_isEmpty 12 = .ok (.ireturn, 1) := by decide +kernel
theorem d_V_isOfKind_0 : decode b_V_isOfKind 0 = .ok (.aload_n 0, 1) := by decide +kernel
theorem d_V_isOfKind_1 : decode b_V_isOfKind 1 = .ok (.iload_n 1, 1) := by decide +kernel
theorem d_V_isOfKind_2 : decode b_V_isOfKind 2 = .ok (.invokevirtual 41, 3) := by decide +kernel
theorem d_V_isOfKind_5 : decode b_V_isOfKind 5 = .ok (.istore_n 3, 1) := by decide +kernel
theorem d_V_isOfKind_6 : decode b_V_isOfKind 6 = .ok (.iconst 0, 1) := by decide +kernel
theorem d_V_isOfKind_7 : decode b_V_isOfKind 7 = .ok (.istore 4, 2) := by decide +kernel
theorem d_V_isOfKind_9 : decode b_V_isOfKind 9 = .ok (.iload 4, 2) := by decide +kernel
theorem d_V_isOfKind_11 : decode b_V_isOfKind 11 = .ok (.bipush 6, 2) := by decide +kernel
theorem d_V_isOfKind_13 : decode b_V_isOfKind 13 = .ok (.if_icmp .ge 30, 3) := by decide +kernel
theorem d_V_isOfKind_16 : decode b_V_isOfKind 16 = .ok (.iload_n 3, 1) := by decide +kernel
theorem d_V_isOfKind_17 : decode b_V_isOfKind 17 = .ok (.iload_n 2, 1) := by decide +kernel
theorem d_V_isOfKind_18 : decode b_V_isOfKind 18 = .ok (.if_icmp .eq 25, 3) := by decide +kernel
theorem d_V_isOfKind_21 : decode b_V_isOfKind 21 = .ok (.iload_n 3, 1) := by decide +kernel
theorem d_V_isOfKind_22 : decode b_V_isOfKind 22 = .ok (.ifCond .le 21, 3) := by decide +kernel
theorem d_V_isOfKind_25 : decode b_V_isOfKind 25 = .ok (.iload_n 3, 1) := by decide +kernel
theorem d_V_isOfKind_26 : decode b_V_isOfKind 26 = .ok (.bipush 6, 2) := by decide +kernel
theorem d_V_isOfKind_28 : decode b_V_isOfKind 28 = .ok (.if_icmp .ge 15, 3) := by decide +kernel
theorem d_V_isOfKind_31 : decode b_V_isOfKind 31 = .ok (.getstatic 45, 3) := by decide +kernel
theorem d_V_isOfKind_34 : decode b_V_isOfKind 34 = .ok (.iload_n 3, 1) := by decide +kernel
theorem d_V_isOfKind_35 : decode b_V_isOfKind 35 = .ok (.iaload, 1) := by decide +kernel
theorem d_V_isOfKind_36 : decode b_V_isOfKind 36 = .ok (.istore_n 3, 1) := by decide +kernel
theorem d_V_isOfKind_37 : decode b_V_isOfKind 37 = .ok (.iinc 4 1, 3) := by decide +kernel
theorem d_V_isOfKind_40 : decode b_V_isOfKind 40 = .ok (.goto (-31), 3) := by decide +kernel
theorem d_V_isOfKind_43 : decode b_V_isOfKind 43 = .ok (.iload_n 3, 1) := by decide +kernel
theorem d_V_isOfKind_44 : decode b_V_isOfKind 44 = .ok (.iload_n 2, 1) := by decide +kernel
theorem d_V_isOfKind_45 : decode b_V_isOfKind 45 = .ok (.if_icmp .ne 7, 3) := by decide +kernel
theorem d_V_isOfKind_48 : decode b_V_isOfKind 48 = .ok (.iconst 1, 1) := by decide +kernel
theorem d_V_isOfKind_49 : decode b_V_isOfKind 49 = .ok (.goto 4, 3) := by decide +kernel
theorem d_V_isOfKind_52 : decode b_V_isOfKind 52 = .ok (.iconst 0, 1) := by decide +kernel
theorem d_V_isOfKind_53 : decode b_V_isOfKind 53 = .ok (.ireturn, 1) := by decide +kernel
theorem d_V_isRing_0 : decode b_V_isRing 0 = .ok (.iload_n 2, 1) := by decide +kernel
theorem d_V_isRing_1 : decode b_V_isRing 1 = .ok (.iconst 3, 1) := by decide +kernel
theorem d_V_isRing_2 : decode b_V_isRing 2 = .ok (.if_icmp .lt 25, 3) := by decide +kernel
theorem d_V_isRing_5 : decode b_V_isRing 5 = .ok (.iload_n 2, 1) := by decide +kernel
theorem d_V_isRing_6 : decode b_V_isRing 6 = .ok (.bipush 6, 2) := by decide +kernel
theorem d_V_isRing_8 : decode b_V_isRing 8 = .ok (.if_icmp .gt 19, 3) := by decide +kernel
theorem d_V_isRing_11 : decode b_V_isRing 11 = .ok (.iload_n 2, 1) := by decide +kernel
theorem d_V_isRing_12 : decode b_V_isRing 12 = .ok (.aload_n 1, 1) := by decide +kernel
theorem d_V_isRing_13 : decode b_V_isRing 13 = .ok (.arraylength, 1) := by decide +kernel
theorem d_V_isRing_14 : decode b_V_isRing 14 = .ok (.if_icmp .gt 13, 3) := by decide +kernel
theorem d_V_isRing_17 : decode b_V_isRing 17 = .ok (.aload_n 0, 1) := by decide +kernel
theorem d_V_isRing_18 : decode b_V_isRing 18 = .ok (.aload_n 1, 1) := by decide +kernel
theorem d_V_isRing_19 : decode b_V_isRing 19 = .ok (.iconst 0, 1) := by decide +kernel
theorem d_V_isRing_20 : decode b_V_isRing 20 = .ok (.iaload, 1) := by decide +kernel
theorem d_V_isRing_21 : decode b_V_isRing 21 = .ok (.invokevirtual 94, 3) := by decide +kernel
theorem d_V_isRing_24 : decode b_V_isRing 24 = .ok (.ifCond .ne 5, 3) := by decide +kernel
theorem d_V_isRing_27 : decode b_V_isRing 27 = .ok (.iconst 0, 1) := by decide +kernel
theorem d_V_isRing_28 : decode b_V_isRing 28 = .ok (.ireturn, 1) := by decide +kernel
theorem d_V_isRing_29 : decode b_V_isRing 29 = .ok (.aload_n 0, 1) := by decide +kernel
theorem d_V_isRing_30 : decode b_V_isRing 30 = .ok (.getfield 24, 3) := by decide +kernel
theorem d_V_isRing_33 : decode b_V_isRing 33 = .ok (.aload_n 1, 1) := by decide +kernel
theorem d_V_isRing_34 : decode b_V_isRing 34 = .ok (.iconst 0, 1) := by decide +kernel
theorem d_V_isRing_35 : decode b_V_isRing 35 = .ok (.iaload, 1) := by decide +kernel
theorem d_V_isRing_36 : decode b_V_isRing 36 = .ok (.aaload, 1) := by decide +kernel
theorem d_V_isRing_37 : decode b_V_isRing 37 = .ok (.getfield 72, 3) := by decide +kernel
theorem d_V_isRing_40 : decode b_V_isRing 40 = .ok (.istore_n 3, 1) := by decide +kernel
theorem d_V_isRing_41 : decode b_V_isRing 41 = .ok (.iconst 0, 1) := by decide +kernel
theorem d_V_isRing_42 : decode b_V_isRing 42 = .ok (.istore 4, 2) := by decide +kernel
theorem d_V_isRing_44 : decode b_V_isRing 44 = .ok (.iconst 0, 1) := by decide +kernel
theorem d_V_isRing_45 : decode b_V_isRing 45 = .ok (.istore 5, 2) := by decide +kernel
theorem d_V_isRing_47 : decode b_V_isRing 47 = .ok (.iload 5, 2) := by decide +kernel
theorem d_V_isRing_49 : decode b_V_isRing 49 = .ok (.iload_n 2, 1) := by decide +kernel
theorem d_V_isRing_50 : decode b_V_isRing 50 = .ok (.if_icmp .ge 116, 3) := by decide +kernel
theorem d_V_isRing_53 : decode b_V_isRing 53 = .ok (.aload_n 1, 1) := by decide +kernel
theorem d_V_isRing_54 : decode b_V_isRing 54 = .ok (.iload 5, 2) := by decide +kernel
theorem d_V_isRing_56 : decode b_V_isRing 56 = .ok (.iconst 1, 1) := by decide +kernel
theorem d_V_isRing_57 : decode b_V_isRing 57 = .ok (.iadd, 1) := by decide +kernel
theorem d_V_isRing_58 : decode b_V_isRing 58 = .ok (.iload_n 2, 1) := by decide +kernel
theorem d_V_isRing_59 : decode b_V_isRing 59 = .ok (.if_icmp .ge 10, 3) := by decide +kernel
theorem d_V_isRing_62 : decode b_V_isRing 62 = .ok (.iload 5, 2) := by decide +kernel
theorem d_V_isRing_64 : decode b_V_isRing 64 = .ok (.iconst 1, 1) := by decide +kernel
theorem d_V_isRing_65 : decode b_V_isRing 65 = .ok (.iadd, 1) := by decide +kernel
theorem d_V_isRing_66 : decode b_V_isRing 66 = .ok (.goto 4, 3) := by decide +kernel
theorem d_V_isRing_69 : decode b_V_isRing 69 = .ok (.iconst 0, 1) := by decide +kernel
theorem d_V_isRing_70 : decode b_V_isRing 70 = .ok (.iaload, 1) := by decide +kernel
theorem d_V_isRing_71 : decode b_V_isRing 71 = .ok (.istore 6, 2) := by decide +kernel
theorem d_V_isRing_73 : decode b_V_isRing 73 = .ok (.aload_n 0, 1) := by decide +kernel
theorem d_V_isRing_74 : decode b_V_isRing 74 = .ok (.aload_n 1, 1) := by decide +kernel
theorem d_V_isRing_75 : decode b_V_isRing 75 = .ok (.iload 5, 2) := by decide +kernel
theorem d_V_isRing_77 : decode b_V_isRing 77 = .ok (.iaload, 1) := by decide +kernel
theorem d_V_isRing_78 : decode b_V_isRing 78 = .ok (.invokevirtual 94, 3) := by decide +kernel
theorem d_V_isRing_81 : decode b_V_isRing 81 = .ok (.ifCond .eq 12, 3) := by decide +kernel
theorem d_V_isRing_84 : decode b_V_isRing 84 = .ok (.aload_n 0, 1) := by decide +kernel
theorem d_V_isRing_85 : decode b_V_isRing 85 = .ok (.iload 6, 2) := by decide +kernel
theorem d_V_isRing_87 : decode b_V_isRing 87 = .ok (.invokevirtual 94, 3) := by decide +kernel
theorem d_V_isRing_90 : decode b_V_isRing 90 = .ok (.ifCond .ne 5, 3) := by decide +kernel
theorem d_V_isRing_93 : decode b_V_isRing 93 = .ok (.iconst 0, 1) := by decide +kernel
theorem d_V_isRing_94 : decode b_V_isRing 94 = .ok (.ireturn, 1) := by decide +kernel
theorem d_V_isRing_95 : decode b_V_isRing 95 = .ok (.aload_n 0, 1) := by decide +kernel
theorem d_V_isRing_96 : decode b_V_isRing 96 = .ok (.getfield 24, 3) := by decide +kernel
theorem d_V_isRing_99 : decode b_V_isRing 99 = .ok (.aload_n 1, 1) := by decide +kernel
theorem d_V_isRing_100 : decode b_V_isRing 100 = .ok (.iload 5, 2) := by decide +kernel
theorem d_V_isRing_102 : decode b_V_isRing 102 = .ok (.iaload, 1) := by decide +kernel
theorem d_V_isRing_103 : decode b_V_isRing 103 = .ok (.aaload, 1) := by decide +kernel
theorem d_V_isRing_104 : decode b_V_isRing 104 = .ok (.astore 7, 2) := by decide +kernel
theorem d_V_isRing_106 : decode b_V_isRing 106 = .ok (.aload 7, 2) := by decide +kernel
theorem d_V_isRing_108 : decode b_V_isRing 108 = .ok (.iload_n 3, 1) := by decide +kernel
theorem d_V_isRing_109 : decode b_V_isRing 109 = .ok (.invokevirtual 97, 3) := by decide +kernel
theorem d_V_isRing_112 : decode b_V_isRing 112 = .ok (.ifCond .eq 34, 3) := by decide +kernel
theorem d_V_isRing_115 : decode b_V_isRing 115 = .ok (.aload 7, 2) := by decide +kernel
theorem d_V_isRing_117 : decode b_V_isRing 117 = .ok (.getfield 65, 3) := by decide +kernel
theorem d_V_isRing_120 : decode b_V_isRing 120 = .ok (.aload_n 0, 1) := by decide +kernel
theorem d_V_isRing_121 : decode b_V_isRing 121 = .ok (.getfield 24, 3) := by decide +kernel
theorem d_V_isRing_124 : decode b_V_isRing 124 = .ok (.iload 6, 2) := by decide +kernel
theorem d_V_isRing_126 : decode b_V_isRing 126 = .ok (.aaload, 1) := by decide +kernel
theorem d_V_isRing_127 : decode b_V_isRing 127 = .ok (.getfield 58, 3) := by decide +kernel
theorem d_V_isRing_130 : decode b_V_isRing 130 = .ok (.if_icmp .ne 16, 3) := by decide +kernel
theorem d_V_isRing_133 : decode b_V_isRing 133 = .ok (.iload 4, 2) := by decide +kernel
theorem d_V_isRing_135 : decode b_V_isRing 135 = .ok (.iconst 1, 1) := by decide +kernel
theorem d_V_isRing_136 : decode b_V_isRing 136 = .ok (.aload 7, 2) := by decide +kernel
theorem d_V_isRing_138 : decode b_V_isRing 138 = .ok (.getfield 58, 3) := by decide +kernel
theorem d_V_isRing_141 : decode b_V_isRing 141 = .ok (.ishl, 1) := by decide +kernel
theorem d_V_isRing_142 : decode b_V_isRing 142 = .ok (.iand, 1) := by decide +kernel
theorem d_V_isRing_143 : decode b_V_isRing 143 = .ok (.ifCond .eq 5, 3) := by decide +kernel
theorem d_V_isRing_146 : decode b_V_isRing 146 = .ok (.iconst 0, 1) := by decide +kernel
theorem d_V_isRing_147 : decode b_V_isRing 147 = .ok (.ireturn, 1) := by decide +kernel
theorem d_V_isRing_148 : decode b_V_isRing 148 = .ok (.iload 4, 2) := by decide +kernel
theorem d_V_isRing_150 : decode b_V_isRing 150 = .ok (.iconst 1, 1) := by decide +kernel
theorem d_V_isRing_151 : decode b_V_isRing 151 = .ok (.aload 7, 2) := by decide +kernel
theorem d_V_isRing_153 : decode b_V_isRing 153 = .ok (.getfield 58, 3) := by decide +kernel
theorem d_V_isRing_156 : decode b_V_isRing 156 = .ok (.ishl, 1) := by decide +kernel
theorem d_V_isRing_157 : decode b_V_isRing 157 = .ok (.ior, 1) := by decide +kernel
theorem d_V_isRing_158 : decode b_V_isRing 158 = .ok (.istore 4, 2) := by decide +kernel
theorem d_V_isRing_160 : decode b_V_isRing 160 = .ok (.iinc 5 1, 3) := by decide +kernel
theorem d_V_isRing_163 : decode b_V_isRing 163 = .ok (.goto (-116), 3) := by decide +kernel
theorem d_V_isRing_166 : decode b_V_isRing 166 = .ok (.iload_n 3, 1) := by decide +kernel
theorem d_V_isRing_167 : decode b_V_isRing 167 = .ok (.iconst 2, 1) := by decide +kernel
theorem d_V_isRing_168 : decode b_V_isRing 168 = .ok (.if_icmp .eq 7, 3) := by decide +kernel
theorem d_V_isRing_171 : decode b_V_isRing 171 = .ok (.iconst 1, 1) := by decide +kernel
theorem d_V_isRing_172 : decode b_V_isRing 172 = .ok (.goto 4, 3) := by decide +kernel
theorem d_V_isRing_175 : decode b_V_isRing 175 = .ok (.iconst 0, 1) := by decide +kernel
theorem d_V_isRing_176 : decode b_V_isRing 176 = .ok (.ireturn, 1) := by decide +kernel
theorem d_V_kindOf_0 : decode b_V_kindOf 0 = .ok (.aload_n 0, 1) := by decide +kernel
theorem d_V_kindOf_1 : decode b_V_kindOf 1 = .ok (.iload_n 1, 1) := by decide +kernel
theorem d_V_kindOf_2 : decode b_V_kindOf 2 = .ok (.invokevirtual 29, 3) := by decide +kernel
theorem d_V_kindOf_5 : decode b_V_kindOf 5 = .ok (.ifCond .eq 12, 3) := by decide +kernel
theorem d_V_kindOf_8 : decode b_V_kindOf 8 = .ok (.aload_n 0, 1) := by decide +kernel
theorem d_V_kindOf_9 : decode b_V_kindOf 9 = .ok (.getfield 18, 3) := by decide +kernel
theorem d_V_kindOf_12 : decode b_V_kindOf 12 = .ok (.iload_n 1, 1) := by decide +kernel
theorem d_V_kindOf_13 : decode b_V_kindOf 13 = .ok (.iaload, 1) := by decide +kernel
theorem d_V_kindOf_14 : decode b_V_kindOf 14 = .ok (.goto 4, 3) := by decide +kernel
theorem d_V_kindOf_17 : decode b_V_kindOf 17 = .ok (.iconst 0, 1) := by decide +kernel
theorem d_V_kindOf_18 : decode b_V_kindOf 18 = .ok (.ireturn, 1) := by decide +kernel
theorem d_V_kissesBetween_0 : decode b_V_kissesBetween 0 = .ok (.iconst 0, 1) := by decide +kernel
theorem d_V_kissesBetween_1 : decode b_V_kissesBetween 1 = .ok (.istore 4, 2) := by decide +kernel
theorem d_V_kissesBetween_3 : decode b_V_kissesBetween 3 = .ok (.iconst 0, 1) := by decide +kernel
theorem d_V_kissesBetween_4 : decode b_V_kissesBetween 4 = .ok (.istore 5, 2) := by decide +kernel
theorem d_V_kissesBetween_6 : decode b_V_kissesBetween 6 = .ok (.iload 5, 2) := by decide +kernel
theorem d_V_kissesBetween_8 : decode b_V_kissesBetween 8 = .ok (.aload_n 0, 1) := by decide +kernel
theorem d_V_kissesBetween_9 : decode b_V_kissesBetween 9 = .ok (.getfield 15, 3) := by decide +kernel
theorem d_V_kissesBetween_12 : decode b_V_kissesBetween 12 = .ok (.if_icmp .ge 66, 3) := by decide +kernel
theorem d_V_kissesBetween_15 : decode b_V_kissesBetween 15 = .ok (.aload_n 0, 1) := by decide +kernel
theorem d_V_kissesBetween_16 : decode b_V_kissesBetween 16 = .ok (.getfield 24, 3) := by decide +kernel
theorem d_V_kissesBetween_19 : decode b_V_kissesBetween 19 = .ok (.iload 5, 2) := by decide +kernel
theorem d_V_kissesBetween_21 : decode b_V_kissesBetween 21 = .ok (.aaload, 1) := by decide +kernel
theorem d_V_kissesBetween_22 : decode b_V_kissesBetween 22 = .ok (.getfield 58, 3) := by decide +kernel
theorem d_V_kissesBetween_25 : decode b_V_kissesBetween 25 = .ok (.iload_n 1, 1) := by decide +kernel
theorem d_V_kissesBetween_26 : decode b_V_kissesBetween 26 = .ok (.if_icmp .ne 46, 3) := by decide +kernel
theorem d_V_kissesBetween_29 : decode b_V_kissesBetween 29 = .ok (.aload_n 0, 1) := by decide +kernel
theorem d_V_kissesBetween_30 : decode b_V_kissesBetween 30 = .ok (.getfield 24, 3) := by decide +kernel
theorem d_V_kissesBetween_33 : decode b_V_kissesBetween 33 = .ok (.iload 5, 2) := by decide +kernel
theorem d_V_kissesBetween_35 : decode b_V_kissesBetween 35 = .ok (.aaload, 1) := by decide +kernel
theorem d_V_kissesBetween_36 : decode b_V_kissesBetween 36 = .ok (.getfield 65, 3) := by decide +kernel
theorem d_V_kissesBetween_39 : decode b_V_kissesBetween 39 = .ok (.iload_n 2, 1) := by decide +kernel
theorem d_V_kissesBetween_40 : decode b_V_kissesBetween 40 = .ok (.if_icmp .ne 32, 3) := by decide +kernel
theorem d_V_kissesBetween_43 : decode b_V_kissesBetween 43 = .ok (.aload_n 0, 1) := by decide +kernel
theorem d_V_kissesBetween_44 : decode b_V_kissesBetween 44 = .ok (.getfield 24, 3) := by decide +kernel
theorem d_V_kissesBetween_47 : decode b_V_kissesBetween 47 = .ok (.iload 5, 2) := by decide +kernel
theorem d_V_kissesBetween_49 : decode b_V_kissesBetween 49 = .ok (.aaload, 1) := by decide +kernel
theorem d_V_kissesBetween_50 : decode b_V_kissesBetween 50 = .ok (.getfield 72, 3) := by decide +kernel
theorem d_V_kissesBetween_53 : decode b_V_kissesBetween 53 = .ok (.iload_n 3, 1) := by decide +kernel
theorem d_V_kissesBetween_54 : decode b_V_kissesBetween 54 = .ok (.if_icmp .ne 18, 3) := by decide +kernel
theorem d_V_kissesBetween_57 : decode b_V_kissesBetween 57 = .ok (.iload 4, 2) := by decide +kernel
theorem d_V_kissesBetween_59 : decode b_V_kissesBetween 59 = .ok (.aload_n 0, 1) := by decide +kernel
theorem d_V_kissesBetween_60 : decode b_V_kissesBetween 60 = .ok (.getfield 24, 3) := by decide +kernel
theorem d_V_kissesBetween_63 : decode b_V_kissesBetween 63 = .ok (.iload 5, 2) := by decide +kernel
theorem d_V_kissesBetween_65 : decode b_V_kissesBetween 65 = .ok (.aaload, 1) := by decide +kernel
theorem d_V_kissesBetween_66 : decode b_V_kissesBetween 66 = .ok (.getfield 78, 3) := by decide +kernel
theorem d_V_kissesBetween_69 : decode b_V_kissesBetween 69 = .ok (.iadd, 1) := by decide +kernel
theorem d_V_kissesBetween_70 : decode b_V_kissesBetween 70 = .ok (.istore 4, 2) := by decide +kernel
theorem d_V_kissesBetween_72 : decode b_V_kissesBetween 72 = .ok (.iinc 5 1, 3) := by decide +kernel
theorem d_V_kissesBetween_75 : decode b_V_kissesBetween 75 = .ok (.goto (-69), 3) := by decide +kernel
theorem d_V_kissesBetween_78 : decode b_V_kissesBetween 78 = .ok (.iload 4, 2) := by decide +kernel
theorem d_V_kissesBetween_80 : decode b_V_kissesBetween 80 = .ok (.ireturn, 1) := by decide +kernel
theorem d_V_kissesOfSort_0 : decode b_V_kissesOfSort 0 = .ok (.iconst 0, 1) := by decide +kernel
theorem d_V_kissesOfSort_1 : decode b_V_kissesOfSort 1 = .ok (.istore_n 2, 1) := by decide +kernel
theorem d_V_kissesOfSort_2 : decode b_V_kissesOfSort 2 = .ok (.iconst 0, 1) := by decide +kernel
theorem d_V_kissesOfSort_3 : decode b_V_kissesOfSort 3 = .ok (.istore_n 3, 1) := by decide +kernel
theorem d_V_kissesOfSort_4 : decode b_V_kissesOfSort 4 = .ok (.iload_n 3, 1) := by decide +kernel
theorem d_V_kissesOfSort_5 : decode b_V_kissesOfSort 5 = .ok (.aload_n 0, 1) := by decide +kernel
theorem d_V_kissesOfSort_6 : decode b_V_kissesOfSort 6 = .ok (.getfield 15, 3) := by decide +kernel
theorem d_V_kissesOfSort_9 : decode b_V_kissesOfSort 9 = .ok (.if_icmp .ge 34, 3) := by decide +kernel
theorem d_V_kissesOfSort_12 : decode b_V_kissesOfSort 12 = .ok (.aload_n 0, 1) := by decide +kernel
theorem d_V_kissesOfSort_13 : decode b_V_kissesOfSort 13 = .ok (.getfield 24, 3) := by decide +kernel
theorem d_V_kissesOfSort_16 : decode b_V_kissesOfSort 16 = .ok (.iload_n 3, 1) := by decide +kernel
theorem d_V_kissesOfSort_17 : decode b_V_kissesOfSort 17 = .ok (.aaload, 1) := by decide +kernel
theorem d_V_kissesOfSort_18 : decode b_V_kissesOfSort 18 = .ok (.getfield 72, 3) := by decide +kernel
theorem d_V_kissesOfSort_21 : decode b_V_kissesOfSort 21 = .ok (.iload_n 1, 1) := by decide +kernel
theorem d_V_kissesOfSort_22 : decode b_V_kissesOfSort 22 = .ok (.if_icmp .ne 15, 3) := by decide +kernel
theorem d_V_kissesOfSort_25 : decode b_V_kissesOfSort 25 = .ok (.iload_n 2, 1) := by decide +kernel
theorem d_V_kissesOfSort_26 : decode b_V_kissesOfSort 26 = .ok (.aload_n 0, 1) := by decide +kernel
theorem d_V_kissesOfSort_27 : decode b_V_kissesOfSort 27 = .ok (.getfield 24, 3) := by decide +kernel
theorem d_V_kissesOfSort_30 : decode b_V_kissesOfSort 30 = .ok (.iload_n 3, 1) := by decide +kernel
theorem d_V_kissesOfSort_31 : decode b_V_kissesOfSort 31 = .ok (.aaload, 1) := by decide +kernel
theorem d_V_kissesOfSort_32 : decode b_V_kissesOfSort 32 = .ok (.getfield 78, 3) := by decide +kernel
theorem d_V_kissesOfSort_35 : decode b_V_kissesOfSort 35 = .ok (.iadd, 1) := by decide +kernel
theorem d_V_kissesOfSort_36 : decode b_V_kissesOfSort 36 = .ok (.istore_n 2, 1) := by decide +kernel
theorem d_V_kissesOfSort_37 : decode b_V_kissesOfSort 37 = .ok (.iinc 3 1, 3) := by decide +kernel
theorem d_V_kissesOfSort_40 : decode b_V_kissesOfSort 40 = .ok (.goto (-36), 3) := by decide +kernel
theorem d_V_kissesOfSort_43 : decode b_V_kissesOfSort 43 = .ok (.iload_n 2, 1) := by decide +kernel
theorem d_V_kissesOfSort_44 : decode b_V_kissesOfSort 44 = .ok (.ireturn, 1) := by decide +kernel
theorem d_V_lessen_0 : decode b_V_lessen 0 = .ok (.iload 4, 2) := by decide +kernel
theorem d_V_lessen_2 : decode b_V_lessen 2 = .ok (.istore 5, 2) := by decide +kernel
theorem d_V_lessen_4 : decode b_V_lessen 4 = .ok (.iconst 0, 1) := by decide +kernel
theorem d_V_lessen_5 : decode b_V_lessen 5 = .ok (.istore 6, 2) := by decide +kernel
theorem d_V_lessen_7 : decode b_V_lessen 7 = .ok (.iload 6, 2) := by decide +kernel
theorem d_V_lessen_9 : decode b_V_lessen 9 = .ok (.aload_n 0, 1) := by decide +kernel
theorem d_V_lessen_10 : decode b_V_lessen 10 = .ok (.getfield 15, 3) := by decide +kernel
theorem d_V_lessen_13 : decode b_V_lessen 13 = .ok (.if_icmp .ge 76, 3) := by decide +kernel
theorem d_V_lessen_16 : decode b_V_lessen 16 = .ok (.aload_n 0, 1) := by decide +kernel
theorem d_V_lessen_17 : decode b_V_lessen 17 = .ok (.getfield 24, 3) := by decide +kernel
theorem d_V_lessen_20 : decode b_V_lessen 20 = .ok (.iload 6, 2) := by decide +kernel
theorem d_V_lessen_22 : decode b_V_lessen 22 = .ok (.aaload, 1) := by decide +kernel
theorem d_V_lessen_23 : decode b_V_lessen 23 = .ok (.astore 7, 2) := by decide +kernel
theorem d_V_lessen_25 : decode b_V_lessen 25 = .ok (.aload 7, 2) := by decide +kernel
theorem d_V_lessen_27 : decode b_V_lessen 27 = .ok (.getfield 58, 3) := by decide +kernel
theorem d_V_lessen_30 : decode b_V_lessen 30 = .ok (.iload_n 1, 1) := by decide +kernel
theorem d_V_lessen_31 : decode b_V_lessen 31 = .ok (.if_icmp .ne 52, 3) := by decide +kernel
theorem d_V_lessen_34 : decode b_V_lessen 34 = .ok (.aload 7, 2) := by decide +kernel
theorem d_V_lessen_36 : decode b_V_lessen 36 = .ok (.getfield 65, 3) := by decide +kernel
theorem d_V_lessen_39 : decode b_V_lessen 39 = .ok (.iload_n 2, 1) := by decide +kernel
theorem d_V_lessen_40 : decode b_V_lessen 40 = .ok (.if_icmp .ne 43, 3) := by decide +kernel
theorem d_V_lessen_43 : decode b_V_lessen 43 = .ok (.aload 7, 2) := by decide +kernel
theorem d_V_lessen_45 : decode b_V_lessen 45 = .ok (.getfield 72, 3) := by decide +kernel
theorem d_V_lessen_48 : decode b_V_lessen 48 = .ok (.iload_n 3, 1) := by decide +kernel
theorem d_V_lessen_49 : decode b_V_lessen 49 = .ok (.if_icmp .ne 34, 3) := by decide +kernel
theorem d_V_lessen_52 : decode b_V_lessen 52 = .ok (.iload 5, 2) := by decide +kernel
theorem d_V_lessen_54 : decode b_V_lessen 54 = .ok (.aload 7, 2) := by decide +kernel
theorem d_V_lessen_56 : decode b_V_lessen 56 = .ok (.getfield 78, 3) := by decide +kernel
theorem d_V_lessen_59 : decode b_V_lessen 59 = .ok (.invokestatic 85, 3) := by decide +kernel
theorem d_V_lessen_62 : decode b_V_lessen 62 = .ok (.istore 8, 2) := by decide +kernel
theorem d_V_lessen_64 : decode b_V_lessen 64 = .ok (.aload 7, 2) := by decide +kernel
theorem d_V_lessen_66 : decode b_V_lessen 66 = .ok (.dup, 1) := by decide +kernel
theorem d_V_lessen_67 : decode b_V_lessen 67 = .ok (.getfield 78, 3) := by decide +kernel
theorem d_V_lessen_70 : decode b_V_lessen 70 = .ok (.iload 8, 2) := by decide +kernel
theorem d_V_lessen_72 : decode b_V_lessen 72 = .ok (.isub, 1) := by decide +kernel
theorem d_V_lessen_73 : decode b_V_lessen 73 = .ok (.putfield 78, 3) := by decide +kernel
theorem d_V_lessen_76 : decode b_V_lessen 76 = .ok (.iload 5, 2) := by decide +kernel
theorem d_V_lessen_78 : decode b_V_lessen 78 = .ok (.iload 8, 2) := by decide +kernel
theorem d_V_lessen_80 : decode b_V_lessen 80 = .ok (.isub, 1) := by decide +kernel
theorem d_V_lessen_81 : decode b_V_lessen 81 = .ok (.istore 5, 2) := by decide +kernel
theorem d_V_lessen_83 : decode b_V_lessen 83 = .ok (.iinc 6 1, 3) := by decide +kernel
theorem d_V_lessen_86 : decode b_V_lessen 86 = .ok (.goto (-79), 3) := by decide +kernel
theorem d_V_lessen_89 : decode b_V_lessen 89 = .ok (.return_, 1) := by decide +kernel
theorem d_V_netOwing_0 : decode b_V_netOwing 0 = .ok (.iconst 0, 1) := by decide +kernel
theorem d_V_netOwing_1 : decode b_V_netOwing 1 = .ok (.istore_n 3, 1) := by decide +kernel
theorem d_V_netOwing_2 : decode b_V_netOwing 2 = .ok (.iconst 0, 1) := by decide +kernel
theorem d_V_netOwing_3 : decode b_V_netOwing 3 = .ok (.istore 4, 2) := by decide +kernel
theorem d_V_netOwing_5 : decode b_V_netOwing 5 = .ok (.iload 4, 2) := by decide +kernel
theorem d_V_netOwing_7 : decode b_V_netOwing 7 = .ok (.aload_n 0, 1) := by decide +kernel
theorem d_V_netOwing_8 : decode b_V_netOwing 8 = .ok (.getfield 15, 3) := by decide +kernel
theorem d_V_netOwing_11 : decode b_V_netOwing 11 = .ok (.if_icmp .ge 85, 3) := by decide +kernel
theorem d_V_netOwing_14 : decode b_V_netOwing 14 = .ok (.aload_n 0, 1) := by decide +kernel
theorem d_V_netOwing_15 : decode b_V_netOwing 15 = .ok (.getfield 24, 3) := by decide +kernel
theorem d_V_netOwing_18 : decode b_V_netOwing 18 = .ok (.iload 4, 2) := by decide +kernel
theorem d_V_netOwing_20 : decode b_V_netOwing 20 = .ok (.aaload, 1) := by decide +kernel
theorem d_V_netOwing_21 : decode b_V_netOwing 21 = .ok (.getfield 72, 3) := by decide +kernel
theorem d_V_netOwing_24 : decode b_V_netOwing 24 = .ok (.iload_n 2, 1) := by decide +kernel
theorem d_V_netOwing_25 : decode b_V_netOwing 25 = .ok (.if_icmp .ne 65, 3) := by decide +kernel
theorem d_V_netOwing_28 : decode b_V_netOwing 28 = .ok (.iload_n 3, 1) := by decide +kernel
theorem d_V_netOwing_29 : decode b_V_netOwing 29 = .ok (.aload_n 0, 1) := by decide +kernel
theorem d_V_netOwing_30 : decode b_V_netOwing 30 = .ok (.getfield 24, 3) := by decide +kernel
theorem d_V_netOwing_33 : decode b_V_netOwing 33 = .ok (.iload 4, 2) := by decide +kernel
theorem d_V_netOwing_35 : decode b_V_netOwing 35 = .ok (.aaload, 1) := by decide +kernel
theorem d_V_netOwing_36 : decode b_V_netOwing 36 = .ok (.getfield 58, 3) := by decide +kernel
theorem d_V_netOwing_39 : decode b_V_netOwing 39 = .ok (.iload_n 1, 1) := by decide +kernel
theorem d_V_netOwing_40 : decode b_V_netOwing 40 = .ok (.if_icmp .ne 16, 3) := by decide +kernel
theorem d_V_netOwing_43 : decode b_V_netOwing 43 = .ok (.aload_n 0, 1) := by decide +kernel
theorem d_V_netOwing_44 : decode b_V_netOwing 44 = .ok (.getfield 24, 3) := by decide +kernel
theorem d_V_netOwing_47 : decode b_V_netOwing 47 = .ok (.iload 4, 2) := by decide +kernel
theorem d_V_netOwing_49 : decode b_V_netOwing 49 = .ok (.aaload, 1) := by decide +kernel
theorem d_V_netOwing_50 : decode b_V_netOwing 50 = .ok (.getfield 78, 3) := by decide +kernel
theorem d_V_netOwing_53 : decode b_V_netOwing 53 = .ok (.goto 4, 3) := by decide +kernel
theorem d_V_netOwing_56 : decode b_V_netOwing 56 = .ok (.iconst 0, 1) := by decide +kernel
theorem d_V_netOwing_57 : decode b_V_netOwing 57 = .ok (.iadd, 1) := by decide +kernel
theorem d_V_netOwing_58 : decode b_V_netOwing 58 = .ok (.istore_n 3, 1) := by decide +kernel
theorem d_V_netOwing_59 : decode b_V_netOwing 59 = .ok (.iload_n 3, 1) := by decide +kernel
theorem d_V_netOwing_60 : decode b_V_netOwing 60 = .ok (.aload_n 0, 1) := by decide +kernel
theorem d_V_netOwing_61 : decode b_V_netOwing 61 = .ok (.getfield 24, 3) := by decide +kernel
theorem d_V_netOwing_64 : decode b_V_netOwing 64 = .ok (.iload 4, 2) := by decide +kernel
theorem d_V_netOwing_66 : decode b_V_netOwing 66 = .ok (.aaload, 1) := by decide +kernel
theorem d_V_netOwing_67 : decode b_V_netOwing 67 = .ok (.getfield 65, 3) := by decide +kernel
theorem d_V_netOwing_70 : decode b_V_netOwing 70 = .ok (.iload_n 1, 1) := by decide +kernel
theorem d_V_netOwing_71 : decode b_V_netOwing 71 = .ok (.if_icmp .ne 16, 3) := by decide +kernel
theorem d_V_netOwing_74 : decode b_V_netOwing 74 = .ok (.aload_n 0, 1) := by decide +kernel
theorem d_V_netOwing_75 : decode b_V_netOwing 75 = .ok (.getfield 24, 3) := by decide +kernel
theorem d_V_netOwing_78 : decode b_V_netOwing 78 = .ok (.iload 4, 2) := by decide +kernel
theorem d_V_netOwing_80 : decode b_V_netOwing 80 = .ok (.aaload, 1) := by decide +kernel
theorem d_V_netOwing_81 : decode b_V_netOwing 81 = .ok (.getfield 78, 3) := by decide +kernel
theorem d_V_netOwing_84 : decode b_V_netOwing 84 = .ok (.goto 4, 3) := by decide +kernel
theorem d_V_netOwing_87 : decode b_V_netOwing 87 = .ok (.iconst 0, 1) := by decide +kernel
theorem d_V_netOwing_88 : decode b_V_netOwing 88 = .ok (.isub, 1) := by decide +kernel
theorem d_V_netOwing_89 : decode b_V_netOwing 89 = .ok (.istore_n 3, 1) := by decide +kernel
theorem d_V_netOwing_90 : decode b_V_netOwing 90 = .ok (.iinc 4 1, 3) := by decide +kernel
theorem d_V_netOwing_93 : decode b_V_netOwing 93 = .ok (.goto (-88), 3) := by decide +kernel
theorem d_V_netOwing_96 : decode b_V_netOwing 96 = .ok (.iload_n 3, 1) := by decide +kernel
theorem d_V_netOwing_97 : decode b_V_netOwing 97 = .ok (.ireturn, 1) := by decide +kernel
theorem d_V_netTwo_0 : decode b_V_netTwo 0 = .ok (.iconst 0, 1) := by decide +kernel
theorem d_V_netTwo_1 : decode b_V_netTwo 1 = .ok (.istore_n 3, 1) := by decide +kernel
theorem d_V_netTwo_2 : decode b_V_netTwo 2 = .ok (.iconst 0, 1) := by decide +kernel
theorem d_V_netTwo_3 : decode b_V_netTwo 3 = .ok (.istore 4, 2) := by decide +kernel
theorem d_V_netTwo_5 : decode b_V_netTwo 5 = .ok (.iload 4, 2) := by decide +kernel
theorem d_V_netTwo_7 : decode b_V_netTwo 7 = .ok (.iconst 1, 1) := by decide +kernel
theorem d_V_netTwo_8 : decode b_V_netTwo 8 = .ok (.if_icmp .gt 55, 3) := by decide +kernel
theorem d_V_netTwo_11 : decode b_V_netTwo 11 = .ok (.aload_n 0, 1) := by decide +kernel
theorem d_V_netTwo_12 : decode b_V_netTwo 12 = .ok (.iload_n 1, 1) := by decide +kernel
theorem d_V_netTwo_13 : decode b_V_netTwo 13 = .ok (.iload_n 2, 1) := by decide +kernel
theorem d_V_netTwo_14 : decode b_V_netTwo 14 = .ok (.iload 4, 2) := by decide +kernel
theorem d_V_netTwo_16 : decode b_V_netTwo 16 = .ok (.invokevirtual 81, 3) := by decide +kernel
theorem d_V_netTwo_19 : decode b_V_netTwo 19 = .ok (.aload_n 0, 1) := by decide +kernel
theorem d_V_netTwo_20 : decode b_V_netTwo 20 = .ok (.iload_n 2, 1) := by decide +kernel
theorem d_V_netTwo_21 : decode b_V_netTwo 21 = .ok (.iload_n 1, 1) := by decide +kernel
theorem d_V_netTwo_22 : decode b_V_netTwo 22 = .ok (.iload 4, 2) := by decide +kernel
theorem d_V_netTwo_24 : decode b_V_netTwo 24 = .ok (.invokevirtual 81, 3) := by decide +kernel
theorem d_V_netTwo_27 : decode b_V_netTwo 27 = .ok (.invokestatic 85, 3) := by decide +kernel
theorem d_V_netTwo_30 : decode b_V_netTwo 30 = .ok (.istore 5, 2) := by decide +kernel
theorem d_V_netTwo_32 : decode b_V_netTwo 32 = .ok (.aload_n 0, 1) := by decide +kernel
theorem d_V_netTwo_33 : decode b_V_netTwo 33 = .ok (.iload_n 1, 1) := by decide +kernel
theorem d_V_netTwo_34 : decode b_V_netTwo 34 = .ok (.iload_n 2, 1) := by decide +kernel
theorem d_V_netTwo_35 : decode b_V_netTwo 35 = .ok (.iload 4, 2) := by decide +kernel
theorem d_V_netTwo_37 : decode b_V_netTwo 37 = .ok (.iload 5, 2) := by decide +kernel
theorem d_V_netTwo_39 : decode b_V_netTwo 39 = .ok (.invokevirtual 91, 3) := by decide +kernel
theorem d_V_netTwo_42 : decode b_V_netTwo 42 = .ok (.aload_n 0, 1) := by decide +kernel
theorem d_V_netTwo_43 : decode b_V_netTwo 43 = .ok (.iload_n 2, 1) := by decide +kernel
theorem d_V_netTwo_44 : decode b_V_netTwo 44 = .ok (.iload_n 1, 1) := by decide +kernel
theorem d_V_netTwo_45 : decode b_V_netTwo 45 = .ok (.iload 4, 2) := by decide +kernel
theorem d_V_netTwo_47 : decode b_V_netTwo 47 = .ok (.iload 5, 2) := by decide +kernel
theorem d_V_netTwo_49 : decode b_V_netTwo 49 = .ok (.invokevirtual 91, 3) := by decide +kernel
theorem d_V_netTwo_52 : decode b_V_netTwo 52 = .ok (.iload_n 3, 1) := by decide +kernel
theorem d_V_netTwo_53 : decode b_V_netTwo 53 = .ok (.iload 5, 2) := by decide +kernel
theorem d_V_netTwo_55 : decode b_V_netTwo 55 = .ok (.iadd, 1) := by decide +kernel
theorem d_V_netTwo_56 : decode b_V_netTwo 56 = .ok (.istore_n 3, 1) := by decide +kernel
theorem d_V_netTwo_57 : decode b_V_netTwo 57 = .ok (.iinc 4 1, 3) := by decide +kernel
theorem d_V_netTwo_60 : decode b_V_netTwo 60 = .ok (.goto (-55), 3) := by decide +kernel
theorem d_V_netTwo_63 : decode b_V_netTwo 63 = .ok (.iload_n 3, 1) := by decide +kernel
theorem d_V_netTwo_64 : decode b_V_netTwo 64 = .ok (.ireturn, 1) := by decide +kernel
theorem d_V_openDrafts_0 : decode b_V_openDrafts 0 = .ok (.iconst 0, 1) := by decide +kernel
theorem d_V_openDrafts_1 : decode b_V_openDrafts 1 = .ok (.istore_n 1, 1) := by decide +kernel
theorem d_V_openDrafts_2 : decode b_V_openDrafts 2 = .ok (.iconst 0, 1) := by decide +kernel
theorem d_V_openDrafts_3 : decode b_V_openDrafts 3 = .ok (.istore_n 2, 1) := by decide +kernel
theorem d_V_openDrafts_4 : decode b_V_openDrafts 4 = .ok (.iload_n 2, 1) := by decide +kernel
theorem d_V_openDrafts_5 : decode b_V_openDrafts 5 = .ok (.aload_n 0, 1) := by decide +kernel
theorem d_V_openDrafts_6 : decode b_V_openDrafts 6 = .ok (.getfield 15, 3) := by decide +kernel
theorem d_V_openDrafts_9 : decode b_V_openDrafts 9 = .ok (.if_icmp .ge 24, 3) := by decide +kernel
theorem d_V_openDrafts_12 : decode b_V_openDrafts 12 = .ok (.aload_n 0, 1) := by decide +kernel
theorem d_V_openDrafts_13 : decode b_V_openDrafts 13 = .ok (.getfield 24, 3) := by decide +kernel
theorem d_V_openDrafts_16 : decode b_V_openDrafts 16 = .ok (.iload_n 2, 1) := by decide +kernel
theorem d_V_openDrafts_17 : decode b_V_openDrafts 17 = .ok (.aaload, 1) := by decide +kernel
theorem d_V_openDrafts_18 : decode b_V_openDrafts 18 = .ok (.invokevirtual 68, 3) := by decide +kernel
theorem d_V_openDrafts_21 : decode b_V_openDrafts 21 = .ok (.ifCond .eq 6, 3) := by decide +kernel
theorem d_V_openDrafts_24 : decode b_V_openDrafts 24 = .ok (.iinc 1 1, 3) := by decide +kernel
theorem d_V_openDrafts_27 : decode b_V_openDrafts 27 = .ok (.iinc 2 1, 3) := by decide +kernel
theorem d_V_openDrafts_30 : decode b_V_openDrafts 30 = .ok (.goto (-26), 3) := by decide +kernel
theorem d_V_openDrafts_33 : decode b_V_openDrafts 33 = .ok (.iload_n 1, 1) := by decide +kernel
theorem d_V_openDrafts_34 : decode b_V_openDrafts 34 = .ok (.ireturn, 1) := by decide +kernel
theorem d_V_openOn_0 : decode b_V_openOn 0 = .ok (.iconst 0, 1) := by decide +kernel
theorem d_V_openOn_1 : decode b_V_openOn 1 = .ok (.istore_n 2, 1) := by decide +kernel
theorem d_V_openOn_2 : decode b_V_openOn 2 = .ok (.iconst 0, 1) := by decide +kernel
theorem d_V_openOn_3 : decode b_V_openOn 3 = .ok (.istore_n 3, 1) := by decide +kernel
theorem d_V_openOn_4 : decode b_V_openOn 4 = .ok (.iload_n 3, 1) := by decide +kernel
theorem d_V_openOn_5 : decode b_V_openOn 5 = .ok (.aload_n 0, 1) := by decide +kernel
theorem d_V_openOn_6 : decode b_V_openOn 6 = .ok (.getfield 15, 3) := by decide +kernel
theorem d_V_openOn_9 : decode b_V_openOn 9 = .ok (.if_icmp .ge 37, 3) := by decide +kernel
theorem d_V_openOn_12 : decode b_V_openOn 12 = .ok (.aload_n 0, 1) := by decide +kernel
theorem d_V_openOn_13 : decode b_V_openOn 13 = .ok (.getfield 24, 3) := by decide +kernel
theorem d_V_openOn_16 : decode b_V_openOn 16 = .ok (.iload_n 3, 1) := by decide +kernel
theorem d_V_openOn_17 : decode b_V_openOn 17 = .ok (.aaload, 1) := by decide +kernel
theorem d_V_openOn_18 : decode b_V_openOn 18 = .ok (.invokevirtual 68, 3) := by decide +kernel
theorem d_V_openOn_21 : decode b_V_openOn 21 = .ok (.ifCond .eq 19, 3) := by decide +kernel
theorem d_V_openOn_24 : decode b_V_openOn 24 = .ok (.aload_n 0, 1) := by decide +kernel
theorem d_V_openOn_25 : decode b_V_openOn 25 = .ok (.getfield 24, 3) := by decide +kernel
theorem d_V_openOn_28 : decode b_V_openOn 28 = .ok (.iload_n 3, 1) := by decide +kernel
theorem d_V_openOn_29 : decode b_V_openOn 29 = .ok (.aaload, 1) := by decide +kernel
theorem d_V_openOn_30 : decode b_V_openOn 30 = .ok (.getfield 58, 3) := by decide +kernel
theorem d_V_openOn_33 : decode b_V_openOn 33 = .ok (.iload_n 1, 1) := by decide +kernel
theorem d_V_openOn_34 : decode b_V_openOn 34 = .ok (.if_icmp .ne 6, 3) := by decide +kernel
theorem d_V_openOn_37 : decode b_V_openOn 37 = .ok (.iinc 2 1, 3) := by decide +kernel
theorem d_V_openOn_40 : decode b_V_openOn 40 = .ok (.iinc 3 1, 3) := by decide +kernel
theorem d_V_openOn_43 : decode b_V_openOn 43 = .ok (.goto (-39), 3) := by decide +kernel
theorem d_V_openOn_46 : decode b_V_openOn 46 = .ok (.iload_n 2, 1) := by decide +kernel
theorem d_V_openOn_47 : decode b_V_openOn 47 = .ok (.ireturn, 1) := by decide +kernel
theorem d_V_openOwedTo_0 : decode b_V_openOwedTo 0 = .ok (.iconst 0, 1) := by decide +kernel
theorem d_V_openOwedTo_1 : decode b_V_openOwedTo 1 = .ok (.istore_n 2, 1) := by decide +kernel
theorem d_V_openOwedTo_2 : decode b_V_openOwedTo 2 = .ok (.iconst 0, 1) := by decide +kernel
theorem d_V_openOwedTo_3 : decode b_V_openOwedTo 3 = .ok (.istore_n 3, 1) := by decide +kernel
theorem d_V_openOwedTo_4 : decode b_V_openOwedTo 4 = .ok (.iload_n 3, 1) := by decide +kernel
theorem d_V_openOwedTo_5 : decode b_V_openOwedTo 5 = .ok (.aload_n 0, 1) := by decide +kernel
theorem d_V_openOwedTo_6 : decode b_V_openOwedTo 6 = .ok (.getfield 15, 3) := by decide +kernel
theorem d_V_openOwedTo_9 : decode b_V_openOwedTo 9 = .ok (.if_icmp .ge 37, 3) := by decide +kernel
theorem d_V_openOwedTo_12 : decode b_V_openOwedTo 12 = .ok (.aload_n 0, 1) := by decide +kernel
theorem d_V_openOwedTo_13 : decode b_V_openOwedTo 13 = .ok (.getfield 24, 3) := by decide +kernel
theorem d_V_openOwedTo_16 : decode b_V_openOwedTo 16 = .ok (.iload_n 3, 1) := by decide +kernel
theorem d_V_openOwedTo_17 : decode b_V_openOwedTo 17 = .ok (.aaload, 1) := by decide +kernel
theorem d_V_openOwedTo_18 : decode b_V_openOwedTo 18 = .ok (.invokevirtual 68, 3) := by decide +kernel
theorem d_V_openOwedTo_21 : decode b_V_openOwedTo 21 = .ok (.ifCond .eq 19, 3) := by decide +kernel
theorem d_V_openOwedTo_24 : decode b_V_openOwedTo 24 = .ok (.aload_n 0, 1) := by decide +kernel
theorem d_V_openOwedTo_25 : decode b_V_openOwedTo 25 = .ok (.getfield 24, 3) := by decide +kernel
theorem d_V_openOwedTo_28 : decode b_V_openOwedTo 28 = .ok (.iload_n 3, 1) := by decide +kernel
theorem d_V_openOwedTo_29 : decode b_V_openOwedTo 29 = .ok (.aaload, 1) := by decide +kernel
theorem d_V_openOwedTo_30 : decode b_V_openOwedTo 30 = .ok (.getfield 65, 3) := by decide +kernel
theorem d_V_openOwedTo_33 : decode b_V_openOwedTo 33 = .ok (.iload_n 1, 1) := by decide +kernel
theorem d_V_openOwedTo_34 : decode b_V_openOwedTo 34 = .ok (.if_icmp .ne 6, 3) := by decide +kernel
theorem d_V_openOwedTo_37 : decode b_V_openOwedTo 37 = .ok (.iinc 2 1, 3) := by decide +kernel
theorem d_V_openOwedTo_40 : decode b_V_openOwedTo 40 = .ok (.iinc 3 1, 3) := by decide +kernel
theorem d_V_openOwedTo_43 : decode b_V_openOwedTo 43 = .ok (.goto (-39), 3) := by decide +kernel
theorem d_V_openOwedTo_46 : decode b_V_openOwedTo 46 = .ok (.iload_n 2, 1) := by decide +kernel
theorem d_V_openOwedTo_47 : decode b_V_openOwedTo 47 = .ok (.ireturn, 1) := by decide +kernel
theorem d_V_owed_0 : decode b_V_owed 0 = .ok (.iconst 0, 1) := by decide +kernel
theorem d_V_owed_1 : decode b_V_owed 1 = .ok (.istore_n 3, 1) := by decide +kernel
theorem d_V_owed_2 : decode b_V_owed 2 = .ok (.iconst 0, 1) := by decide +kernel
theorem d_V_owed_3 : decode b_V_owed 3 = .ok (.istore 4, 2) := by decide +kernel
theorem d_V_owed_5 : decode b_V_owed 5 = .ok (.iload 4, 2) := by decide +kernel
theorem d_V_owed_7 : decode b_V_owed 7 = .ok (.aload_n 0, 1) := by decide +kernel
theorem d_V_owed_8 : decode b_V_owed 8 = .ok (.getfield 15, 3) := by decide +kernel
theorem d_V_owed_11 : decode b_V_owed 11 = .ok (.if_icmp .ge 53, 3) := by decide +kernel
theorem d_V_owed_14 : decode b_V_owed 14 = .ok (.aload_n 0, 1) := by decide +kernel
theorem d_V_owed_15 : decode b_V_owed 15 = .ok (.getfield 24, 3) := by decide +kernel
theorem d_V_owed_18 : decode b_V_owed 18 = .ok (.iload 4, 2) := by decide +kernel
theorem d_V_owed_20 : decode b_V_owed 20 = .ok (.aaload, 1) := by decide +kernel
theorem d_V_owed_21 : decode b_V_owed 21 = .ok (.getfield 65, 3) := by decide +kernel
theorem d_V_owed_24 : decode b_V_owed 24 = .ok (.iload_n 1, 1) := by decide +kernel
theorem d_V_owed_25 : decode b_V_owed 25 = .ok (.if_icmp .ne 33, 3) := by decide +kernel
theorem d_V_owed_28 : decode b_V_owed 28 = .ok (.iload_n 2, 1) := by decide +kernel
theorem d_V_owed_29 : decode b_V_owed 29 = .ok (.iconst 1, 1) := by decide +kernel
theorem d_V_owed_30 : decode b_V_owed 30 = .ok (.aload_n 0, 1) := by decide +kernel
theorem d_V_owed_31 : decode b_V_owed 31 = .ok (.getfield 24, 3) := by decide +kernel
theorem d_V_owed_34 : decode b_V_owed 34 = .ok (.iload 4, 2) := by decide +kernel
theorem d_V_owed_36 : decode b_V_owed 36 = .ok (.aaload, 1) := by decide +kernel
theorem d_V_owed_37 : decode b_V_owed 37 = .ok (.getfield 58, 3) := by decide +kernel
theorem d_V_owed_40 : decode b_V_owed 40 = .ok (.ishl, 1) := by decide +kernel
theorem d_V_owed_41 : decode b_V_owed 41 = .ok (.iand, 1) := by decide +kernel
theorem d_V_owed_42 : decode b_V_owed 42 = .ok (.ifCond .ne 16, 3) := by decide +kernel
theorem d_V_owed_45 : decode b_V_owed 45 = .ok (.iload_n 3, 1) := by decide +kernel
theorem d_V_owed_46 : decode b_V_owed 46 = .ok (.aload_n 0, 1) := by decide +kernel
theorem d_V_owed_47 : decode b_V_owed 47 = .ok (.getfield 24, 3) := by decide +kernel
theorem d_V_owed_50 : decode b_V_owed 50 = .ok (.iload 4, 2) := by decide +kernel
theorem d_V_owed_52 : decode b_V_owed 52 = .ok (.aaload, 1) := by decide +kernel
theorem d_V_owed_53 : decode b_V_owed 53 = .ok (.invokevirtual 61, 3) := by decide +kernel
theorem d_V_owed_56 : decode b_V_owed 56 = .ok (.iadd, 1) := by decide +kernel
theorem d_V_owed_57 : decode b_V_owed 57 = .ok (.istore_n 3, 1) := by decide +kernel
theorem d_V_owed_58 : decode b_V_owed 58 = .ok (.iinc 4 1, 3) := by decide +kernel
theorem d_V_owed_61 : decode b_V_owed 61 = .ok (.goto (-56), 3) := by decide +kernel
theorem d_V_owed_64 : decode b_V_owed 64 = .ok (.iload_n 3, 1) := by decide +kernel
theorem d_V_owed_65 : decode b_V_owed 65 = .ok (.ireturn, 1) := by decide +kernel
theorem d_V_owedByAny_0 : decode b_V_owedByAny 0 = .ok (.iconst 0, 1) := by decide +kernel
theorem d_V_owedByAny_1 : decode b_V_owedByAny 1 = .ok (.istore_n 2, 1) := by decide +kernel
theorem d_V_owedByAny_2 : decode b_V_owedByAny 2 = .ok (.iconst 0, 1) := by decide +kernel
theorem d_V_owedByAny_3 : decode b_V_owedByAny 3 = .ok (.istore_n 3, 1) := by decide +kernel
theorem d_V_owedByAny_4 : decode b_V_owedByAny 4 = .ok (.iload_n 3, 1) := by decide +kernel
theorem d_V_owedByAny_5 : decode b_V_owedByAny 5 = .ok (.aload_n 0, 1) := by decide +kernel
theorem d_V_owedByAny_6 : decode b_V_owedByAny 6 = .ok (.getfield 15, 3) := by decide +kernel
theorem d_V_owedByAny_9 : decode b_V_owedByAny 9 = .ok (.if_icmp .ge 51, 3) := by decide +kernel
theorem d_V_owedByAny_12 : decode b_V_owedByAny 12 = .ok (.aload_n 0, 1) := by decide +kernel
theorem d_V_owedByAny_13 : decode b_V_owedByAny 13 = .ok (.getfield 24, 3) := by decide +kernel
theorem d_V_owedByAny_16 : decode b_V_owedByAny 16 = .ok (.iload_n 3, 1) := by decide +kernel
theorem d_V_owedByAny_17 : decode b_V_owedByAny 17 = .ok (.aaload, 1) := by decide +kernel
theorem d_V_owedByAny_18 : decode b_V_owedByAny 18 = .ok (.invokevirtual 68, 3) := by decide +kernel
theorem d_V_owedByAny_21 : decode b_V_owedByAny 21 = .ok (.ifCond .eq 33, 3) := by decide +kernel
theorem d_V_owedByAny_24 : decode b_V_owedByAny 24 = .ok (.iload_n 1, 1) := by decide +kernel
theorem d_V_owedByAny_25 : decode b_V_owedByAny 25 = .ok (.iconst 1, 1) := by decide +kernel
theorem d_V_owedByAny_26 : decode b_V_owedByAny 26 = .ok (.aload_n 0, 1) := by decide +kernel
theorem d_V_owedByAny_27 : decode b_V_owedByAny 27 = .ok (.getfield 24, 3) := by decide +kernel
theorem d_V_owedByAny_30 : decode b_V_owedByAny 30 = .ok (.iload_n 3, 1) := by decide +kernel
theorem d_V_owedByAny_31 : decode b_V_owedByAny 31 = .ok (.aaload, 1) := by decide +kernel
theorem d_V_owedByAny_32 : decode b_V_owedByAny 32 = .ok (.getfield 58, 3) := by decide +kernel
theorem d_V_owedByAny_35 : decode b_V_owedByAny 35 = .ok (.ishl, 1) := by decide +kernel
theorem d_V_owedByAny_36 : decode b_V_owedByAny 36 = .ok (.iand, 1) := by decide +kernel
theorem d_V_owedByAny_37 : decode b_V_owedByAny 37 = .ok (.ifCond .eq 17, 3) := by decide +kernel
theorem d_V_owedByAny_40 : decode b_V_owedByAny 40 = .ok (.iload_n 2, 1) := by decide +kernel
theorem d_V_owedByAny_41 : decode b_V_owedByAny 41 = .ok (.iconst 1, 1) := by decide +kernel
theorem d_V_owedByAny_42 : decode b_V_owedByAny 42 = .ok (.aload_n 0, 1) := by decide +kernel
theorem d_V_owedByAny_43 : decode b_V_owedByAny 43 = .ok (.getfield 24, 3) := by decide +kernel
theorem d_V_owedByAny_46 : decode b_V_owedByAny 46 = .ok (.iload_n 3, 1) := by decide +kernel
theorem d_V_owedByAny_47 : decode b_V_owedByAny 47 = .ok (.aaload, 1) := by decide +kernel
theorem d_V_owedByAny_48 : decode b_V_owedByAny 48 = .ok (.getfield 65, 3) := by decide +kernel
theorem d_V_owedByAny_51 : decode b_V_owedByAny 51 = .ok (.ishl, 1) := by decide +kernel
theorem d_V_owedByAny_52 : decode b_V_owedByAny 52 = .ok (.ior, 1) := by decide +kernel
theorem d_V_owedByAny_53 : decode b_V_owedByAny 53 = .ok (.istore_n 2, 1) := by decide +kernel
theorem d_V_owedByAny_54 : decode b_V_owedByAny 54 = .ok (.iinc 3 1, 3) := by decide +kernel
theorem d_V_owedByAny_57 : decode b_V_owedByAny 57 = .ok (.goto (-53), 3) := by decide +kernel
theorem d_V_owedByAny_60 : decode b_V_owedByAny 60 = .ok (.iload_n 2, 1) := by decide +kernel
theorem d_V_owedByAny_61 : decode b_V_owedByAny 61 = .ok (.ireturn, 1) := by decide +kernel
theorem d_V_owing_0 : decode b_V_owing 0 = .ok (.iconst 0, 1) := by decide +kernel
theorem d_V_owing_1 : decode b_V_owing 1 = .ok (.istore_n 2, 1) := by decide +kernel
theorem d_V_owing_2 : decode b_V_owing 2 = .ok (.iconst 0, 1) := by decide +kernel
theorem d_V_owing_3 : decode b_V_owing 3 = .ok (.istore_n 3, 1) := by decide +kernel
theorem d_V_owing_4 : decode b_V_owing 4 = .ok (.iload_n 3, 1) := by decide +kernel
theorem d_V_owing_5 : decode b_V_owing 5 = .ok (.aload_n 0, 1) := by decide +kernel
theorem d_V_owing_6 : decode b_V_owing 6 = .ok (.getfield 15, 3) := by decide +kernel
theorem d_V_owing_9 : decode b_V_owing 9 = .ok (.if_icmp .ge 34, 3) := by decide +kernel
theorem d_V_owing_12 : decode b_V_owing 12 = .ok (.aload_n 0, 1) := by decide +kernel
theorem d_V_owing_13 : decode b_V_owing 13 = .ok (.getfield 24, 3) := by decide +kernel
theorem d_V_owing_16 : decode b_V_owing 16 = .ok (.iload_n 3, 1) := by decide +kernel
theorem d_V_owing_17 : decode b_V_owing 17 = .ok (.aaload, 1) := by decide +kernel
theorem d_V_owing_18 : decode b_V_owing 18 = .ok (.getfield 58, 3) := by decide +kernel
theorem d_V_owing_21 : decode b_V_owing 21 = .ok (.iload_n 1, 1) := by decide +kernel
theorem d_V_owing_22 : decode b_V_owing 22 = .ok (.if_icmp .ne 15, 3) := by decide +kernel
theorem d_V_owing_25 : decode b_V_owing 25 = .ok (.iload_n 2, 1) := by decide +kernel
theorem d_V_owing_26 : decode b_V_owing 26 = .ok (.aload_n 0, 1) := by decide +kernel
theorem d_V_owing_27 : decode b_V_owing 27 = .ok (.getfield 24, 3) := by decide +kernel
theorem d_V_owing_30 : decode b_V_owing 30 = .ok (.iload_n 3, 1) := by decide +kernel
theorem d_V_owing_31 : decode b_V_owing 31 = .ok (.aaload, 1) := by decide +kernel
theorem d_V_owing_32 : decode b_V_owing 32 = .ok (.invokevirtual 61, 3) := by decide +kernel
theorem d_V_owing_35 : decode b_V_owing 35 = .ok (.iadd, 1) := by decide +kernel
theorem d_V_owing_36 : decode b_V_owing 36 = .ok (.istore_n 2, 1) := by decide +kernel
theorem d_V_owing_37 : decode b_V_owing 37 = .ok (.iinc 3 1, 3) := by decide +kernel
theorem d_V_owing_40 : decode b_V_owing 40 = .ok (.goto (-36), 3) := by decide +kernel
theorem d_V_owing_43 : decode b_V_owing 43 = .ok (.iload_n 2, 1) := by decide +kernel
theorem d_V_owing_44 : decode b_V_owing 44 = .ok (.ireturn, 1) := by decide +kernel
theorem d_V_passWeek_0 : decode b_V_passWeek 0 = .ok (.iconst 0, 1) := by decide +kernel
theorem d_V_passWeek_1 : decode b_V_passWeek 1 = .ok (.istore_n 1, 1) := by decide +kernel
theorem d_V_passWeek_2 : decode b_V_passWeek 2 = .ok (.iconst 0, 1) := by decide +kernel
theorem d_V_passWeek_3 : decode b_V_passWeek 3 = .ok (.istore_n 2, 1) := by decide +kernel
theorem d_V_passWeek_4 : decode b_V_passWeek 4 = .ok (.iload_n 2, 1) := by decide +kernel
theorem d_V_passWeek_5 : decode b_V_passWeek 5 = .ok (.aload_n 0, 1) := by decide +kernel
theorem d_V_passWeek_6 : decode b_V_passWeek 6 = .ok (.getfield 15, 3) := by decide +kernel
theorem d_V_passWeek_9 : decode b_V_passWeek 9 = .ok (.if_icmp .ge 83, 3) := by decide +kernel
theorem d_V_passWeek_12 : decode b_V_passWeek 12 = .ok (.aload_n 0, 1) := by decide +kernel
theorem d_V_passWeek_13 : decode b_V_passWeek 13 = .ok (.getfield 24, 3) := by decide +kernel
theorem d_V_passWeek_16 : decode b_V_passWeek 16 = .ok (.iload_n 2, 1) := by decide +kernel
theorem d_V_passWeek_17 : decode b_V_passWeek 17 = .ok (.aaload, 1) := by decide +kernel
theorem d_V_passWeek_18 : decode b_V_passWeek 18 = .ok (.astore_n 3, 1) := by decide +kernel
theorem d_V_passWeek_19 : decode b_V_passWeek 19 = .ok (.aload_n 3, 1) := by decide +kernel
theorem d_V_passWeek_20 : decode b_V_passWeek 20 = .ok (.invokevirtual 68, 3) := by decide +kernel
theorem d_V_passWeek_23 : decode b_V_passWeek 23 = .ok (.ifCond .eq 63, 3) := by decide +kernel
theorem d_V_passWeek_26 : decode b_V_passWeek 26 = .ok (.aload_n 3, 1) := by decide +kernel
theorem d_V_passWeek_27 : decode b_V_passWeek 27 = .ok (.dup, 1) := by decide +kernel
theorem d_V_passWeek_28 : decode b_V_passWeek 28 = .ok (.getfield 75, 3) := by decide +kernel
theorem d_V_passWeek_31 : decode b_V_passWeek 31 = .ok (.iconst 1, 1) := by decide +kernel
theorem d_V_passWeek_32 : decode b_V_passWeek 32 = .ok (.iadd, 1) := by decide +kernel
theorem d_V_passWeek_33 : decode b_V_passWeek 33 = .ok (.putfield 75, 3) := by decide +kernel
theorem d_V_passWeek_36 : decode b_V_passWeek 36 = .ok (.aload_n 3, 1) := by decide +kernel
theorem d_V_passWeek_37 : decode b_V_passWeek 37 = .ok (.bipush 99, 2) := by decide +kernel
theorem d_V_passWeek_39 : decode b_V_passWeek 39 = .ok (.aload_n 3, 1) := by decide +kernel
theorem d_V_passWeek_40 : decode b_V_passWeek 40 = .ok (.getfield 78, 3) := by decide +kernel
theorem d_V_passWeek_43 : decode b_V_passWeek 43 = .ok (.aload_n 0, 1) := by decide +kernel
theorem d_V_passWeek_44 : decode b_V_passWeek 44 = .ok (.aload_n 3, 1) := by decide +kernel
theorem d_V_passWeek_45 : decode b_V_passWeek 45 = .ok (.getfield 65, 3) := by decide +kernel
theorem d_V_passWeek_48 : decode b_V_passWeek 48 = .ok (.invokevirtual 104, 3) := by decide +kernel
theorem d_V_passWeek_51 : decode b_V_passWeek 51 = .ok (.iadd, 1) := by decide +kernel
theorem d_V_passWeek_52 : decode b_V_passWeek 52 = .ok (.invokestatic 85, 3) := by decide +kernel
theorem d_V_passWeek_55 : decode b_V_passWeek 55 = .ok (.putfield 78, 3) := by decide +kernel
theorem d_V_passWeek_58 : decode b_V_passWeek 58 = .ok (.aload_n 3, 1) := by decide +kernel
theorem d_V_passWeek_59 : decode b_V_passWeek 59 = .ok (.getfield 75, 3) := by decide +kernel
theorem d_V_passWeek_62 : decode b_V_passWeek 62 = .ok (.iconst 4, 1) := by decide +kernel
theorem d_V_passWeek_63 : decode b_V_passWeek 63 = .ok (.if_icmp .lt 23, 3) := by decide +kernel
theorem d_V_passWeek_66 : decode b_V_passWeek 66 = .ok (.aload_n 3, 1) := by decide +kernel
theorem d_V_passWeek_67 : decode b_V_passWeek 67 = .ok (.getfield 72, 3) := by decide +kernel
theorem d_V_passWeek_70 : decode b_V_passWeek 70 = .ok (.iconst 2, 1) := by decide +kernel
theorem d_V_passWeek_71 : decode b_V_passWeek 71 = .ok (.if_icmp .eq 15, 3) := by decide +kernel
theorem d_V_passWeek_74 : decode b_V_passWeek 74 = .ok (.iload_n 1, 1) := by decide +kernel
theorem d_V_passWeek_75 : decode b_V_passWeek 75 = .ok (.aload_n 3, 1) := by decide +kernel
theorem d_V_passWeek_76 : decode b_V_passWeek 76 = .ok (.getfield 78, 3) := by decide +kernel
theorem d_V_passWeek_79 : decode b_V_passWeek 79 = .ok (.iadd, 1) := by decide +kernel
theorem d_V_passWeek_80 : decode b_V_passWeek 80 = .ok (.istore_n 1, 1) := by decide +kernel
theorem d_V_passWeek_81 : decode b_V_passWeek 81 = .ok (.aload_n 3, 1) := by decide +kernel
theorem d_V_passWeek_82 : decode b_V_passWeek 82 = .ok (.iconst 0, 1) := by decide +kernel
theorem d_V_passWeek_83 : decode b_V_passWeek 83 = .ok (.putfield 78, 3) := by decide +kernel
theorem d_V_passWeek_86 : decode b_V_passWeek 86 = .ok (.iinc 2 1, 3) := by decide +kernel
theorem d_V_passWeek_89 : decode b_V_passWeek 89 = .ok (.goto (-85), 3) := by decide +kernel
theorem d_V_passWeek_92 : decode b_V_passWeek 92 = .ok (.iload_n 1, 1) := by decide +kernel
theorem d_V_passWeek_93 : decode b_V_passWeek 93 = .ok (.ireturn, 1) := by decide +kernel
theorem d_V_payTwo_0 : decode b_V_payTwo 0 = .ok (.iconst 0, 1) := by decide +kernel
theorem d_V_payTwo_1 : decode b_V_payTwo 1 = .ok (.istore_n 3, 1) := by decide +kernel
theorem d_V_payTwo_2 : decode b_V_payTwo 2 = .ok (.iconst 0, 1) := by decide +kernel
theorem d_V_payTwo_3 : decode b_V_payTwo 3 = .ok (.istore 4, 2) := by decide +kernel
theorem d_V_payTwo_5 : decode b_V_payTwo 5 = .ok (.iload 4, 2) := by decide +kernel
theorem d_V_payTwo_7 : decode b_V_payTwo 7 = .ok (.aload_n 0, 1) := by decide +kernel
theorem d_V_payTwo_8 : decode b_V_payTwo 8 = .ok (.getfield 15, 3) := by decide +kernel
theorem d_V_payTwo_11 : decode b_V_payTwo 11 = .ok (.if_icmp .ge 93, 3) := by decide +kernel
theorem d_V_payTwo_14 : decode b_V_payTwo 14 = .ok (.aload_n 0, 1) := by decide +kernel
theorem d_V_payTwo_15 : decode b_V_payTwo 15 = .ok (.getfield 24, 3) := by decide +kernel
theorem d_V_payTwo_18 : decode b_V_payTwo 18 = .ok (.iload 4, 2) := by decide +kernel
theorem d_V_payTwo_20 : decode b_V_payTwo 20 = .ok (.aaload, 1) := by decide +kernel
theorem d_V_payTwo_21 : decode b_V_payTwo 21 = .ok (.astore 5, 2) := by decide +kernel
theorem d_V_payTwo_23 : decode b_V_payTwo 23 = .ok (.aload 5, 2) := by decide +kernel
theorem d_V_payTwo_25 : decode b_V_payTwo 25 = .ok (.getfield 58, 3) := by decide +kernel
theorem d_V_payTwo_28 : decode b_V_payTwo 28 = .ok (.iload_n 1, 1) := by decide +kernel
theorem d_V_payTwo_29 : decode b_V_payTwo 29 = .ok (.if_icmp .ne 12, 3) := by decide +kernel
theorem d_V_payTwo_32 : decode b_V_payTwo 32 = .ok (.aload 5, 2) := by decide +kernel
theorem d_V_payTwo_34 : decode b_V_payTwo 34 = .ok (.getfield 65, 3) := by decide +kernel
theorem d_V_payTwo_37 : decode b_V_payTwo 37 = .ok (.iload_n 2, 1) := by decide +kernel
theorem d_V_payTwo_38 : decode b_V_payTwo 38 = .ok (.if_icmp .eq 21, 3) := by decide +kernel
theorem d_V_payTwo_41 : decode b_V_payTwo 41 = .ok (.aload 5, 2) := by decide +kernel
theorem d_V_payTwo_43 : decode b_V_payTwo 43 = .ok (.getfield 58, 3) := by decide +kernel
theorem d_V_payTwo_46 : decode b_V_payTwo 46 = .ok (.iload_n 2, 1) := by decide +kernel
theorem d_V_payTwo_47 : decode b_V_payTwo 47 = .ok (.if_icmp .ne 16, 3) := by decide +kernel
theorem d_V_payTwo_50 : decode b_V_payTwo 50 = .ok (.aload 5, 2) := by decide +kernel
theorem d_V_payTwo_52 : decode b_V_payTwo 52 = .ok (.getfield 65, 3) := by decide +kernel
theorem d_V_payTwo_55 : decode b_V_payTwo 55 = .ok (.iload_n 1, 1) := by decide +kernel
theorem d_V_payTwo_56 : decode b_V_payTwo 56 = .ok (.if_icmp .ne 7, 3) := by decide +kernel
theorem d_V_payTwo_59 : decode b_V_payTwo 59 = .ok (.iconst 1, 1) := by decide +kernel
theorem d_V_payTwo_60 : decode b_V_payTwo 60 = .ok (.goto 4, 3) := by decide +kernel
theorem d_V_payTwo_63 : decode b_V_payTwo 63 = .ok (.iconst 0, 1) := by decide +kernel
theorem d_V_payTwo_64 : decode b_V_payTwo 64 = .ok (.istore 6, 2) := by decide +kernel
theorem d_V_payTwo_66 : decode b_V_payTwo 66 = .ok (.iload 6, 2) := by decide +kernel
theorem d_V_payTwo_68 : decode b_V_payTwo 68 = .ok (.ifCond .eq 30, 3) := by decide +kernel
theorem d_V_payTwo_71 : decode b_V_payTwo 71 = .ok (.aload_n 0, 1) := by decide +kernel
theorem d_V_payTwo_72 : decode b_V_payTwo 72 = .ok (.aload 5, 2) := by decide +kernel
theorem d_V_payTwo_74 : decode b_V_payTwo 74 = .ok (.getfield 58, 3) := by decide +kernel
theorem d_V_payTwo_77 : decode b_V_payTwo 77 = .ok (.iconst 2, 1) := by decide +kernel
theorem d_V_payTwo_78 : decode b_V_payTwo 78 = .ok (.invokevirtual 48, 3) := by decide +kernel
theorem d_V_payTwo_81 : decode b_V_payTwo 81 = .ok (.ifCond .ne 17, 3) := by decide +kernel
theorem d_V_payTwo_84 : decode b_V_payTwo 84 = .ok (.iload_n 3, 1) := by decide +kernel
theorem d_V_payTwo_85 : decode b_V_payTwo 85 = .ok (.aload 5, 2) := by decide +kernel
theorem d_V_payTwo_87 : decode b_V_payTwo 87 = .ok (.getfield 78, 3) := by decide +kernel
theorem d_V_payTwo_90 : decode b_V_payTwo 90 = .ok (.iadd, 1) := by decide +kernel
theorem d_V_payTwo_91 : decode b_V_payTwo 91 = .ok (.istore_n 3, 1) := by decide +kernel
theorem d_V_payTwo_92 : decode b_V_payTwo 92 = .ok (.aload 5, 2) := by decide +kernel
theorem d_V_payTwo_94 : decode b_V_payTwo 94 = .ok (.iconst 0, 1) := by decide +kernel
theorem d_V_payTwo_95 : decode b_V_payTwo 95 = .ok (.putfield 78, 3) := by decide +kernel
theorem d_V_payTwo_98 : decode b_V_payTwo 98 = .ok (.iinc 4 1, 3) := by decide +kernel
theorem d_V_payTwo_101 : decode b_V_payTwo 101 = .ok (.goto (-96), 3) := by decide +kernel
theorem d_V_payTwo_104 : decode b_V_payTwo 104 = .ok (.iload_n 3, 1) := by decide +kernel
theorem d_V_payTwo_105 : decode b_V_payTwo 105 = .ok (.ireturn, 1) := by decide +kernel
theorem d_V_personsOfKind_0 : decode b_V_personsOfKind 0 = .ok (.iconst 0, 1) := by decide +kernel
theorem d_V_personsOfKind_1 : decode b_V_personsOfKind 1 = .ok (.istore_n 2, 1) := by decide +kernel
theorem d_V_personsOfKind_2 : decode b_V_personsOfKind 2 = .ok (.iconst 0, 1) := by decide +kernel
theorem d_V_personsOfKind_3 : decode b_V_personsOfKind 3 = .ok (.istore_n 3, 1) := by decide +kernel
theorem d_V_personsOfKind_4 : decode b_V_personsOfKind 4 = .ok (.iload_n 3, 1) := by decide +kernel
theorem d_V_personsOfKind_5 : decode b_V_personsOfKind 5 = .ok (.aload_n 0, 1) := by decide +kernel
theorem d_V_personsOfKind_6 : decode b_V_personsOfKind 6 = .ok (.getfield 9, 3) := by decide +kernel
theorem d_V_personsOfKind_9 : decode b_V_personsOfKind 9 = .ok (.if_icmp .ge 21, 3) := by decide +kernel
theorem d_V_personsOfKind_12 : decode b_V_personsOfKind 12 = .ok (.aload_n 0, 1) := by decide +kernel
theorem d_V_personsOfKind_13 : decode b_V_personsOfKind 13 = .ok (.iload_n 3, 1) := by decide +kernel
theorem d_V_personsOfKind_14 : decode b_V_personsOfKind 14 = .ok (.iload_n 1, 1) := by decide +kernel
theorem d_V_personsOfKind_15 : decode b_V_personsOfKind 15 = .ok (.invokevirtual 48, 3) := by decide +kernel
theorem d_V_personsOfKind_18 : decode b_V_personsOfKind 18 = .ok (.ifCond .eq 6, 3) := by decide +kernel
theorem d_V_personsOfKind_21 : decode b_V_personsOfKind 21 = .ok (.iinc 2 1, 3) := by decide +kernel
theorem d_V_personsOfKind_24 : decode b_V_personsOfKind 24 = .ok (.iinc 3 1, 3) := by decide +kernel
theorem d_V_personsOfKind_27 : decode b_V_personsOfKind 27 = .ok (.goto (-23), 3) := by decide +kernel
theorem d_V_personsOfKind_30 : decode b_V_personsOfKind 30 = .ok (.iload_n 2, 1) := by decide +kernel
theorem d_V_personsOfKind_31 : decode b_V_personsOfKind 31 = .ok (.ireturn, 1) := by decide +kernel
theorem d_V_reserve_0 : decode b_V_reserve 0 = .ok (.getstatic 52, 3) := by decide +kernel
theorem d_V_reserve_3 : decode b_V_reserve 3 = .ok (.aload_n 0, 1) := by decide +kernel
theorem d_V_reserve_4 : decode b_V_reserve 4 = .ok (.iload_n 1, 1) := by decide +kernel
theorem d_V_reserve_5 : decode b_V_reserve 5 = .ok (.invokevirtual 41, 3) := by decide +kernel
theorem d_V_reserve_8 : decode b_V_reserve 8 = .ok (.iaload, 1) := by decide +kernel
theorem d_V_reserve_9 : decode b_V_reserve 9 = .ok (.ireturn, 1) := by decide +kernel
theorem d_V_souringFor_0 : decode b_V_souringFor 0 = .ok (.iconst 0, 1) := by decide +kernel
theorem d_V_souringFor_1 : decode b_V_souringFor 1 = .ok (.istore_n 2, 1) := by decide +kernel
theorem d_V_souringFor_2 : decode b_V_souringFor 2 = .ok (.iconst 0, 1) := by decide +kernel
theorem d_V_souringFor_3 : decode b_V_souringFor 3 = .ok (.istore_n 3, 1) := by decide +kernel
theorem d_V_souringFor_4 : decode b_V_souringFor 4 = .ok (.iload_n 3, 1) := by decide +kernel
theorem d_V_souringFor_5 : decode b_V_souringFor 5 = .ok (.aload_n 0, 1) := by decide +kernel
theorem d_V_souringFor_6 : decode b_V_souringFor 6 = .ok (.getfield 15, 3) := by decide +kernel
theorem d_V_souringFor_9 : decode b_V_souringFor 9 = .ok (.if_icmp .ge 57, 3) := by decide +kernel
theorem d_V_souringFor_12 : decode b_V_souringFor 12 = .ok (.aload_n 0, 1) := by decide +kernel
theorem d_V_souringFor_13 : decode b_V_souringFor 13 = .ok (.getfield 24, 3) := by decide +kernel
theorem d_V_souringFor_16 : decode b_V_souringFor 16 = .ok (.iload_n 3, 1) := by decide +kernel
theorem d_V_souringFor_17 : decode b_V_souringFor 17 = .ok (.aaload, 1) := by decide +kernel
theorem d_V_souringFor_18 : decode b_V_souringFor 18 = .ok (.astore 4, 2) := by decide +kernel
theorem d_V_souringFor_20 : decode b_V_souringFor 20 = .ok (.aload 4, 2) := by decide +kernel
theorem d_V_souringFor_22 : decode b_V_souringFor 22 = .ok (.invokevirtual 68, 3) := by decide +kernel
theorem d_V_souringFor_25 : decode b_V_souringFor 25 = .ok (.ifCond .eq 35, 3) := by decide +kernel
theorem d_V_souringFor_28 : decode b_V_souringFor 28 = .ok (.aload 4, 2) := by decide +kernel
theorem d_V_souringFor_30 : decode b_V_souringFor 30 = .ok (.getfield 65, 3) := by decide +kernel
theorem d_V_souringFor_33 : decode b_V_souringFor 33 = .ok (.iload_n 1, 1) := by decide +kernel
theorem d_V_souringFor_34 : decode b_V_souringFor 34 = .ok (.if_icmp .ne 26, 3) := by decide +kernel
theorem d_V_souringFor_37 : decode b_V_souringFor 37 = .ok (.aload 4, 2) := by decide +kernel
theorem d_V_souringFor_39 : decode b_V_souringFor 39 = .ok (.getfield 72, 3) := by decide +kernel
theorem d_V_souringFor_42 : decode b_V_souringFor 42 = .ok (.iconst 2, 1) := by decide +kernel
theorem d_V_souringFor_43 : decode b_V_souringFor 43 = .ok (.if_icmp .eq 17, 3) := by decide +kernel
theorem d_V_souringFor_46 : decode b_V_souringFor 46 = .ok (.aload 4, 2) := by decide +kernel
theorem d_V_souringFor_48 : decode b_V_souringFor 48 = .ok (.getfield 75, 3) := by decide +kernel
theorem d_V_souringFor_51 : decode b_V_souringFor 51 = .ok (.iconst 1, 1) := by decide +kernel
theorem d_V_souringFor_52 : decode b_V_souringFor 52 = .ok (.iadd, 1) := by decide +kernel
theorem d_V_souringFor_53 : decode b_V_souringFor 53 = .ok (.iconst 4, 1) := by decide +kernel
theorem d_V_souringFor_54 : decode b_V_souringFor 54 = .ok (.if_icmp .lt 6, 3) := by decide +kernel
theorem d_V_souringFor_57 : decode b_V_souringFor 57 = .ok (.iinc 2 1, 3) := by decide +kernel
theorem d_V_souringFor_60 : decode b_V_souringFor 60 = .ok (.iinc 3 1, 3) := by decide +kernel
theorem d_V_souringFor_63 : decode b_V_souringFor 63 = .ok (.goto (-59), 3) := by decide +kernel
theorem d_V_souringFor_66 : decode b_V_souringFor 66 = .ok (.iload_n 2, 1) := by decide +kernel
theorem d_V_souringFor_67 : decode b_V_souringFor 67 = .ok (.ireturn, 1) := by decide +kernel
theorem d_J_bitCount_0 : decode b_J_bitCount 0 = .ok (.iload_n 0, 1) := by decide +kernel
theorem d_J_bitCount_1 : decode b_J_bitCount 1 = .ok (.iload_n 0, 1) := by decide +kernel
theorem d_J_bitCount_2 : decode b_J_bitCount 2 = .ok (.iconst 1, 1) := by decide +kernel
theorem d_J_bitCount_3 : decode b_J_bitCount 3 = .ok (.iushr, 1) := by decide +kernel
theorem d_J_bitCount_4 : decode b_J_bitCount 4 = .ok (.ldc_w 265, 3) := by decide +kernel
theorem d_J_bitCount_7 : decode b_J_bitCount 7 = .ok (.iand, 1) := by decide +kernel
theorem d_J_bitCount_8 : decode b_J_bitCount 8 = .ok (.isub, 1) := by decide +kernel
theorem d_J_bitCount_9 : decode b_J_bitCount 9 = .ok (.istore_n 0, 1) := by decide +kernel
theorem d_J_bitCount_10 : decode b_J_bitCount 10 = .ok (.iload_n 0, 1) := by decide +kernel
theorem d_J_bitCount_11 : decode b_J_bitCount 11 = .ok (.ldc_w 266, 3) := by decide +kernel
theorem d_J_bitCount_14 : decode b_J_bitCount 14 = .ok (.iand, 1) := by decide +kernel
theorem d_J_bitCount_15 : decode b_J_bitCount 15 = .ok (.iload_n 0, 1) := by decide +kernel
theorem d_J_bitCount_16 : decode b_J_bitCount 16 = .ok (.iconst 2, 1) := by decide +kernel
theorem d_J_bitCount_17 : decode b_J_bitCount 17 = .ok (.iushr, 1) := by decide +kernel
theorem d_J_bitCount_18 : decode b_J_bitCount 18 = .ok (.ldc_w 266, 3) := by decide +kernel
theorem d_J_bitCount_21 : decode b_J_bitCount 21 = .ok (.iand, 1) := by decide +kernel
theorem d_J_bitCount_22 : decode b_J_bitCount 22 = .ok (.iadd, 1) := by decide +kernel
theorem d_J_bitCount_23 : decode b_J_bitCount 23 = .ok (.istore_n 0, 1) := by decide +kernel
theorem d_J_bitCount_24 : decode b_J_bitCount 24 = .ok (.iload_n 0, 1) := by decide +kernel
theorem d_J_bitCount_25 : decode b_J_bitCount 25 = .ok (.iload_n 0, 1) := by decide +kernel
theorem d_J_bitCount_26 : decode b_J_bitCount 26 = .ok (.iconst 4, 1) := by decide +kernel
theorem d_J_bitCount_27 : decode b_J_bitCount 27 = .ok (.iushr, 1) := by decide +kernel
theorem d_J_bitCount_28 : decode b_J_bitCount 28 = .ok (.iadd, 1) := by decide +kernel
theorem d_J_bitCount_29 : decode b_J_bitCount 29 = .ok (.ldc_w 267, 3) := by decide +kernel
theorem d_J_bitCount_32 : decode b_J_bitCount 32 = .ok (.iand, 1) := by decide +kernel
theorem d_J_bitCount_33 : decode b_J_bitCount 33 = .ok (.istore_n 0, 1) := by decide +kernel
theorem d_J_bitCount_34 : decode b_J_bitCount 34 = .ok (.iload_n 0, 1) := by decide +kernel
theorem d_J_bitCount_35 : decode b_J_bitCount 35 = .ok (.iload_n 0, 1) := by decide +kernel
theorem d_J_bitCount_36 : decode b_J_bitCount 36 = .ok (.bipush 8, 2) := by decide +kernel
theorem d_J_bitCount_38 : decode b_J_bitCount 38 = .ok (.iushr, 1) := by decide +kernel
theorem d_J_bitCount_39 : decode b_J_bitCount 39 = .ok (.iadd, 1) := by decide +kernel
theorem d_J_bitCount_40 : decode b_J_bitCount 40 = .ok (.istore_n 0, 1) := by decide +kernel
theorem d_J_bitCount_41 : decode b_J_bitCount 41 = .ok (.iload_n 0, 1) := by decide +kernel
theorem d_J_bitCount_42 : decode b_J_bitCount 42 = .ok (.iload_n 0, 1) := by decide +kernel
theorem d_J_bitCount_43 : decode b_J_bitCount 43 = .ok (.bipush 16, 2) := by decide +kernel
theorem d_J_bitCount_45 : decode b_J_bitCount 45 = .ok (.iushr, 1) := by decide +kernel
theorem d_J_bitCount_46 : decode b_J_bitCount 46 = .ok (.iadd, 1) := by decide +kernel
theorem d_J_bitCount_47 : decode b_J_bitCount 47 = .ok (.istore_n 0, 1) := by decide +kernel
theorem d_J_bitCount_48 : decode b_J_bitCount 48 = .ok (.iload_n 0, 1) := by decide +kernel
theorem d_J_bitCount_49 : decode b_J_bitCount 49 = .ok (.bipush 63, 2) := by decide +kernel
theorem d_J_bitCount_51 : decode b_J_bitCount 51 = .ok (.iand, 1) := by decide +kernel
theorem d_J_bitCount_52 : decode b_J_bitCount 52 = .ok (.ireturn, 1) := by decide +kernel
