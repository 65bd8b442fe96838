theorem d_K_init_0 : decode b_K_init 0 = .ok (.aload_n 0, 1) := by decide +kernel
theorem d_K_init_1 : decode b_K_init 1 = .ok (.invokespecial 1, 3) := by decide +kernel
theorem d_K_init_4 : decode b_K_init 4 = .ok (.aload_n 0, 1) := by decide +kernel
theorem d_K_init_5 : decode b_K_init 5 = .ok (.bipush 6, 2) := by decide +kernel
theorem d_K_init_7 : decode b_K_init 7 = .ok (.anewarray 9, 3) := by decide +kernel
theorem d_K_init_10 : decode b_K_init 10 = .ok (.putfield 11, 3) := by decide +kernel
theorem d_K_init_13 : decode b_K_init 13 = .ok (.aload_n 0, 1) := by decide +kernel
theorem d_K_init_14 : decode b_K_init 14 = .ok (.iconst 4, 1) := by decide +kernel
theorem d_K_init_15 : decode b_K_init 15 = .ok (.anewarray 9, 3) := by decide +kernel
theorem d_K_init_18 : decode b_K_init 18 = .ok (.putfield 15, 3) := by decide +kernel
theorem d_K_init_21 : decode b_K_init 21 = .ok (.aload_n 0, 1) := by decide +kernel
theorem d_K_init_22 : decode b_K_init 22 = .ok (.new 18, 3) := by decide +kernel
theorem d_K_init_25 : decode b_K_init 25 = .ok (.dup, 1) := by decide +kernel
theorem d_K_init_26 : decode b_K_init 26 = .ok (.invokespecial 20, 3) := by decide +kernel
theorem d_K_init_29 : decode b_K_init 29 = .ok (.putfield 21, 3) := by decide +kernel
theorem d_K_init_32 : decode b_K_init 32 = .ok (.aload_n 0, 1) := by decide +kernel
theorem d_K_init_33 : decode b_K_init 33 = .ok (.new 18, 3) := by decide +kernel
theorem d_K_init_36 : decode b_K_init 36 = .ok (.dup, 1) := by decide +kernel
theorem d_K_init_37 : decode b_K_init 37 = .ok (.invokespecial 20, 3) := by decide +kernel
theorem d_K_init_40 : decode b_K_init 40 = .ok (.putfield 25, 3) := by decide +kernel
theorem d_K_init_43 : decode b_K_init 43 = .ok (.aload_n 0, 1) := by decide +kernel
theorem d_K_init_44 : decode b_K_init 44 = .ok (.new 28, 3) := by decide +kernel
theorem d_K_init_47 : decode b_K_init 47 = .ok (.dup, 1) := by decide +kernel
theorem d_K_init_48 : decode b_K_init 48 = .ok (.invokespecial 30, 3) := by decide +kernel
theorem d_K_init_51 : decode b_K_init 51 = .ok (.putfield 31, 3) := by decide +kernel
theorem d_K_init_54 : decode b_K_init 54 = .ok (.aload_n 0, 1) := by decide +kernel
theorem d_K_init_55 : decode b_K_init 55 = .ok (.iconst 3, 1) := by decide +kernel
theorem d_K_init_56 : decode b_K_init 56 = .ok (.anewarray 28, 3) := by decide +kernel
theorem d_K_init_59 : decode b_K_init 59 = .ok (.putfield 35, 3) := by decide +kernel
theorem d_K_init_62 : decode b_K_init 62 = .ok (.aload_n 0, 1) := by decide +kernel
theorem d_K_init_63 : decode b_K_init 63 = .ok (.new 39, 3) := by decide +kernel
theorem d_K_init_66 : decode b_K_init 66 = .ok (.dup, 1) := by decide +kernel
theorem d_K_init_67 : decode b_K_init 67 = .ok (.invokespecial 41, 3) := by decide +kernel
theorem d_K_init_70 : decode b_K_init 70 = .ok (.putfield 42, 3) := by decide +kernel
theorem d_K_init_73 : decode b_K_init 73 = .ok (.aload_n 0, 1) := by decide +kernel
theorem d_K_init_74 : decode b_K_init 74 = .ok (.new 46, 3) := by decide +kernel
theorem d_K_init_77 : decode b_K_init 77 = .ok (.dup, 1) := by decide +kernel
theorem d_K_init_78 : decode b_K_init 78 = .ok (.invokespecial 48, 3) := by decide +kernel
theorem d_K_init_81 : decode b_K_init 81 = .ok (.putfield 49, 3) := by decide +kernel
theorem d_K_init_84 : decode b_K_init 84 = .ok (.aload_n 0, 1) := by decide +kernel
theorem d_K_init_85 : decode b_K_init 85 = .ok (.new 53, 3) := by decide +kernel
theorem d_K_init_88 : decode b_K_init 88 = .ok (.dup, 1) := by decide +kernel
theorem d_K_init_89 : decode b_K_init 89 = .ok (.invokespecial 55, 3) := by decide +kernel
theorem d_K_init_92 : decode b_K_init 92 = .ok (.putfield 56, 3) := by decide +kernel
theorem d_K_init_95 : decode b_K_init 95 = .ok (.aload_n 0, 1) := by decide +kernel
theorem d_K_init_96 : decode b_K_init 96 = .ok (.bipush 6, 2) := by decide +kernel
theorem d_K_init_98 : decode b_K_init 98 = .ok (.newarray .int, 2) := by decide +kernel
theorem d_K_init_100 : decode b_K_init 100 = .ok (.putfield 60, 3) := by decide +kernel
theorem d_K_init_103 : decode b_K_init 103 = .ok (.aload_n 0, 1) := by decide +kernel
theorem d_K_init_104 : decode b_K_init 104 = .ok (.iconst 0, 1) := by decide +kernel
theorem d_K_init_105 : decode b_K_init 105 = .ok (.putfield 64, 3) := by decide +kernel
theorem d_K_init_108 : decode b_K_init 108 = .ok (.aload_n 0, 1) := by decide +kernel
theorem d_K_init_109 : decode b_K_init 109 = .ok (.iconst 0, 1) := by decide +kernel
theorem d_K_init_110 : decode b_K_init 110 = .ok (.putfield 68, 3) := by decide +kernel
theorem d_K_init_113 : decode b_K_init 113 = .ok (.aload_n 0, 1) := by decide +kernel
theorem d_K_init_114 : decode b_K_init 114 = .ok (.lconst 0, 1) := by decide +kernel
theorem d_K_init_115 : decode b_K_init 115 = .ok (.putfield 71, 3) := by decide +kernel
theorem d_K_init_118 : decode b_K_init 118 = .ok (.aload_n 0, 1) := by decide +kernel
theorem d_K_init_119 : decode b_K_init 119 = .ok (.lconst 1, 1) := by decide +kernel
theorem d_K_init_120 : decode b_K_init 120 = .ok (.putfield 75, 3) := by decide +kernel
theorem d_K_init_123 : decode b_K_init 123 = .ok (.iconst 0, 1) := by decide +kernel
theorem d_K_init_124 : decode b_K_init 124 = .ok (.istore_n 1, 1) := by decide +kernel
theorem d_K_init_125 : decode b_K_init 125 = .ok (.iload_n 1, 1) := by decide +kernel
theorem d_K_init_126 : decode b_K_init 126 = .ok (.bipush 6, 2) := by decide +kernel
theorem d_K_init_128 : decode b_K_init 128 = .ok (.if_icmp .ge 24, 3) := by decide +kernel
theorem d_K_init_131 : decode b_K_init 131 = .ok (.aload_n 0, 1) := by decide +kernel
theorem d_K_init_132 : decode b_K_init 132 = .ok (.getfield 11, 3) := by decide +kernel
theorem d_K_init_135 : decode b_K_init 135 = .ok (.iload_n 1, 1) := by decide +kernel
theorem d_K_init_136 : decode b_K_init 136 = .ok (.new 9, 3) := by decide +kernel
theorem d_K_init_139 : decode b_K_init 139 = .ok (.dup, 1) := by decide +kernel
theorem d_K_init_140 : decode b_K_init 140 = .ok (.bipush 40, 2) := by decide +kernel
theorem d_K_init_142 : decode b_K_init 142 = .ok (.invokespecial 78, 3) := by decide +kernel
theorem d_K_init_145 : decode b_K_init 145 = .ok (.aastore, 1) := by decide +kernel
theorem d_K_init_146 : decode b_K_init 146 = .ok (.iinc 1 1, 3) := by decide +kernel
theorem d_K_init_149 : decode b_K_init 149 = .ok (.goto (-24), 3) := by decide +kernel
theorem d_K_init_152 : decode b_K_init 152 = .ok (.iconst 0, 1) := by decide +kernel
theorem d_K_init_153 : decode b_K_init 153 = .ok (.istore_n 1, 1) := by decide +kernel
theorem d_K_init_154 : decode b_K_init 154 = .ok (.iload_n 1, 1) := by decide +kernel
theorem d_K_init_155 : decode b_K_init 155 = .ok (.iconst 4, 1) := by decide +kernel
theorem d_K_init_156 : decode b_K_init 156 = .ok (.if_icmp .ge 24, 3) := by decide +kernel
theorem d_K_init_159 : decode b_K_init 159 = .ok (.aload_n 0, 1) := by decide +kernel
theorem d_K_init_160 : decode b_K_init 160 = .ok (.getfield 15, 3) := by decide +kernel
theorem d_K_init_163 : decode b_K_init 163 = .ok (.iload_n 1, 1) := by decide +kernel
theorem d_K_init_164 : decode b_K_init 164 = .ok (.new 9, 3) := by decide +kernel
theorem d_K_init_167 : decode b_K_init 167 = .ok (.dup, 1) := by decide +kernel
theorem d_K_init_168 : decode b_K_init 168 = .ok (.bipush 80, 2) := by decide +kernel
theorem d_K_init_170 : decode b_K_init 170 = .ok (.invokespecial 78, 3) := by decide +kernel
theorem d_K_init_173 : decode b_K_init 173 = .ok (.aastore, 1) := by decide +kernel
theorem d_K_init_174 : decode b_K_init 174 = .ok (.iinc 1 1, 3) := by decide +kernel
theorem d_K_init_177 : decode b_K_init 177 = .ok (.goto (-23), 3) := by decide +kernel
theorem d_K_init_180 : decode b_K_init 180 = .ok (.iconst 0, 1) := by decide +kernel
theorem d_K_init_181 : decode b_K_init 181 = .ok (.istore_n 1, 1) := by decide +kernel
theorem d_K_init_182 : decode b_K_init 182 = .ok (.iload_n 1, 1) := by decide +kernel
theorem d_K_init_183 : decode b_K_init 183 = .ok (.iconst 3, 1) := by decide +kernel
theorem d_K_init_184 : decode b_K_init 184 = .ok (.if_icmp .ge 32, 3) := by decide +kernel
theorem d_K_init_187 : decode b_K_init 187 = .ok (.aload_n 0, 1) := by decide +kernel
theorem d_K_init_188 : decode b_K_init 188 = .ok (.getfield 35, 3) := by decide +kernel
theorem d_K_init_191 : decode b_K_init 191 = .ok (.iload_n 1, 1) := by decide +kernel
theorem d_K_init_192 : decode b_K_init 192 = .ok (.new 28, 3) := by decide +kernel
theorem d_K_init_195 : decode b_K_init 195 = .ok (.dup, 1) := by decide +kernel
theorem d_K_init_196 : decode b_K_init 196 = .ok (.invokespecial 30, 3) := by decide +kernel
theorem d_K_init_199 : decode b_K_init 199 = .ok (.aastore, 1) := by decide +kernel
theorem d_K_init_200 : decode b_K_init 200 = .ok (.aload_n 0, 1) := by decide +kernel
theorem d_K_init_201 : decode b_K_init 201 = .ok (.getfield 35, 3) := by decide +kernel
theorem d_K_init_204 : decode b_K_init 204 = .ok (.iload_n 1, 1) := by decide +kernel
theorem d_K_init_205 : decode b_K_init 205 = .ok (.aaload, 1) := by decide +kernel
theorem d_K_init_206 : decode b_K_init 206 = .ok (.iconst (-1), 1) := by decide +kernel
theorem d_K_init_207 : decode b_K_init 207 = .ok (.putfield 81, 3) := by decide +kernel
theorem d_K_init_210 : decode b_K_init 210 = .ok (.iinc 1 1, 3) := by decide +kernel
theorem d_K_init_213 : decode b_K_init 213 = .ok (.goto (-31), 3) := by decide +kernel
theorem d_K_init_216 : decode b_K_init 216 = .ok (.return_, 1) := by decide +kernel
theorem d_K_all_0 : decode b_K_all 0 = .ok (.iload_n 1, 1) := by decide +kernel
theorem d_K_all_1 : decode b_K_all 1 = .ok (.invokestatic 258, 3) := by decide +kernel
theorem d_K_all_4 : decode b_K_all 4 = .ok (.ifCond .ne 5, 3) := by decide +kernel
theorem d_K_all_7 : decode b_K_all 7 = .ok (.iconst (-1), 1) := by decide +kernel
theorem d_K_all_8 : decode b_K_all 8 = .ok (.ireturn, 1) := by decide +kernel
theorem d_K_all_9 : decode b_K_all 9 = .ok (.aload_n 0, 1) := by decide +kernel
theorem d_K_all_10 : decode b_K_all 10 = .ok (.getfield 42, 3) := by decide +kernel
theorem d_K_all_13 : decode b_K_all 13 = .ok (.aload_n 0, 1) := by decide +kernel
theorem d_K_all_14 : decode b_K_all 14 = .ok (.getfield 21, 3) := by decide +kernel
theorem d_K_all_17 : decode b_K_all 17 = .ok (.iload_n 1, 1) := by decide +kernel
theorem d_K_all_18 : decode b_K_all 18 = .ok (.invokevirtual 261, 3) := by decide +kernel
theorem d_K_all_21 : decode b_K_all 21 = .ok (.aload_n 0, 1) := by decide +kernel
theorem d_K_all_22 : decode b_K_all 22 = .ok (.aload_n 0, 1) := by decide +kernel
theorem d_K_all_23 : decode b_K_all 23 = .ok (.getfield 42, 3) := by decide +kernel
theorem d_K_all_26 : decode b_K_all 26 = .ok (.getfield 265, 3) := by decide +kernel
theorem d_K_all_29 : decode b_K_all 29 = .ok (.putfield 68, 3) := by decide +kernel
theorem d_K_all_32 : decode b_K_all 32 = .ok (.aload_n 0, 1) := by decide +kernel
theorem d_K_all_33 : decode b_K_all 33 = .ok (.getfield 42, 3) := by decide +kernel
theorem d_K_all_36 : decode b_K_all 36 = .ok (.getfield 268, 3) := by decide +kernel
theorem d_K_all_39 : decode b_K_all 39 = .ok (.ireturn, 1) := by decide +kernel
theorem d_K_asked_0 : decode b_K_asked 0 = .ok (.aload_n 0, 1) := by decide +kernel
theorem d_K_asked_1 : decode b_K_asked 1 = .ok (.getfield 68, 3) := by decide +kernel
theorem d_K_asked_4 : decode b_K_asked 4 = .ok (.ireturn, 1) := by decide +kernel
theorem d_K_at_0 : decode b_K_at 0 = .ok (.iload_n 1, 1) := by decide +kernel
theorem d_K_at_1 : decode b_K_at 1 = .ok (.invokestatic 84, 3) := by decide +kernel
theorem d_K_at_4 : decode b_K_at 4 = .ok (.ifCond .ne 5, 3) := by decide +kernel
theorem d_K_at_7 : decode b_K_at 7 = .ok (.iconst (-1), 1) := by decide +kernel
theorem d_K_at_8 : decode b_K_at 8 = .ok (.ireturn, 1) := by decide +kernel
theorem d_K_at_9 : decode b_K_at 9 = .ok (.aload_n 0, 1) := by decide +kernel
theorem d_K_at_10 : decode b_K_at 10 = .ok (.getfield 11, 3) := by decide +kernel
theorem d_K_at_13 : decode b_K_at 13 = .ok (.iload_n 1, 1) := by decide +kernel
theorem d_K_at_14 : decode b_K_at 14 = .ok (.aaload, 1) := by decide +kernel
theorem d_K_at_15 : decode b_K_at 15 = .ok (.iload_n 2, 1) := by decide +kernel
theorem d_K_at_16 : decode b_K_at 16 = .ok (.invokevirtual 96, 3) := by decide +kernel
theorem d_K_at_19 : decode b_K_at 19 = .ok (.istore_n 3, 1) := by decide +kernel
theorem d_K_at_20 : decode b_K_at 20 = .ok (.iload_n 3, 1) := by decide +kernel
theorem d_K_at_21 : decode b_K_at 21 = .ok (.ifCond .eq 9, 3) := by decide +kernel
theorem d_K_at_24 : decode b_K_at 24 = .ok (.aload_n 0, 1) := by decide +kernel
theorem d_K_at_25 : decode b_K_at 25 = .ok (.iload_n 3, 1) := by decide +kernel
theorem d_K_at_26 : decode b_K_at 26 = .ok (.invokevirtual 88, 3) := by decide +kernel
theorem d_K_at_29 : decode b_K_at 29 = .ok (.ireturn, 1) := by decide +kernel
theorem d_K_at_30 : decode b_K_at 30 = .ok (.aload_n 0, 1) := by decide +kernel
theorem d_K_at_31 : decode b_K_at 31 = .ok (.aload_n 0, 1) := by decide +kernel
theorem d_K_at_32 : decode b_K_at 32 = .ok (.getfield 11, 3) := by decide +kernel
theorem d_K_at_35 : decode b_K_at 35 = .ok (.iload_n 1, 1) := by decide +kernel
theorem d_K_at_36 : decode b_K_at 36 = .ok (.aaload, 1) := by decide +kernel
theorem d_K_at_37 : decode b_K_at 37 = .ok (.getfield 99, 3) := by decide +kernel
theorem d_K_at_40 : decode b_K_at 40 = .ok (.iload_n 2, 1) := by decide +kernel
theorem d_K_at_41 : decode b_K_at 41 = .ok (.iaload, 1) := by decide +kernel
theorem d_K_at_42 : decode b_K_at 42 = .ok (.invokevirtual 102, 3) := by decide +kernel
theorem d_K_at_45 : decode b_K_at 45 = .ok (.ireturn, 1) := by decide +kernel
theorem d_K_between_0 : decode b_K_between 0 = .ok (.aload_n 0, 1) := by decide +kernel
theorem d_K_between_1 : decode b_K_between 1 = .ok (.getfield 21, 3) := by decide +kernel
theorem d_K_between_4 : decode b_K_between 4 = .ok (.iload_n 1, 1) := by decide +kernel
theorem d_K_between_5 : decode b_K_between 5 = .ok (.iload_n 2, 1) := by decide +kernel
theorem d_K_between_6 : decode b_K_between 6 = .ok (.invokevirtual 183, 3) := by decide +kernel
theorem d_K_between_9 : decode b_K_between 9 = .ok (.ifCond .eq 10, 3) := by decide +kernel
theorem d_K_between_12 : decode b_K_between 12 = .ok (.iload_n 3, 1) := by decide +kernel
theorem d_K_between_13 : decode b_K_between 13 = .ok (.invokestatic 251, 3) := by decide +kernel
theorem d_K_between_16 : decode b_K_between 16 = .ok (.ifCond .ne 5, 3) := by decide +kernel
theorem d_K_between_19 : decode b_K_between 19 = .ok (.iconst (-1), 1) := by decide +kernel
theorem d_K_between_20 : decode b_K_between 20 = .ok (.ireturn, 1) := by decide +kernel
theorem d_K_between_21 : decode b_K_between 21 = .ok (.aload_n 0, 1) := by decide +kernel
theorem d_K_between_22 : decode b_K_between 22 = .ok (.getfield 21, 3) := by decide +kernel
theorem d_K_between_25 : decode b_K_between 25 = .ok (.iload_n 1, 1) := by decide +kernel
theorem d_K_between_26 : decode b_K_between 26 = .ok (.iload_n 2, 1) := by decide +kernel
theorem d_K_between_27 : decode b_K_between 27 = .ok (.iload_n 3, 1) := by decide +kernel
theorem d_K_between_28 : decode b_K_between 28 = .ok (.invokevirtual 254, 3) := by decide +kernel
theorem d_K_between_31 : decode b_K_between 31 = .ok (.ireturn, 1) := by decide +kernel
theorem d_K_blushes_0 : decode b_K_blushes 0 = .ok (.aload_n 0, 1) := by decide +kernel
theorem d_K_blushes_1 : decode b_K_blushes 1 = .ok (.iload_n 1, 1) := by decide +kernel
theorem d_K_blushes_2 : decode b_K_blushes 2 = .ok (.invokevirtual 317, 3) := by decide +kernel
theorem d_K_blushes_5 : decode b_K_blushes 5 = .ok (.istore_n 2, 1) := by decide +kernel
theorem d_K_blushes_6 : decode b_K_blushes 6 = .ok (.iload_n 2, 1) := by decide +kernel
theorem d_K_blushes_7 : decode b_K_blushes 7 = .ok (.ifCond .eq 5, 3) := by decide +kernel
theorem d_K_blushes_10 : decode b_K_blushes 10 = .ok (.iload_n 2, 1) := by decide +kernel
theorem d_K_blushes_11 : decode b_K_blushes 11 = .ok (.ireturn, 1) := by decide +kernel
theorem d_K_blushes_12 : decode b_K_blushes 12 = .ok (.aload_n 0, 1) := by decide +kernel
theorem d_K_blushes_13 : decode b_K_blushes 13 = .ok (.getfield 56, 3) := by decide +kernel
theorem d_K_blushes_16 : decode b_K_blushes 16 = .ok (.aload_n 0, 1) := by decide +kernel
theorem d_K_blushes_17 : decode b_K_blushes 17 = .ok (.getfield 21, 3) := by decide +kernel
theorem d_K_blushes_20 : decode b_K_blushes 20 = .ok (.aload_n 0, 1) := by decide +kernel
theorem d_K_blushes_21 : decode b_K_blushes 21 = .ok (.getfield 11, 3) := by decide +kernel
theorem d_K_blushes_24 : decode b_K_blushes 24 = .ok (.iload_n 1, 1) := by decide +kernel
theorem d_K_blushes_25 : decode b_K_blushes 25 = .ok (.aaload, 1) := by decide +kernel
theorem d_K_blushes_26 : decode b_K_blushes 26 = .ok (.getfield 99, 3) := by decide +kernel
theorem d_K_blushes_29 : decode b_K_blushes 29 = .ok (.invokevirtual 320, 3) := by decide +kernel
theorem d_K_blushes_32 : decode b_K_blushes 32 = .ok (.aload_n 0, 1) := by decide +kernel
theorem d_K_blushes_33 : decode b_K_blushes 33 = .ok (.aload_n 0, 1) := by decide +kernel
theorem d_K_blushes_34 : decode b_K_blushes 34 = .ok (.getfield 56, 3) := by decide +kernel
theorem d_K_blushes_37 : decode b_K_blushes 37 = .ok (.getfield 323, 3) := by decide +kernel
theorem d_K_blushes_40 : decode b_K_blushes 40 = .ok (.putfield 68, 3) := by decide +kernel
theorem d_K_blushes_43 : decode b_K_blushes 43 = .ok (.aload_n 0, 1) := by decide +kernel
theorem d_K_blushes_44 : decode b_K_blushes 44 = .ok (.getfield 56, 3) := by decide +kernel
theorem d_K_blushes_47 : decode b_K_blushes 47 = .ok (.getfield 326, 3) := by decide +kernel
theorem d_K_blushes_50 : decode b_K_blushes 50 = .ok (.ireturn, 1) := by decide +kernel
theorem d_K_blushesRefused_0 : decode b_K_blushesRefused 0 = .ok (.iload_n 1, 1) := by decide +kernel
theorem d_K_blushesRefused_1 : decode b_K_blushesRefused 1 = .ok (.invokestatic 84, 3) := by decide +kernel
theorem d_K_blushesRefused_4 : decode b_K_blushesRefused 4 = .ok (.ifCond .ne 5, 3) := by decide +kernel
theorem d_K_blushesRefused_7 : decode b_K_blushesRefused 7 = .ok (.iconst (-1), 1) := by decide +kernel
theorem d_K_blushesRefused_8 : decode b_K_blushesRefused 8 = .ok (.ireturn, 1) := by decide +kernel
theorem d_K_blushesRefused_9 : decode b_K_blushesRefused 9 = .ok (.aload_n 0, 1) := by decide +kernel
theorem d_K_blushesRefused_10 : decode b_K_blushesRefused 10 = .ok (.getfield 21, 3) := by decide +kernel
theorem d_K_blushesRefused_13 : decode b_K_blushesRefused 13 = .ok (.invokevirtual 231, 3) := by decide +kernel
theorem d_K_blushesRefused_16 : decode b_K_blushesRefused 16 = .ok (.ifCond .eq 6, 3) := by decide +kernel
theorem d_K_blushesRefused_19 : decode b_K_blushesRefused 19 = .ok (.bipush (-4), 2) := by decide +kernel
theorem d_K_blushesRefused_21 : decode b_K_blushesRefused 21 = .ok (.ireturn, 1) := by decide +kernel
theorem d_K_blushesRefused_22 : decode b_K_blushesRefused 22 = .ok (.aload_n 0, 1) := by decide +kernel
theorem d_K_blushesRefused_23 : decode b_K_blushesRefused 23 = .ok (.getfield 11, 3) := by decide +kernel
theorem d_K_blushesRefused_26 : decode b_K_blushesRefused 26 = .ok (.iload_n 1, 1) := by decide +kernel
theorem d_K_blushesRefused_27 : decode b_K_blushesRefused 27 = .ok (.aaload, 1) := by decide +kernel
theorem d_K_blushesRefused_28 : decode b_K_blushesRefused 28 = .ok (.invokevirtual 105, 3) := by decide +kernel
theorem d_K_blushesRefused_31 : decode b_K_blushesRefused 31 = .ok (.ifCond .eq 9, 3) := by decide +kernel
theorem d_K_blushesRefused_34 : decode b_K_blushesRefused 34 = .ok (.aload_n 0, 1) := by decide +kernel
theorem d_K_blushesRefused_35 : decode b_K_blushesRefused 35 = .ok (.iconst 1, 1) := by decide +kernel
theorem d_K_blushesRefused_36 : decode b_K_blushesRefused 36 = .ok (.invokevirtual 88, 3) := by decide +kernel
theorem d_K_blushesRefused_39 : decode b_K_blushesRefused 39 = .ok (.ireturn, 1) := by decide +kernel
theorem d_K_blushesRefused_40 : decode b_K_blushesRefused 40 = .ok (.aload_n 0, 1) := by decide +kernel
theorem d_K_blushesRefused_41 : decode b_K_blushesRefused 41 = .ok (.getfield 11, 3) := by decide +kernel
theorem d_K_blushesRefused_44 : decode b_K_blushesRefused 44 = .ok (.iload_n 1, 1) := by decide +kernel
theorem d_K_blushesRefused_45 : decode b_K_blushesRefused 45 = .ok (.aaload, 1) := by decide +kernel
theorem d_K_blushesRefused_46 : decode b_K_blushesRefused 46 = .ok (.getfield 109, 3) := by decide +kernel
theorem d_K_blushesRefused_49 : decode b_K_blushesRefused 49 = .ok (.aload_n 0, 1) := by decide +kernel
theorem d_K_blushesRefused_50 : decode b_K_blushesRefused 50 = .ok (.getfield 21, 3) := by decide +kernel
theorem d_K_blushesRefused_53 : decode b_K_blushesRefused 53 = .ok (.getfield 135, 3) := by decide +kernel
theorem d_K_blushesRefused_56 : decode b_K_blushesRefused 56 = .ok (.if_icmp .eq 9, 3) := by decide +kernel
theorem d_K_blushesRefused_59 : decode b_K_blushesRefused 59 = .ok (.aload_n 0, 1) := by decide +kernel
theorem d_K_blushesRefused_60 : decode b_K_blushesRefused 60 = .ok (.iconst 5, 1) := by decide +kernel
theorem d_K_blushesRefused_61 : decode b_K_blushesRefused 61 = .ok (.invokevirtual 88, 3) := by decide +kernel
theorem d_K_blushesRefused_64 : decode b_K_blushesRefused 64 = .ok (.ireturn, 1) := by decide +kernel
theorem d_K_blushesRefused_65 : decode b_K_blushesRefused 65 = .ok (.iconst 0, 1) := by decide +kernel
theorem d_K_blushesRefused_66 : decode b_K_blushesRefused 66 = .ok (.ireturn, 1) := by decide +kernel
theorem d_K_clear_0 : decode b_K_clear 0 = .ok (.iload_n 1, 1) := by decide +kernel
theorem d_K_clear_1 : decode b_K_clear 1 = .ok (.invokestatic 84, 3) := by decide +kernel
theorem d_K_clear_4 : decode b_K_clear 4 = .ok (.ifCond .ne 5, 3) := by decide +kernel
theorem d_K_clear_7 : decode b_K_clear 7 = .ok (.iconst (-1), 1) := by decide +kernel
theorem d_K_clear_8 : decode b_K_clear 8 = .ok (.ireturn, 1) := by decide +kernel
theorem d_K_clear_9 : decode b_K_clear 9 = .ok (.aload_n 0, 1) := by decide +kernel
theorem d_K_clear_10 : decode b_K_clear 10 = .ok (.getfield 11, 3) := by decide +kernel
theorem d_K_clear_13 : decode b_K_clear 13 = .ok (.iload_n 1, 1) := by decide +kernel
theorem d_K_clear_14 : decode b_K_clear 14 = .ok (.aaload, 1) := by decide +kernel
theorem d_K_clear_15 : decode b_K_clear 15 = .ok (.astore_n 2, 1) := by decide +kernel
theorem d_K_clear_16 : decode b_K_clear 16 = .ok (.aload_n 2, 1) := by decide +kernel
theorem d_K_clear_17 : decode b_K_clear 17 = .ok (.invokevirtual 105, 3) := by decide +kernel
theorem d_K_clear_20 : decode b_K_clear 20 = .ok (.ifCond .eq 9, 3) := by decide +kernel
theorem d_K_clear_23 : decode b_K_clear 23 = .ok (.aload_n 0, 1) := by decide +kernel
theorem d_K_clear_24 : decode b_K_clear 24 = .ok (.iconst 1, 1) := by decide +kernel
theorem d_K_clear_25 : decode b_K_clear 25 = .ok (.invokevirtual 88, 3) := by decide +kernel
theorem d_K_clear_28 : decode b_K_clear 28 = .ok (.ireturn, 1) := by decide +kernel
theorem d_K_clear_29 : decode b_K_clear 29 = .ok (.iconst 0, 1) := by decide +kernel
theorem d_K_clear_30 : decode b_K_clear 30 = .ok (.istore_n 3, 1) := by decide +kernel
theorem d_K_clear_31 : decode b_K_clear 31 = .ok (.iload_n 3, 1) := by decide +kernel
theorem d_K_clear_32 : decode b_K_clear 32 = .ok (.aload_n 2, 1) := by decide +kernel
theorem d_K_clear_33 : decode b_K_clear 33 = .ok (.getfield 109, 3) := by decide +kernel
theorem d_K_clear_36 : decode b_K_clear 36 = .ok (.if_icmp .ge 31, 3) := by decide +kernel
theorem d_K_clear_39 : decode b_K_clear 39 = .ok (.aload_n 0, 1) := by decide +kernel
theorem d_K_clear_40 : decode b_K_clear 40 = .ok (.getfield 21, 3) := by decide +kernel
theorem d_K_clear_43 : decode b_K_clear 43 = .ok (.aload_n 2, 1) := by decide +kernel
theorem d_K_clear_44 : decode b_K_clear 44 = .ok (.getfield 99, 3) := by decide +kernel
theorem d_K_clear_47 : decode b_K_clear 47 = .ok (.iload_n 3, 1) := by decide +kernel
theorem d_K_clear_48 : decode b_K_clear 48 = .ok (.iaload, 1) := by decide +kernel
theorem d_K_clear_49 : decode b_K_clear 49 = .ok (.invokevirtual 145, 3) := by decide +kernel
theorem d_K_clear_52 : decode b_K_clear 52 = .ok (.ifCond .ne 9, 3) := by decide +kernel
theorem d_K_clear_55 : decode b_K_clear 55 = .ok (.aload_n 0, 1) := by decide +kernel
theorem d_K_clear_56 : decode b_K_clear 56 = .ok (.iconst 3, 1) := by decide +kernel
theorem d_K_clear_57 : decode b_K_clear 57 = .ok (.invokevirtual 88, 3) := by decide +kernel
theorem d_K_clear_60 : decode b_K_clear 60 = .ok (.ireturn, 1) := by decide +kernel
theorem d_K_clear_61 : decode b_K_clear 61 = .ok (.iinc 3 1, 3) := by decide +kernel
theorem d_K_clear_64 : decode b_K_clear 64 = .ok (.goto (-33), 3) := by decide +kernel
theorem d_K_clear_67 : decode b_K_clear 67 = .ok (.aload_n 0, 1) := by decide +kernel
theorem d_K_clear_68 : decode b_K_clear 68 = .ok (.getfield 21, 3) := by decide +kernel
theorem d_K_clear_71 : decode b_K_clear 71 = .ok (.aload_n 2, 1) := by decide +kernel
theorem d_K_clear_72 : decode b_K_clear 72 = .ok (.getfield 99, 3) := by decide +kernel
theorem d_K_clear_75 : decode b_K_clear 75 = .ok (.aload_n 2, 1) := by decide +kernel
theorem d_K_clear_76 : decode b_K_clear 76 = .ok (.getfield 109, 3) := by decide +kernel
theorem d_K_clear_79 : decode b_K_clear 79 = .ok (.invokevirtual 205, 3) := by decide +kernel
theorem d_K_clear_82 : decode b_K_clear 82 = .ok (.ifCond .ne 6, 3) := by decide +kernel
theorem d_K_clear_85 : decode b_K_clear 85 = .ok (.bipush (-4), 2) := by decide +kernel
theorem d_K_clear_87 : decode b_K_clear 87 = .ok (.ireturn, 1) := by decide +kernel
theorem d_K_clear_88 : decode b_K_clear 88 = .ok (.aload_n 0, 1) := by decide +kernel
theorem d_K_clear_89 : decode b_K_clear 89 = .ok (.getfield 31, 3) := by decide +kernel
theorem d_K_clear_92 : decode b_K_clear 92 = .ok (.iconst 1, 1) := by decide +kernel
theorem d_K_clear_93 : decode b_K_clear 93 = .ok (.invokevirtual 189, 3) := by decide +kernel
theorem d_K_clear_96 : decode b_K_clear 96 = .ok (.ifCond .eq 6, 3) := by decide +kernel
theorem d_K_clear_99 : decode b_K_clear 99 = .ok (.bipush (-2), 2) := by decide +kernel
theorem d_K_clear_101 : decode b_K_clear 101 = .ok (.ireturn, 1) := by decide +kernel
theorem d_K_clear_102 : decode b_K_clear 102 = .ok (.aload_n 0, 1) := by decide +kernel
theorem d_K_clear_103 : decode b_K_clear 103 = .ok (.getfield 31, 3) := by decide +kernel
theorem d_K_clear_106 : decode b_K_clear 106 = .ok (.aload_n 0, 1) := by decide +kernel
theorem d_K_clear_107 : decode b_K_clear 107 = .ok (.getfield 21, 3) := by decide +kernel
theorem d_K_clear_110 : decode b_K_clear 110 = .ok (.invokevirtual 192, 3) := by decide +kernel
theorem d_K_clear_113 : decode b_K_clear 113 = .ok (.aload_n 0, 1) := by decide +kernel
theorem d_K_clear_114 : decode b_K_clear 114 = .ok (.getfield 21, 3) := by decide +kernel
theorem d_K_clear_117 : decode b_K_clear 117 = .ok (.aload_n 2, 1) := by decide +kernel
theorem d_K_clear_118 : decode b_K_clear 118 = .ok (.getfield 99, 3) := by decide +kernel
theorem d_K_clear_121 : decode b_K_clear 121 = .ok (.aload_n 2, 1) := by decide +kernel
theorem d_K_clear_122 : decode b_K_clear 122 = .ok (.getfield 109, 3) := by decide +kernel
theorem d_K_clear_125 : decode b_K_clear 125 = .ok (.invokevirtual 209, 3) := by decide +kernel
theorem d_K_clear_128 : decode b_K_clear 128 = .ok (.ireturn, 1) := by decide +kernel
theorem d_K_copy_0 : decode b_K_copy 0 = .ok (.iload_n 1, 1) := by decide +kernel
theorem d_K_copy_1 : decode b_K_copy 1 = .ok (.invokestatic 84, 3) := by decide +kernel
theorem d_K_copy_4 : decode b_K_copy 4 = .ok (.ifCond .eq 10, 3) := by decide +kernel
theorem d_K_copy_7 : decode b_K_copy 7 = .ok (.iload_n 3, 1) := by decide +kernel
theorem d_K_copy_8 : decode b_K_copy 8 = .ok (.invokestatic 84, 3) := by decide +kernel
theorem d_K_copy_11 : decode b_K_copy 11 = .ok (.ifCond .ne 5, 3) := by decide +kernel
theorem d_K_copy_14 : decode b_K_copy 14 = .ok (.iconst (-1), 1) := by decide +kernel
theorem d_K_copy_15 : decode b_K_copy 15 = .ok (.ireturn, 1) := by decide +kernel
theorem d_K_copy_16 : decode b_K_copy 16 = .ok (.iload 5, 2) := by decide +kernel
theorem d_K_copy_18 : decode b_K_copy 18 = .ok (.ifCond .ge 9, 3) := by decide +kernel
theorem d_K_copy_21 : decode b_K_copy 21 = .ok (.aload_n 0, 1) := by decide +kernel
theorem d_K_copy_22 : decode b_K_copy 22 = .ok (.iconst 5, 1) := by decide +kernel
theorem d_K_copy_23 : decode b_K_copy 23 = .ok (.invokevirtual 88, 3) := by decide +kernel
theorem d_K_copy_26 : decode b_K_copy 26 = .ok (.ireturn, 1) := by decide +kernel
theorem d_K_copy_27 : decode b_K_copy 27 = .ok (.aload_n 0, 1) := by decide +kernel
theorem d_K_copy_28 : decode b_K_copy 28 = .ok (.getfield 11, 3) := by decide +kernel
theorem d_K_copy_31 : decode b_K_copy 31 = .ok (.iload_n 1, 1) := by decide +kernel
theorem d_K_copy_32 : decode b_K_copy 32 = .ok (.aaload, 1) := by decide +kernel
theorem d_K_copy_33 : decode b_K_copy 33 = .ok (.invokevirtual 105, 3) := by decide +kernel
theorem d_K_copy_36 : decode b_K_copy 36 = .ok (.ifCond .ne 15, 3) := by decide +kernel
theorem d_K_copy_39 : decode b_K_copy 39 = .ok (.aload_n 0, 1) := by decide +kernel
theorem d_K_copy_40 : decode b_K_copy 40 = .ok (.getfield 11, 3) := by decide +kernel
theorem d_K_copy_43 : decode b_K_copy 43 = .ok (.iload_n 3, 1) := by decide +kernel
theorem d_K_copy_44 : decode b_K_copy 44 = .ok (.aaload, 1) := by decide +kernel
theorem d_K_copy_45 : decode b_K_copy 45 = .ok (.invokevirtual 105, 3) := by decide +kernel
theorem d_K_copy_48 : decode b_K_copy 48 = .ok (.ifCond .eq 9, 3) := by decide +kernel
theorem d_K_copy_51 : decode b_K_copy 51 = .ok (.aload_n 0, 1) := by decide +kernel
theorem d_K_copy_52 : decode b_K_copy 52 = .ok (.iconst 1, 1) := by decide +kernel
theorem d_K_copy_53 : decode b_K_copy 53 = .ok (.invokevirtual 88, 3) := by decide +kernel
theorem d_K_copy_56 : decode b_K_copy 56 = .ok (.ireturn, 1) := by decide +kernel
theorem d_K_copy_57 : decode b_K_copy 57 = .ok (.aload_n 0, 1) := by decide +kernel
theorem d_K_copy_58 : decode b_K_copy 58 = .ok (.getfield 11, 3) := by decide +kernel
theorem d_K_copy_61 : decode b_K_copy 61 = .ok (.iload_n 1, 1) := by decide +kernel
theorem d_K_copy_62 : decode b_K_copy 62 = .ok (.aaload, 1) := by decide +kernel
theorem d_K_copy_63 : decode b_K_copy 63 = .ok (.iload_n 2, 1) := by decide +kernel
theorem d_K_copy_64 : decode b_K_copy 64 = .ok (.iload 5, 2) := by decide +kernel
theorem d_K_copy_66 : decode b_K_copy 66 = .ok (.invokevirtual 112, 3) := by decide +kernel
theorem d_K_copy_69 : decode b_K_copy 69 = .ok (.ifCond .eq 19, 3) := by decide +kernel
theorem d_K_copy_72 : decode b_K_copy 72 = .ok (.aload_n 0, 1) := by decide +kernel
theorem d_K_copy_73 : decode b_K_copy 73 = .ok (.getfield 11, 3) := by decide +kernel
theorem d_K_copy_76 : decode b_K_copy 76 = .ok (.iload_n 3, 1) := by decide +kernel
theorem d_K_copy_77 : decode b_K_copy 77 = .ok (.aaload, 1) := by decide +kernel
theorem d_K_copy_78 : decode b_K_copy 78 = .ok (.iload 4, 2) := by decide +kernel
theorem d_K_copy_80 : decode b_K_copy 80 = .ok (.iload 5, 2) := by decide +kernel
theorem d_K_copy_82 : decode b_K_copy 82 = .ok (.invokevirtual 112, 3) := by decide +kernel
theorem d_K_copy_85 : decode b_K_copy 85 = .ok (.ifCond .ne 9, 3) := by decide +kernel
theorem d_K_copy_88 : decode b_K_copy 88 = .ok (.aload_n 0, 1) := by decide +kernel
theorem d_K_copy_89 : decode b_K_copy 89 = .ok (.iconst 2, 1) := by decide +kernel
theorem d_K_copy_90 : decode b_K_copy 90 = .ok (.invokevirtual 88, 3) := by decide +kernel
theorem d_K_copy_93 : decode b_K_copy 93 = .ok (.ireturn, 1) := by decide +kernel
theorem d_K_copy_94 : decode b_K_copy 94 = .ok (.aload_n 0, 1) := by decide +kernel
theorem d_K_copy_95 : decode b_K_copy 95 = .ok (.getfield 11, 3) := by decide +kernel
theorem d_K_copy_98 : decode b_K_copy 98 = .ok (.iload_n 1, 1) := by decide +kernel
theorem d_K_copy_99 : decode b_K_copy 99 = .ok (.aaload, 1) := by decide +kernel
theorem d_K_copy_100 : decode b_K_copy 100 = .ok (.getfield 99, 3) := by decide +kernel
theorem d_K_copy_103 : decode b_K_copy 103 = .ok (.iload_n 2, 1) := by decide +kernel
theorem d_K_copy_104 : decode b_K_copy 104 = .ok (.aload_n 0, 1) := by decide +kernel
theorem d_K_copy_105 : decode b_K_copy 105 = .ok (.getfield 11, 3) := by decide +kernel
theorem d_K_copy_108 : decode b_K_copy 108 = .ok (.iload_n 3, 1) := by decide +kernel
theorem d_K_copy_109 : decode b_K_copy 109 = .ok (.aaload, 1) := by decide +kernel
theorem d_K_copy_110 : decode b_K_copy 110 = .ok (.getfield 99, 3) := by decide +kernel
theorem d_K_copy_113 : decode b_K_copy 113 = .ok (.iload 4, 2) := by decide +kernel
theorem d_K_copy_115 : decode b_K_copy 115 = .ok (.iload 5, 2) := by decide +kernel
theorem d_K_copy_117 : decode b_K_copy 117 = .ok (.invokestatic 116, 3) := by decide +kernel
theorem d_K_copy_120 : decode b_K_copy 120 = .ok (.iconst 1, 1) := by decide +kernel
theorem d_K_copy_121 : decode b_K_copy 121 = .ok (.ireturn, 1) := by decide +kernel
theorem d_K_count_0 : decode b_K_count 0 = .ok (.iload_n 1, 1) := by decide +kernel
theorem d_K_count_1 : decode b_K_count 1 = .ok (.ifCond .lt 9, 3) := by decide +kernel
theorem d_K_count_4 : decode b_K_count 4 = .ok (.iload_n 1, 1) := by decide +kernel
theorem d_K_count_5 : decode b_K_count 5 = .ok (.bipush 9, 2) := by decide +kernel
theorem d_K_count_7 : decode b_K_count 7 = .ok (.if_icmp .lt 5, 3) := by decide +kernel
theorem d_K_count_10 : decode b_K_count 10 = .ok (.iconst (-1), 1) := by decide +kernel
theorem d_K_count_11 : decode b_K_count 11 = .ok (.ireturn, 1) := by decide +kernel
theorem d_K_count_12 : decode b_K_count 12 = .ok (.aload_n 0, 1) := by decide +kernel
theorem d_K_count_13 : decode b_K_count 13 = .ok (.iload_n 1, 1) := by decide +kernel
theorem d_K_count_14 : decode b_K_count 14 = .ok (.invokevirtual 341, 3) := by decide +kernel
theorem d_K_count_17 : decode b_K_count 17 = .ok (.ireturn, 1) := by decide +kernel
theorem d_K_digest_0 : decode b_K_digest 0 = .ok (.ldc2_w 344, 3) := by decide +kernel
theorem d_K_digest_3 : decode b_K_digest 3 = .ok (.lstore_n 1, 1) := by decide +kernel
theorem d_K_digest_4 : decode b_K_digest 4 = .ok (.iconst 0, 1) := by decide +kernel
theorem d_K_digest_5 : decode b_K_digest 5 = .ok (.istore_n 3, 1) := by decide +kernel
theorem d_K_digest_6 : decode b_K_digest 6 = .ok (.iload_n 3, 1) := by decide +kernel
theorem d_K_digest_7 : decode b_K_digest 7 = .ok (.bipush 9, 2) := by decide +kernel
theorem d_K_digest_9 : decode b_K_digest 9 = .ok (.if_icmp .ge 22, 3) := by decide +kernel
theorem d_K_digest_12 : decode b_K_digest 12 = .ok (.ldc2_w 346, 3) := by decide +kernel
theorem d_K_digest_15 : decode b_K_digest 15 = .ok (.lload_n 1, 1) := by decide +kernel
theorem d_K_digest_16 : decode b_K_digest 16 = .ok (.lmul, 1) := by decide +kernel
theorem d_K_digest_17 : decode b_K_digest 17 = .ok (.aload_n 0, 1) := by decide +kernel
theorem d_K_digest_18 : decode b_K_digest 18 = .ok (.iload_n 3, 1) := by decide +kernel
theorem d_K_digest_19 : decode b_K_digest 19 = .ok (.invokevirtual 341, 3) := by decide +kernel
theorem d_K_digest_22 : decode b_K_digest 22 = .ok (.i2l, 1) := by decide +kernel
theorem d_K_digest_23 : decode b_K_digest 23 = .ok (.ladd, 1) := by decide +kernel
theorem d_K_digest_24 : decode b_K_digest 24 = .ok (.lstore_n 1, 1) := by decide +kernel
theorem d_K_digest_25 : decode b_K_digest 25 = .ok (.iinc 3 1, 3) := by decide +kernel
theorem d_K_digest_28 : decode b_K_digest 28 = .ok (.goto (-22), 3) := by decide +kernel
theorem d_K_digest_31 : decode b_K_digest 31 = .ok (.iconst 0, 1) := by decide +kernel
theorem d_K_digest_32 : decode b_K_digest 32 = .ok (.istore_n 3, 1) := by decide +kernel
theorem d_K_digest_33 : decode b_K_digest 33 = .ok (.iload_n 3, 1) := by decide +kernel
theorem d_K_digest_34 : decode b_K_digest 34 = .ok (.aload_n 0, 1) := by decide +kernel
theorem d_K_digest_35 : decode b_K_digest 35 = .ok (.getfield 21, 3) := by decide +kernel
theorem d_K_digest_38 : decode b_K_digest 38 = .ok (.getfield 135, 3) := by decide +kernel
theorem d_K_digest_41 : decode b_K_digest 41 = .ok (.if_icmp .ge 39, 3) := by decide +kernel
theorem d_K_digest_44 : decode b_K_digest 44 = .ok (.iconst 0, 1) := by decide +kernel
theorem d_K_digest_45 : decode b_K_digest 45 = .ok (.istore 4, 2) := by decide +kernel
theorem d_K_digest_47 : decode b_K_digest 47 = .ok (.iload 4, 2) := by decide +kernel
theorem d_K_digest_49 : decode b_K_digest 49 = .ok (.iconst 5, 1) := by decide +kernel
theorem d_K_digest_50 : decode b_K_digest 50 = .ok (.if_icmp .ge 24, 3) := by decide +kernel
theorem d_K_digest_53 : decode b_K_digest 53 = .ok (.ldc2_w 346, 3) := by decide +kernel
theorem d_K_digest_56 : decode b_K_digest 56 = .ok (.lload_n 1, 1) := by decide +kernel
theorem d_K_digest_57 : decode b_K_digest 57 = .ok (.lmul, 1) := by decide +kernel
theorem d_K_digest_58 : decode b_K_digest 58 = .ok (.aload_n 0, 1) := by decide +kernel
theorem d_K_digest_59 : decode b_K_digest 59 = .ok (.iload_n 3, 1) := by decide +kernel
theorem d_K_digest_60 : decode b_K_digest 60 = .ok (.iload 4, 2) := by decide +kernel
theorem d_K_digest_62 : decode b_K_digest 62 = .ok (.invokevirtual 141, 3) := by decide +kernel
theorem d_K_digest_65 : decode b_K_digest 65 = .ok (.i2l, 1) := by decide +kernel
theorem d_K_digest_66 : decode b_K_digest 66 = .ok (.ladd, 1) := by decide +kernel
theorem d_K_digest_67 : decode b_K_digest 67 = .ok (.lstore_n 1, 1) := by decide +kernel
theorem d_K_digest_68 : decode b_K_digest 68 = .ok (.iinc 4 1, 3) := by decide +kernel
theorem d_K_digest_71 : decode b_K_digest 71 = .ok (.goto (-24), 3) := by decide +kernel
theorem d_K_digest_74 : decode b_K_digest 74 = .ok (.iinc 3 1, 3) := by decide +kernel
theorem d_K_digest_77 : decode b_K_digest 77 = .ok (.goto (-44), 3) := by decide +kernel
theorem d_K_digest_80 : decode b_K_digest 80 = .ok (.iconst 0, 1) := by decide +kernel
theorem d_K_digest_81 : decode b_K_digest 81 = .ok (.istore_n 3, 1) := by decide +kernel
theorem d_K_digest_82 : decode b_K_digest 82 = .ok (.iload_n 3, 1) := by decide +kernel
theorem d_K_digest_83 : decode b_K_digest 83 = .ok (.aload_n 0, 1) := by decide +kernel
theorem d_K_digest_84 : decode b_K_digest 84 = .ok (.getfield 21, 3) := by decide +kernel
theorem d_K_digest_87 : decode b_K_digest 87 = .ok (.getfield 186, 3) := by decide +kernel
theorem d_K_digest_90 : decode b_K_digest 90 = .ok (.if_icmp .ge 40, 3) := by decide +kernel
theorem d_K_digest_93 : decode b_K_digest 93 = .ok (.iconst 0, 1) := by decide +kernel
theorem d_K_digest_94 : decode b_K_digest 94 = .ok (.istore 4, 2) := by decide +kernel
theorem d_K_digest_96 : decode b_K_digest 96 = .ok (.iload 4, 2) := by decide +kernel
theorem d_K_digest_98 : decode b_K_digest 98 = .ok (.bipush 6, 2) := by decide +kernel
theorem d_K_digest_100 : decode b_K_digest 100 = .ok (.if_icmp .ge 24, 3) := by decide +kernel
theorem d_K_digest_103 : decode b_K_digest 103 = .ok (.ldc2_w 346, 3) := by decide +kernel
theorem d_K_digest_106 : decode b_K_digest 106 = .ok (.lload_n 1, 1) := by decide +kernel
theorem d_K_digest_107 : decode b_K_digest 107 = .ok (.lmul, 1) := by decide +kernel
theorem d_K_digest_108 : decode b_K_digest 108 = .ok (.aload_n 0, 1) := by decide +kernel
theorem d_K_digest_109 : decode b_K_digest 109 = .ok (.iload_n 3, 1) := by decide +kernel
theorem d_K_digest_110 : decode b_K_digest 110 = .ok (.iload 4, 2) := by decide +kernel
theorem d_K_digest_112 : decode b_K_digest 112 = .ok (.invokevirtual 148, 3) := by decide +kernel
theorem d_K_digest_115 : decode b_K_digest 115 = .ok (.i2l, 1) := by decide +kernel
theorem d_K_digest_116 : decode b_K_digest 116 = .ok (.ladd, 1) := by decide +kernel
theorem d_K_digest_117 : decode b_K_digest 117 = .ok (.lstore_n 1, 1) := by decide +kernel
theorem d_K_digest_118 : decode b_K_digest 118 = .ok (.iinc 4 1, 3) := by decide +kernel
theorem d_K_digest_121 : decode b_K_digest 121 = .ok (.goto (-25), 3) := by decide +kernel
theorem d_K_digest_124 : decode b_K_digest 124 = .ok (.iinc 3 1, 3) := by decide +kernel
theorem d_K_digest_127 : decode b_K_digest 127 = .ok (.goto (-45), 3) := by decide +kernel
theorem d_K_digest_130 : decode b_K_digest 130 = .ok (.iconst 0, 1) := by decide +kernel
theorem d_K_digest_131 : decode b_K_digest 131 = .ok (.istore_n 3, 1) := by decide +kernel
theorem d_K_digest_132 : decode b_K_digest 132 = .ok (.iload_n 3, 1) := by decide +kernel
theorem d_K_digest_133 : decode b_K_digest 133 = .ok (.iconst 3, 1) := by decide +kernel
theorem d_K_digest_134 : decode b_K_digest 134 = .ok (.if_icmp .ge 26, 3) := by decide +kernel
theorem d_K_digest_137 : decode b_K_digest 137 = .ok (.ldc2_w 346, 3) := by decide +kernel
theorem d_K_digest_140 : decode b_K_digest 140 = .ok (.lload_n 1, 1) := by decide +kernel
theorem d_K_digest_141 : decode b_K_digest 141 = .ok (.lmul, 1) := by decide +kernel
theorem d_K_digest_142 : decode b_K_digest 142 = .ok (.aload_n 0, 1) := by decide +kernel
theorem d_K_digest_143 : decode b_K_digest 143 = .ok (.getfield 35, 3) := by decide +kernel
theorem d_K_digest_146 : decode b_K_digest 146 = .ok (.iload_n 3, 1) := by decide +kernel
theorem d_K_digest_147 : decode b_K_digest 147 = .ok (.aaload, 1) := by decide +kernel
theorem d_K_digest_148 : decode b_K_digest 148 = .ok (.getfield 81, 3) := by decide +kernel
theorem d_K_digest_151 : decode b_K_digest 151 = .ok (.i2l, 1) := by decide +kernel
theorem d_K_digest_152 : decode b_K_digest 152 = .ok (.ladd, 1) := by decide +kernel
theorem d_K_digest_153 : decode b_K_digest 153 = .ok (.lstore_n 1, 1) := by decide +kernel
theorem d_K_digest_154 : decode b_K_digest 154 = .ok (.iinc 3 1, 3) := by decide +kernel
theorem d_K_digest_157 : decode b_K_digest 157 = .ok (.goto (-25), 3) := by decide +kernel
theorem d_K_digest_160 : decode b_K_digest 160 = .ok (.iconst 0, 1) := by decide +kernel
theorem d_K_digest_161 : decode b_K_digest 161 = .ok (.istore_n 3, 1) := by decide +kernel
theorem d_K_digest_162 : decode b_K_digest 162 = .ok (.iload_n 3, 1) := by decide +kernel
theorem d_K_digest_163 : decode b_K_digest 163 = .ok (.bipush 6, 2) := by decide +kernel
theorem d_K_digest_165 : decode b_K_digest 165 = .ok (.if_icmp .ge 20, 3) := by decide +kernel
theorem d_K_digest_168 : decode b_K_digest 168 = .ok (.aload_n 0, 1) := by decide +kernel
theorem d_K_digest_169 : decode b_K_digest 169 = .ok (.getfield 11, 3) := by decide +kernel
theorem d_K_digest_172 : decode b_K_digest 172 = .ok (.iload_n 3, 1) := by decide +kernel
theorem d_K_digest_173 : decode b_K_digest 173 = .ok (.aaload, 1) := by decide +kernel
theorem d_K_digest_174 : decode b_K_digest 174 = .ok (.lload_n 1, 1) := by decide +kernel
theorem d_K_digest_175 : decode b_K_digest 175 = .ok (.invokevirtual 348, 3) := by decide +kernel
theorem d_K_digest_178 : decode b_K_digest 178 = .ok (.lstore_n 1, 1) := by decide +kernel
theorem d_K_digest_179 : decode b_K_digest 179 = .ok (.iinc 3 1, 3) := by decide +kernel
theorem d_K_digest_182 : decode b_K_digest 182 = .ok (.goto (-20), 3) := by decide +kernel
theorem d_K_digest_185 : decode b_K_digest 185 = .ok (.iconst 0, 1) := by decide +kernel
theorem d_K_digest_186 : decode b_K_digest 186 = .ok (.istore_n 3, 1) := by decide +kernel
theorem d_K_digest_187 : decode b_K_digest 187 = .ok (.iload_n 3, 1) := by decide +kernel
theorem d_K_digest_188 : decode b_K_digest 188 = .ok (.iconst 4, 1) := by decide +kernel
theorem d_K_digest_189 : decode b_K_digest 189 = .ok (.if_icmp .ge 20, 3) := by decide +kernel
theorem d_K_digest_192 : decode b_K_digest 192 = .ok (.aload_n 0, 1) := by decide +kernel
theorem d_K_digest_193 : decode b_K_digest 193 = .ok (.getfield 15, 3) := by decide +kernel
theorem d_K_digest_196 : decode b_K_digest 196 = .ok (.iload_n 3, 1) := by decide +kernel
theorem d_K_digest_197 : decode b_K_digest 197 = .ok (.aaload, 1) := by decide +kernel
theorem d_K_digest_198 : decode b_K_digest 198 = .ok (.lload_n 1, 1) := by decide +kernel
theorem d_K_digest_199 : decode b_K_digest 199 = .ok (.invokevirtual 348, 3) := by decide +kernel
theorem d_K_digest_202 : decode b_K_digest 202 = .ok (.lstore_n 1, 1) := by decide +kernel
theorem d_K_digest_203 : decode b_K_digest 203 = .ok (.iinc 3 1, 3) := by decide +kernel
theorem d_K_digest_206 : decode b_K_digest 206 = .ok (.goto (-19), 3) := by decide +kernel
theorem d_K_digest_209 : decode b_K_digest 209 = .ok (.lload_n 1, 1) := by decide +kernel
theorem d_K_digest_210 : decode b_K_digest 210 = .ok (.lreturn, 1) := by decide +kernel
theorem d_K_draft_0 : decode b_K_draft 0 = .ok (.aload_n 0, 1) := by decide +kernel
theorem d_K_draft_1 : decode b_K_draft 1 = .ok (.getfield 21, 3) := by decide +kernel
theorem d_K_draft_4 : decode b_K_draft 4 = .ok (.iload_n 1, 1) := by decide +kernel
theorem d_K_draft_5 : decode b_K_draft 5 = .ok (.invokevirtual 145, 3) := by decide +kernel
theorem d_K_draft_8 : decode b_K_draft 8 = .ok (.ifCond .eq 13, 3) := by decide +kernel
theorem d_K_draft_11 : decode b_K_draft 11 = .ok (.iload_n 2, 1) := by decide +kernel
theorem d_K_draft_12 : decode b_K_draft 12 = .ok (.ifCond .lt 9, 3) := by decide +kernel
theorem d_K_draft_15 : decode b_K_draft 15 = .ok (.iload_n 2, 1) := by decide +kernel
theorem d_K_draft_16 : decode b_K_draft 16 = .ok (.bipush 6, 2) := by decide +kernel
theorem d_K_draft_18 : decode b_K_draft 18 = .ok (.if_icmp .lt 5, 3) := by decide +kernel
theorem d_K_draft_21 : decode b_K_draft 21 = .ok (.iconst (-1), 1) := by decide +kernel
theorem d_K_draft_22 : decode b_K_draft 22 = .ok (.ireturn, 1) := by decide +kernel
theorem d_K_draft_23 : decode b_K_draft 23 = .ok (.aload_n 0, 1) := by decide +kernel
theorem d_K_draft_24 : decode b_K_draft 24 = .ok (.aload_n 0, 1) := by decide +kernel
theorem d_K_draft_25 : decode b_K_draft 25 = .ok (.iload_n 1, 1) := by decide +kernel
theorem d_K_draft_26 : decode b_K_draft 26 = .ok (.iload_n 2, 1) := by decide +kernel
theorem d_K_draft_27 : decode b_K_draft 27 = .ok (.invokevirtual 148, 3) := by decide +kernel
theorem d_K_draft_30 : decode b_K_draft 30 = .ok (.invokevirtual 102, 3) := by decide +kernel
theorem d_K_draft_33 : decode b_K_draft 33 = .ok (.ireturn, 1) := by decide +kernel
theorem d_K_endorse_0 : decode b_K_endorse 0 = .ok (.aload_n 0, 1) := by decide +kernel
theorem d_K_endorse_1 : decode b_K_endorse 1 = .ok (.getfield 21, 3) := by decide +kernel
theorem d_K_endorse_4 : decode b_K_endorse 4 = .ok (.iload_n 1, 1) := by decide +kernel
theorem d_K_endorse_5 : decode b_K_endorse 5 = .ok (.invokevirtual 145, 3) := by decide +kernel
theorem d_K_endorse_8 : decode b_K_endorse 8 = .ok (.ifCond .eq 14, 3) := by decide +kernel
theorem d_K_endorse_11 : decode b_K_endorse 11 = .ok (.aload_n 0, 1) := by decide +kernel
theorem d_K_endorse_12 : decode b_K_endorse 12 = .ok (.getfield 21, 3) := by decide +kernel
theorem d_K_endorse_15 : decode b_K_endorse 15 = .ok (.iload_n 2, 1) := by decide +kernel
theorem d_K_endorse_16 : decode b_K_endorse 16 = .ok (.invokevirtual 138, 3) := by decide +kernel
theorem d_K_endorse_19 : decode b_K_endorse 19 = .ok (.ifCond .ne 5, 3) := by decide +kernel
theorem d_K_endorse_22 : decode b_K_endorse 22 = .ok (.iconst (-1), 1) := by decide +kernel
theorem d_K_endorse_23 : decode b_K_endorse 23 = .ok (.ireturn, 1) := by decide +kernel
theorem d_K_endorse_24 : decode b_K_endorse 24 = .ok (.aload_n 0, 1) := by decide +kernel
theorem d_K_endorse_25 : decode b_K_endorse 25 = .ok (.getfield 21, 3) := by decide +kernel
theorem d_K_endorse_28 : decode b_K_endorse 28 = .ok (.getfield 213, 3) := by decide +kernel
theorem d_K_endorse_31 : decode b_K_endorse 31 = .ok (.iload_n 1, 1) := by decide +kernel
theorem d_K_endorse_32 : decode b_K_endorse 32 = .ok (.aaload, 1) := by decide +kernel
theorem d_K_endorse_33 : decode b_K_endorse 33 = .ok (.astore_n 3, 1) := by decide +kernel
theorem d_K_endorse_34 : decode b_K_endorse 34 = .ok (.aload_n 3, 1) := by decide +kernel
theorem d_K_endorse_35 : decode b_K_endorse 35 = .ok (.getfield 217, 3) := by decide +kernel
theorem d_K_endorse_38 : decode b_K_endorse 38 = .ok (.iload_n 2, 1) := by decide +kernel
theorem d_K_endorse_39 : decode b_K_endorse 39 = .ok (.if_icmp .ne 5, 3) := by decide +kernel
theorem d_K_endorse_42 : decode b_K_endorse 42 = .ok (.iconst (-1), 1) := by decide +kernel
theorem d_K_endorse_43 : decode b_K_endorse 43 = .ok (.ireturn, 1) := by decide +kernel
theorem d_K_endorse_44 : decode b_K_endorse 44 = .ok (.aload_n 3, 1) := by decide +kernel
theorem d_K_endorse_45 : decode b_K_endorse 45 = .ok (.invokevirtual 222, 3) := by decide +kernel
theorem d_K_endorse_48 : decode b_K_endorse 48 = .ok (.ifCond .eq 19, 3) := by decide +kernel
theorem d_K_endorse_51 : decode b_K_endorse 51 = .ok (.aload_n 3, 1) := by decide +kernel
theorem d_K_endorse_52 : decode b_K_endorse 52 = .ok (.getfield 225, 3) := by decide +kernel
theorem d_K_endorse_55 : decode b_K_endorse 55 = .ok (.iconst 2, 1) := by decide +kernel
theorem d_K_endorse_56 : decode b_K_endorse 56 = .ok (.if_icmp .ge 11, 3) := by decide +kernel
theorem d_K_endorse_59 : decode b_K_endorse 59 = .ok (.aload_n 3, 1) := by decide +kernel
theorem d_K_endorse_60 : decode b_K_endorse 60 = .ok (.getfield 228, 3) := by decide +kernel
theorem d_K_endorse_63 : decode b_K_endorse 63 = .ok (.iload_n 2, 1) := by decide +kernel
theorem d_K_endorse_64 : decode b_K_endorse 64 = .ok (.if_icmp .ne 6, 3) := by decide +kernel
theorem d_K_endorse_67 : decode b_K_endorse 67 = .ok (.bipush (-4), 2) := by decide +kernel
theorem d_K_endorse_69 : decode b_K_endorse 69 = .ok (.ireturn, 1) := by decide +kernel
theorem d_K_endorse_70 : decode b_K_endorse 70 = .ok (.aload_n 0, 1) := by decide +kernel
theorem d_K_endorse_71 : decode b_K_endorse 71 = .ok (.getfield 31, 3) := by decide +kernel
theorem d_K_endorse_74 : decode b_K_endorse 74 = .ok (.iconst 1, 1) := by decide +kernel
theorem d_K_endorse_75 : decode b_K_endorse 75 = .ok (.invokevirtual 189, 3) := by decide +kernel
theorem d_K_endorse_78 : decode b_K_endorse 78 = .ok (.ifCond .eq 6, 3) := by decide +kernel
theorem d_K_endorse_81 : decode b_K_endorse 81 = .ok (.bipush (-2), 2) := by decide +kernel
theorem d_K_endorse_83 : decode b_K_endorse 83 = .ok (.ireturn, 1) := by decide +kernel
theorem d_K_endorse_84 : decode b_K_endorse 84 = .ok (.aload_n 0, 1) := by decide +kernel
theorem d_K_endorse_85 : decode b_K_endorse 85 = .ok (.getfield 31, 3) := by decide +kernel
theorem d_K_endorse_88 : decode b_K_endorse 88 = .ok (.aload_n 0, 1) := by decide +kernel
theorem d_K_endorse_89 : decode b_K_endorse 89 = .ok (.getfield 21, 3) := by decide +kernel
theorem d_K_endorse_92 : decode b_K_endorse 92 = .ok (.invokevirtual 192, 3) := by decide +kernel
theorem d_K_endorse_95 : decode b_K_endorse 95 = .ok (.aload_n 3, 1) := by decide +kernel
theorem d_K_endorse_96 : decode b_K_endorse 96 = .ok (.iload_n 2, 1) := by decide +kernel
theorem d_K_endorse_97 : decode b_K_endorse 97 = .ok (.putfield 228, 3) := by decide +kernel
theorem d_K_endorse_100 : decode b_K_endorse 100 = .ok (.aload_n 3, 1) := by decide +kernel
theorem d_K_endorse_101 : decode b_K_endorse 101 = .ok (.dup, 1) := by decide +kernel
theorem d_K_endorse_102 : decode b_K_endorse 102 = .ok (.getfield 225, 3) := by decide +kernel
theorem d_K_endorse_105 : decode b_K_endorse 105 = .ok (.iconst 1, 1) := by decide +kernel
theorem d_K_endorse_106 : decode b_K_endorse 106 = .ok (.iadd, 1) := by decide +kernel
theorem d_K_endorse_107 : decode b_K_endorse 107 = .ok (.putfield 225, 3) := by decide +kernel
theorem d_K_endorse_110 : decode b_K_endorse 110 = .ok (.aload_n 3, 1) := by decide +kernel
theorem d_K_endorse_111 : decode b_K_endorse 111 = .ok (.getfield 225, 3) := by decide +kernel
theorem d_K_endorse_114 : decode b_K_endorse 114 = .ok (.ireturn, 1) := by decide +kernel
theorem d_K_falls_0 : decode b_K_falls 0 = .ok (.aload_n 0, 1) := by decide +kernel
theorem d_K_falls_1 : decode b_K_falls 1 = .ok (.getfield 21, 3) := by decide +kernel
theorem d_K_falls_4 : decode b_K_falls 4 = .ok (.iload_n 1, 1) := by decide +kernel
theorem d_K_falls_5 : decode b_K_falls 5 = .ok (.invokevirtual 138, 3) := by decide +kernel
theorem d_K_falls_8 : decode b_K_falls 8 = .ok (.ifCond .ne 5, 3) := by decide +kernel
theorem d_K_falls_11 : decode b_K_falls 11 = .ok (.iconst (-1), 1) := by decide +kernel
theorem d_K_falls_12 : decode b_K_falls 12 = .ok (.ireturn, 1) := by decide +kernel
theorem d_K_falls_13 : decode b_K_falls 13 = .ok (.aload_n 0, 1) := by decide +kernel
theorem d_K_falls_14 : decode b_K_falls 14 = .ok (.getfield 21, 3) := by decide +kernel
theorem d_K_falls_17 : decode b_K_falls 17 = .ok (.iload_n 1, 1) := by decide +kernel
theorem d_K_falls_18 : decode b_K_falls 18 = .ok (.iconst (-1), 1) := by decide +kernel
theorem d_K_falls_19 : decode b_K_falls 19 = .ok (.invokevirtual 286, 3) := by decide +kernel
theorem d_K_falls_22 : decode b_K_falls 22 = .ok (.ireturn, 1) := by decide +kernel
theorem d_K_fault_0 : decode b_K_fault 0 = .ok (.iload_n 1, 1) := by decide +kernel
theorem d_K_fault_1 : decode b_K_fault 1 = .ok (.invokestatic 122, 3) := by decide +kernel
theorem d_K_fault_4 : decode b_K_fault 4 = .ok (.ifCond .ne 5, 3) := by decide +kernel
theorem d_K_fault_7 : decode b_K_fault 7 = .ok (.iconst (-1), 1) := by decide +kernel
theorem d_K_fault_8 : decode b_K_fault 8 = .ok (.ireturn, 1) := by decide +kernel
theorem d_K_fault_9 : decode b_K_fault 9 = .ok (.aload_n 0, 1) := by decide +kernel
theorem d_K_fault_10 : decode b_K_fault 10 = .ok (.getfield 15, 3) := by decide +kernel
theorem d_K_fault_13 : decode b_K_fault 13 = .ok (.iload_n 1, 1) := by decide +kernel
theorem d_K_fault_14 : decode b_K_fault 14 = .ok (.aaload, 1) := by decide +kernel
theorem d_K_fault_15 : decode b_K_fault 15 = .ok (.invokevirtual 105, 3) := by decide +kernel
theorem d_K_fault_18 : decode b_K_fault 18 = .ok (.ifCond .eq 9, 3) := by decide +kernel
theorem d_K_fault_21 : decode b_K_fault 21 = .ok (.aload_n 0, 1) := by decide +kernel
theorem d_K_fault_22 : decode b_K_fault 22 = .ok (.iconst 1, 1) := by decide +kernel
theorem d_K_fault_23 : decode b_K_fault 23 = .ok (.invokevirtual 88, 3) := by decide +kernel
theorem d_K_fault_26 : decode b_K_fault 26 = .ok (.ireturn, 1) := by decide +kernel
theorem d_K_fault_27 : decode b_K_fault 27 = .ok (.aload_n 0, 1) := by decide +kernel
theorem d_K_fault_28 : decode b_K_fault 28 = .ok (.getfield 15, 3) := by decide +kernel
theorem d_K_fault_31 : decode b_K_fault 31 = .ok (.iload_n 1, 1) := by decide +kernel
theorem d_K_fault_32 : decode b_K_fault 32 = .ok (.aaload, 1) := by decide +kernel
theorem d_K_fault_33 : decode b_K_fault 33 = .ok (.aload_n 0, 1) := by decide +kernel
theorem d_K_fault_34 : decode b_K_fault 34 = .ok (.getfield 25, 3) := by decide +kernel
theorem d_K_fault_37 : decode b_K_fault 37 = .ok (.invokestatic 125, 3) := by decide +kernel
theorem d_K_fault_40 : decode b_K_fault 40 = .ok (.ireturn, 1) := by decide +kernel
theorem d_K_finding_0 : decode b_K_finding 0 = .ok (.aload_n 0, 1) := by decide +kernel
theorem d_K_finding_1 : decode b_K_finding 1 = .ok (.getfield 64, 3) := by decide +kernel
theorem d_K_finding_4 : decode b_K_finding 4 = .ok (.ireturn, 1) := by decide +kernel
theorem d_K_findings_0 : decode b_K_findings 0 = .ok (.iload_n 1, 1) := by decide +kernel
theorem d_K_findings_1 : decode b_K_findings 1 = .ok (.iconst 1, 1) := by decide +kernel
theorem d_K_findings_2 : decode b_K_findings 2 = .ok (.if_icmp .lt 8, 3) := by decide +kernel
theorem d_K_findings_5 : decode b_K_findings 5 = .ok (.iload_n 1, 1) := by decide +kernel
theorem d_K_findings_6 : decode b_K_findings 6 = .ok (.iconst 5, 1) := by decide +kernel
theorem d_K_findings_7 : decode b_K_findings 7 = .ok (.if_icmp .le 5, 3) := by decide +kernel
theorem d_K_findings_10 : decode b_K_findings 10 = .ok (.iconst (-1), 1) := by decide +kernel
theorem d_K_findings_11 : decode b_K_findings 11 = .ok (.ireturn, 1) := by decide +kernel
theorem d_K_findings_12 : decode b_K_findings 12 = .ok (.aload_n 0, 1) := by decide +kernel
theorem d_K_findings_13 : decode b_K_findings 13 = .ok (.getfield 60, 3) := by decide +kernel
theorem d_K_findings_16 : decode b_K_findings 16 = .ok (.iload_n 1, 1) := by decide +kernel
theorem d_K_findings_17 : decode b_K_findings 17 = .ok (.iaload, 1) := by decide +kernel
theorem d_K_findings_18 : decode b_K_findings 18 = .ok (.ireturn, 1) := by decide +kernel
theorem d_K_firstGain_0 : decode b_K_firstGain 0 = .ok (.aload_n 0, 1) := by decide +kernel
theorem d_K_firstGain_1 : decode b_K_firstGain 1 = .ok (.arraylength, 1) := by decide +kernel
theorem d_K_firstGain_2 : decode b_K_firstGain 2 = .ok (.bipush 6, 2) := by decide +kernel
theorem d_K_firstGain_4 : decode b_K_firstGain 4 = .ok (.if_icmp .ge 6, 3) := by decide +kernel
theorem d_K_firstGain_7 : decode b_K_firstGain 7 = .ok (.bipush (-9), 2) := by decide +kernel
theorem d_K_firstGain_9 : decode b_K_firstGain 9 = .ok (.ireturn, 1) := by decide +kernel
theorem d_K_firstGain_10 : decode b_K_firstGain 10 = .ok (.aload_n 0, 1) := by decide +kernel
theorem d_K_firstGain_11 : decode b_K_firstGain 11 = .ok (.iconst 0, 1) := by decide +kernel
theorem d_K_firstGain_12 : decode b_K_firstGain 12 = .ok (.iaload, 1) := by decide +kernel
theorem d_K_firstGain_13 : decode b_K_firstGain 13 = .ok (.i2l, 1) := by decide +kernel
theorem d_K_firstGain_14 : decode b_K_firstGain 14 = .ok (.aload_n 0, 1) := by decide +kernel
theorem d_K_firstGain_15 : decode b_K_firstGain 15 = .ok (.iconst 2, 1) := by decide +kernel
theorem d_K_firstGain_16 : decode b_K_firstGain 16 = .ok (.iaload, 1) := by decide +kernel
theorem d_K_firstGain_17 : decode b_K_firstGain 17 = .ok (.i2l, 1) := by decide +kernel
theorem d_K_firstGain_18 : decode b_K_firstGain 18 = .ok (.lmul, 1) := by decide +kernel
theorem d_K_firstGain_19 : decode b_K_firstGain 19 = .ok (.ldc2_w 380, 3) := by decide +kernel
theorem d_K_firstGain_22 : decode b_K_firstGain 22 = .ok (.lcmp, 1) := by decide +kernel
theorem d_K_firstGain_23 : decode b_K_firstGain 23 = .ok (.ifCond .le 5, 3) := by decide +kernel
theorem d_K_firstGain_26 : decode b_K_firstGain 26 = .ok (.iconst 0, 1) := by decide +kernel
theorem d_K_firstGain_27 : decode b_K_firstGain 27 = .ok (.ireturn, 1) := by decide +kernel
theorem d_K_firstGain_28 : decode b_K_firstGain 28 = .ok (.aload_n 0, 1) := by decide +kernel
theorem d_K_firstGain_29 : decode b_K_firstGain 29 = .ok (.iconst 1, 1) := by decide +kernel
theorem d_K_firstGain_30 : decode b_K_firstGain 30 = .ok (.iaload, 1) := by decide +kernel
theorem d_K_firstGain_31 : decode b_K_firstGain 31 = .ok (.i2l, 1) := by decide +kernel
theorem d_K_firstGain_32 : decode b_K_firstGain 32 = .ok (.aload_n 0, 1) := by decide +kernel
theorem d_K_firstGain_33 : decode b_K_firstGain 33 = .ok (.iconst 4, 1) := by decide +kernel
theorem d_K_firstGain_34 : decode b_K_firstGain 34 = .ok (.iaload, 1) := by decide +kernel
theorem d_K_firstGain_35 : decode b_K_firstGain 35 = .ok (.i2l, 1) := by decide +kernel
theorem d_K_firstGain_36 : decode b_K_firstGain 36 = .ok (.lmul, 1) := by decide +kernel
theorem d_K_firstGain_37 : decode b_K_firstGain 37 = .ok (.ldc2_w 380, 3) := by decide +kernel
theorem d_K_firstGain_40 : decode b_K_firstGain 40 = .ok (.lcmp, 1) := by decide +kernel
theorem d_K_firstGain_41 : decode b_K_firstGain 41 = .ok (.ifCond .le 5, 3) := by decide +kernel
theorem d_K_firstGain_44 : decode b_K_firstGain 44 = .ok (.iconst 1, 1) := by decide +kernel
theorem d_K_firstGain_45 : decode b_K_firstGain 45 = .ok (.ireturn, 1) := by decide +kernel
theorem d_K_firstGain_46 : decode b_K_firstGain 46 = .ok (.aload_n 0, 1) := by decide +kernel
theorem d_K_firstGain_47 : decode b_K_firstGain 47 = .ok (.iconst 3, 1) := by decide +kernel
theorem d_K_firstGain_48 : decode b_K_firstGain 48 = .ok (.iaload, 1) := by decide +kernel
theorem d_K_firstGain_49 : decode b_K_firstGain 49 = .ok (.i2l, 1) := by decide +kernel
theorem d_K_firstGain_50 : decode b_K_firstGain 50 = .ok (.aload_n 0, 1) := by decide +kernel
theorem d_K_firstGain_51 : decode b_K_firstGain 51 = .ok (.iconst 5, 1) := by decide +kernel
theorem d_K_firstGain_52 : decode b_K_firstGain 52 = .ok (.iaload, 1) := by decide +kernel
theorem d_K_firstGain_53 : decode b_K_firstGain 53 = .ok (.i2l, 1) := by decide +kernel
theorem d_K_firstGain_54 : decode b_K_firstGain 54 = .ok (.lmul, 1) := by decide +kernel
theorem d_K_firstGain_55 : decode b_K_firstGain 55 = .ok (.ldc2_w 380, 3) := by decide +kernel
theorem d_K_firstGain_58 : decode b_K_firstGain 58 = .ok (.lcmp, 1) := by decide +kernel
theorem d_K_firstGain_59 : decode b_K_firstGain 59 = .ok (.ifCond .le 5, 3) := by decide +kernel
theorem d_K_firstGain_62 : decode b_K_firstGain 62 = .ok (.iconst 2, 1) := by decide +kernel
theorem d_K_firstGain_63 : decode b_K_firstGain 63 = .ok (.ireturn, 1) := by decide +kernel
theorem d_K_firstGain_64 : decode b_K_firstGain 64 = .ok (.aload_n 0, 1) := by decide +kernel
theorem d_K_firstGain_65 : decode b_K_firstGain 65 = .ok (.iconst 0, 1) := by decide +kernel
theorem d_K_firstGain_66 : decode b_K_firstGain 66 = .ok (.iaload, 1) := by decide +kernel
theorem d_K_firstGain_67 : decode b_K_firstGain 67 = .ok (.i2l, 1) := by decide +kernel
theorem d_K_firstGain_68 : decode b_K_firstGain 68 = .ok (.aload_n 0, 1) := by decide +kernel
theorem d_K_firstGain_69 : decode b_K_firstGain 69 = .ok (.iconst 3, 1) := by decide +kernel
theorem d_K_firstGain_70 : decode b_K_firstGain 70 = .ok (.iaload, 1) := by decide +kernel
theorem d_K_firstGain_71 : decode b_K_firstGain 71 = .ok (.i2l, 1) := by decide +kernel
theorem d_K_firstGain_72 : decode b_K_firstGain 72 = .ok (.lmul, 1) := by decide +kernel
theorem d_K_firstGain_73 : decode b_K_firstGain 73 = .ok (.aload_n 0, 1) := by decide +kernel
theorem d_K_firstGain_74 : decode b_K_firstGain 74 = .ok (.iconst 4, 1) := by decide +kernel
theorem d_K_firstGain_75 : decode b_K_firstGain 75 = .ok (.iaload, 1) := by decide +kernel
theorem d_K_firstGain_76 : decode b_K_firstGain 76 = .ok (.i2l, 1) := by decide +kernel
theorem d_K_firstGain_77 : decode b_K_firstGain 77 = .ok (.lmul, 1) := by decide +kernel
theorem d_K_firstGain_78 : decode b_K_firstGain 78 = .ok (.ldc2_w 382, 3) := by decide +kernel
theorem d_K_firstGain_81 : decode b_K_firstGain 81 = .ok (.lcmp, 1) := by decide +kernel
theorem d_K_firstGain_82 : decode b_K_firstGain 82 = .ok (.ifCond .le 5, 3) := by decide +kernel
theorem d_K_firstGain_85 : decode b_K_firstGain 85 = .ok (.iconst 3, 1) := by decide +kernel
theorem d_K_firstGain_86 : decode b_K_firstGain 86 = .ok (.ireturn, 1) := by decide +kernel
theorem d_K_firstGain_87 : decode b_K_firstGain 87 = .ok (.aload_n 0, 1) := by decide +kernel
theorem d_K_firstGain_88 : decode b_K_firstGain 88 = .ok (.iconst 1, 1) := by decide +kernel
theorem d_K_firstGain_89 : decode b_K_firstGain 89 = .ok (.iaload, 1) := by decide +kernel
theorem d_K_firstGain_90 : decode b_K_firstGain 90 = .ok (.i2l, 1) := by decide +kernel
theorem d_K_firstGain_91 : decode b_K_firstGain 91 = .ok (.aload_n 0, 1) := by decide +kernel
theorem d_K_firstGain_92 : decode b_K_firstGain 92 = .ok (.iconst 5, 1) := by decide +kernel
theorem d_K_firstGain_93 : decode b_K_firstGain 93 = .ok (.iaload, 1) := by decide +kernel
theorem d_K_firstGain_94 : decode b_K_firstGain 94 = .ok (.i2l, 1) := by decide +kernel
theorem d_K_firstGain_95 : decode b_K_firstGain 95 = .ok (.lmul, 1) := by decide +kernel
theorem d_K_firstGain_96 : decode b_K_firstGain 96 = .ok (.aload_n 0, 1) := by decide +kernel
theorem d_K_firstGain_97 : decode b_K_firstGain 97 = .ok (.iconst 2, 1) := by decide +kernel
theorem d_K_firstGain_98 : decode b_K_firstGain 98 = .ok (.iaload, 1) := by decide +kernel
theorem d_K_firstGain_99 : decode b_K_firstGain 99 = .ok (.i2l, 1) := by decide +kernel
theorem d_K_firstGain_100 : decode b_K_firstGain 100 = .ok (.lmul, 1) := by decide +kernel
theorem d_K_firstGain_101 : decode b_K_firstGain 101 = .ok (.ldc2_w 382, 3) := by decide +kernel
theorem d_K_firstGain_104 : decode b_K_firstGain 104 = .ok (.lcmp, 1) := by decide +kernel
theorem d_K_firstGain_105 : decode b_K_firstGain 105 = .ok (.ifCond .le 5, 3) := by decide +kernel
theorem d_K_firstGain_108 : decode b_K_firstGain 108 = .ok (.iconst 4, 1) := by decide +kernel
theorem d_K_firstGain_109 : decode b_K_firstGain 109 = .ok (.ireturn, 1) := by decide +kernel
theorem d_K_firstGain_110 : decode b_K_firstGain 110 = .ok (.bipush (-9), 2) := by decide +kernel
theorem d_K_firstGain_112 : decode b_K_firstGain 112 = .ok (.ireturn, 1) := by decide +kernel
theorem d_K_gain_0 : decode b_K_gain 0 = .ok (.iload_n 1, 1) := by decide +kernel
theorem d_K_gain_1 : decode b_K_gain 1 = .ok (.invokestatic 84, 3) := by decide +kernel
theorem d_K_gain_4 : decode b_K_gain 4 = .ok (.ifCond .ne 5, 3) := by decide +kernel
theorem d_K_gain_7 : decode b_K_gain 7 = .ok (.iconst (-1), 1) := by decide +kernel
theorem d_K_gain_8 : decode b_K_gain 8 = .ok (.ireturn, 1) := by decide +kernel
theorem d_K_gain_9 : decode b_K_gain 9 = .ok (.aload_n 0, 1) := by decide +kernel
theorem d_K_gain_10 : decode b_K_gain 10 = .ok (.getfield 11, 3) := by decide +kernel
theorem d_K_gain_13 : decode b_K_gain 13 = .ok (.iload_n 1, 1) := by decide +kernel
theorem d_K_gain_14 : decode b_K_gain 14 = .ok (.aaload, 1) := by decide +kernel
theorem d_K_gain_15 : decode b_K_gain 15 = .ok (.astore_n 2, 1) := by decide +kernel
theorem d_K_gain_16 : decode b_K_gain 16 = .ok (.aload_n 2, 1) := by decide +kernel
theorem d_K_gain_17 : decode b_K_gain 17 = .ok (.invokevirtual 105, 3) := by decide +kernel
theorem d_K_gain_20 : decode b_K_gain 20 = .ok (.ifCond .eq 9, 3) := by decide +kernel
theorem d_K_gain_23 : decode b_K_gain 23 = .ok (.aload_n 0, 1) := by decide +kernel
theorem d_K_gain_24 : decode b_K_gain 24 = .ok (.iconst 1, 1) := by decide +kernel
theorem d_K_gain_25 : decode b_K_gain 25 = .ok (.invokevirtual 88, 3) := by decide +kernel
theorem d_K_gain_28 : decode b_K_gain 28 = .ok (.ireturn, 1) := by decide +kernel
theorem d_K_gain_29 : decode b_K_gain 29 = .ok (.aload_n 2, 1) := by decide +kernel
theorem d_K_gain_30 : decode b_K_gain 30 = .ok (.getfield 109, 3) := by decide +kernel
theorem d_K_gain_33 : decode b_K_gain 33 = .ok (.bipush 6, 2) := by decide +kernel
theorem d_K_gain_35 : decode b_K_gain 35 = .ok (.if_icmp .eq 9, 3) := by decide +kernel
theorem d_K_gain_38 : decode b_K_gain 38 = .ok (.aload_n 0, 1) := by decide +kernel
theorem d_K_gain_39 : decode b_K_gain 39 = .ok (.iconst 5, 1) := by decide +kernel
theorem d_K_gain_40 : decode b_K_gain 40 = .ok (.invokevirtual 88, 3) := by decide +kernel
theorem d_K_gain_43 : decode b_K_gain 43 = .ok (.ireturn, 1) := by decide +kernel
theorem d_K_gain_44 : decode b_K_gain 44 = .ok (.iconst 0, 1) := by decide +kernel
theorem d_K_gain_45 : decode b_K_gain 45 = .ok (.istore_n 3, 1) := by decide +kernel
theorem d_K_gain_46 : decode b_K_gain 46 = .ok (.iload_n 3, 1) := by decide +kernel
theorem d_K_gain_47 : decode b_K_gain 47 = .ok (.bipush 6, 2) := by decide +kernel
theorem d_K_gain_49 : decode b_K_gain 49 = .ok (.if_icmp .ge 37, 3) := by decide +kernel
theorem d_K_gain_52 : decode b_K_gain 52 = .ok (.aload_n 2, 1) := by decide +kernel
theorem d_K_gain_53 : decode b_K_gain 53 = .ok (.getfield 99, 3) := by decide +kernel
theorem d_K_gain_56 : decode b_K_gain 56 = .ok (.iload_n 3, 1) := by decide +kernel
theorem d_K_gain_57 : decode b_K_gain 57 = .ok (.iaload, 1) := by decide +kernel
theorem d_K_gain_58 : decode b_K_gain 58 = .ok (.iconst 1, 1) := by decide +kernel
theorem d_K_gain_59 : decode b_K_gain 59 = .ok (.if_icmp .lt 15, 3) := by decide +kernel
theorem d_K_gain_62 : decode b_K_gain 62 = .ok (.aload_n 2, 1) := by decide +kernel
theorem d_K_gain_63 : decode b_K_gain 63 = .ok (.getfield 99, 3) := by decide +kernel
theorem d_K_gain_66 : decode b_K_gain 66 = .ok (.iload_n 3, 1) := by decide +kernel
theorem d_K_gain_67 : decode b_K_gain 67 = .ok (.iaload, 1) := by decide +kernel
theorem d_K_gain_68 : decode b_K_gain 68 = .ok (.sipush 9999, 3) := by decide +kernel
theorem d_K_gain_71 : decode b_K_gain 71 = .ok (.if_icmp .le 9, 3) := by decide +kernel
theorem d_K_gain_74 : decode b_K_gain 74 = .ok (.aload_n 0, 1) := by decide +kernel
theorem d_K_gain_75 : decode b_K_gain 75 = .ok (.iconst 3, 1) := by decide +kernel
theorem d_K_gain_76 : decode b_K_gain 76 = .ok (.invokevirtual 88, 3) := by decide +kernel
theorem d_K_gain_79 : decode b_K_gain 79 = .ok (.ireturn, 1) := by decide +kernel
theorem d_K_gain_80 : decode b_K_gain 80 = .ok (.iinc 3 1, 3) := by decide +kernel
theorem d_K_gain_83 : decode b_K_gain 83 = .ok (.goto (-37), 3) := by decide +kernel
theorem d_K_gain_86 : decode b_K_gain 86 = .ok (.aload_n 2, 1) := by decide +kernel
theorem d_K_gain_87 : decode b_K_gain 87 = .ok (.getfield 99, 3) := by decide +kernel
theorem d_K_gain_90 : decode b_K_gain 90 = .ok (.invokestatic 310, 3) := by decide +kernel
theorem d_K_gain_93 : decode b_K_gain 93 = .ok (.ireturn, 1) := by decide +kernel
theorem d_K_greatestCommon_0 : decode b_K_greatestCommon 0 = .ok (.iload_n 0, 1) := by decide +kernel
theorem d_K_greatestCommon_1 : decode b_K_greatestCommon 1 = .ok (.bipush 6, 2) := by decide +kernel
theorem d_K_greatestCommon_3 : decode b_K_greatestCommon 3 = .ok (.invokestatic 384, 3) := by decide +kernel
theorem d_K_greatestCommon_6 : decode b_K_greatestCommon 6 = .ok (.istore_n 2, 1) := by decide +kernel
theorem d_K_greatestCommon_7 : decode b_K_greatestCommon 7 = .ok (.iload_n 2, 1) := by decide +kernel
theorem d_K_greatestCommon_8 : decode b_K_greatestCommon 8 = .ok (.iconst 1, 1) := by decide +kernel
theorem d_K_greatestCommon_9 : decode b_K_greatestCommon 9 = .ok (.if_icmp .le 23, 3) := by decide +kernel
theorem d_K_greatestCommon_12 : decode b_K_greatestCommon 12 = .ok (.iload_n 0, 1) := by decide +kernel
theorem d_K_greatestCommon_13 : decode b_K_greatestCommon 13 = .ok (.iload_n 2, 1) := by decide +kernel
theorem d_K_greatestCommon_14 : decode b_K_greatestCommon 14 = .ok (.irem, 1) := by decide +kernel
theorem d_K_greatestCommon_15 : decode b_K_greatestCommon 15 = .ok (.ifCond .ne 11, 3) := by decide +kernel
theorem d_K_greatestCommon_18 : decode b_K_greatestCommon 18 = .ok (.iload_n 1, 1) := by decide +kernel
theorem d_K_greatestCommon_19 : decode b_K_greatestCommon 19 = .ok (.iload_n 2, 1) := by decide +kernel
theorem d_K_greatestCommon_20 : decode b_K_greatestCommon 20 = .ok (.irem, 1) := by decide +kernel
theorem d_K_greatestCommon_21 : decode b_K_greatestCommon 21 = .ok (.ifCond .ne 5, 3) := by decide +kernel
theorem d_K_greatestCommon_24 : decode b_K_greatestCommon 24 = .ok (.iload_n 2, 1) := by decide +kernel
theorem d_K_greatestCommon_25 : decode b_K_greatestCommon 25 = .ok (.ireturn, 1) := by decide +kernel
theorem d_K_greatestCommon_26 : decode b_K_greatestCommon 26 = .ok (.iinc 2 (-1), 3) := by decide +kernel
theorem d_K_greatestCommon_29 : decode b_K_greatestCommon 29 = .ok (.goto (-22), 3) := by decide +kernel
theorem d_K_greatestCommon_32 : decode b_K_greatestCommon 32 = .ok (.iconst 1, 1) := by decide +kernel
theorem d_K_greatestCommon_33 : decode b_K_greatestCommon 33 = .ok (.ireturn, 1) := by decide +kernel
theorem d_K_howMany_0 : decode b_K_howMany 0 = .ok (.iload_n 1, 1) := by decide +kernel
theorem d_K_howMany_1 : decode b_K_howMany 1 = .ok (.tableswitch 131 0 7 #[47, 55, 63, 71, 79, 106, 115, 123], 47) := by decide +kernel
theorem d_K_howMany_48 : decode b_K_howMany 48 = .ok (.aload_n 0, 1) := by decide +kernel
theorem d_K_howMany_49 : decode b_K_howMany 49 = .ok (.getfield 21, 3) := by decide +kernel
theorem d_K_howMany_52 : decode b_K_howMany 52 = .ok (.getfield 135, 3) := by decide +kernel
theorem d_K_howMany_55 : decode b_K_howMany 55 = .ok (.ireturn, 1) := by decide +kernel
theorem d_K_howMany_56 : decode b_K_howMany 56 = .ok (.aload_n 0, 1) := by decide +kernel
theorem d_K_howMany_57 : decode b_K_howMany 57 = .ok (.getfield 21, 3) := by decide +kernel
theorem d_K_howMany_60 : decode b_K_howMany 60 = .ok (.getfield 186, 3) := by decide +kernel
theorem d_K_howMany_63 : decode b_K_howMany 63 = .ok (.ireturn, 1) := by decide +kernel
theorem d_K_howMany_64 : decode b_K_howMany 64 = .ok (.aload_n 0, 1) := by decide +kernel
theorem d_K_howMany_65 : decode b_K_howMany 65 = .ok (.getfield 31, 3) := by decide +kernel
theorem d_K_howMany_68 : decode b_K_howMany 68 = .ok (.getfield 81, 3) := by decide +kernel
theorem d_K_howMany_71 : decode b_K_howMany 71 = .ok (.ireturn, 1) := by decide +kernel
theorem d_K_howMany_72 : decode b_K_howMany 72 = .ok (.aload_n 0, 1) := by decide +kernel
theorem d_K_howMany_73 : decode b_K_howMany 73 = .ok (.getfield 21, 3) := by decide +kernel
theorem d_K_howMany_76 : decode b_K_howMany 76 = .ok (.invokevirtual 364, 3) := by decide +kernel
theorem d_K_howMany_79 : decode b_K_howMany 79 = .ok (.ireturn, 1) := by decide +kernel
theorem d_K_howMany_80 : decode b_K_howMany 80 = .ok (.aload_n 0, 1) := by decide +kernel
theorem d_K_howMany_81 : decode b_K_howMany 81 = .ok (.getfield 21, 3) := by decide +kernel
theorem d_K_howMany_84 : decode b_K_howMany 84 = .ok (.iconst 0, 1) := by decide +kernel
theorem d_K_howMany_85 : decode b_K_howMany 85 = .ok (.invokevirtual 283, 3) := by decide +kernel
theorem d_K_howMany_88 : decode b_K_howMany 88 = .ok (.aload_n 0, 1) := by decide +kernel
theorem d_K_howMany_89 : decode b_K_howMany 89 = .ok (.getfield 21, 3) := by decide +kernel
theorem d_K_howMany_92 : decode b_K_howMany 92 = .ok (.iconst 1, 1) := by decide +kernel
theorem d_K_howMany_93 : decode b_K_howMany 93 = .ok (.invokevirtual 283, 3) := by decide +kernel
theorem d_K_howMany_96 : decode b_K_howMany 96 = .ok (.iadd, 1) := by decide +kernel
theorem d_K_howMany_97 : decode b_K_howMany 97 = .ok (.aload_n 0, 1) := by decide +kernel
theorem d_K_howMany_98 : decode b_K_howMany 98 = .ok (.getfield 21, 3) := by decide +kernel
theorem d_K_howMany_101 : decode b_K_howMany 101 = .ok (.iconst 2, 1) := by decide +kernel
theorem d_K_howMany_102 : decode b_K_howMany 102 = .ok (.invokevirtual 283, 3) := by decide +kernel
theorem d_K_howMany_105 : decode b_K_howMany 105 = .ok (.iadd, 1) := by decide +kernel
theorem d_K_howMany_106 : decode b_K_howMany 106 = .ok (.ireturn, 1) := by decide +kernel
theorem d_K_howMany_107 : decode b_K_howMany 107 = .ok (.aload_n 0, 1) := by decide +kernel
theorem d_K_howMany_108 : decode b_K_howMany 108 = .ok (.getfield 21, 3) := by decide +kernel
theorem d_K_howMany_111 : decode b_K_howMany 111 = .ok (.iconst 1, 1) := by decide +kernel
theorem d_K_howMany_112 : decode b_K_howMany 112 = .ok (.invokevirtual 367, 3) := by decide +kernel
theorem d_K_howMany_115 : decode b_K_howMany 115 = .ok (.ireturn, 1) := by decide +kernel
theorem d_K_howMany_116 : decode b_K_howMany 116 = .ok (.aload_n 0, 1) := by decide +kernel
theorem d_K_howMany_117 : decode b_K_howMany 117 = .ok (.getfield 11, 3) := by decide +kernel
theorem d_K_howMany_120 : decode b_K_howMany 120 = .ok (.invokestatic 370, 3) := by decide +kernel
theorem d_K_howMany_123 : decode b_K_howMany 123 = .ok (.ireturn, 1) := by decide +kernel
theorem d_K_howMany_124 : decode b_K_howMany 124 = .ok (.aload_n 0, 1) := by decide +kernel
theorem d_K_howMany_125 : decode b_K_howMany 125 = .ok (.getfield 15, 3) := by decide +kernel
theorem d_K_howMany_128 : decode b_K_howMany 128 = .ok (.invokestatic 370, 3) := by decide +kernel
theorem d_K_howMany_131 : decode b_K_howMany 131 = .ok (.ireturn, 1) := by decide +kernel
theorem d_K_howMany_132 : decode b_K_howMany 132 = .ok (.aload_n 0, 1) := by decide +kernel
theorem d_K_howMany_133 : decode b_K_howMany 133 = .ok (.invokevirtual 374, 3) := by decide +kernel
theorem d_K_howMany_136 : decode b_K_howMany 136 = .ok (.ireturn, 1) := by decide +kernel
theorem d_K_isKeptPlace_0 : decode b_K_isKeptPlace 0 = .ok (.iload_n 0, 1) := by decide +kernel
theorem d_K_isKeptPlace_1 : decode b_K_isKeptPlace 1 = .ok (.ifCond .lt 12, 3) := by decide +kernel
theorem d_K_isKeptPlace_4 : decode b_K_isKeptPlace 4 = .ok (.iload_n 0, 1) := by decide +kernel
theorem d_K_isKeptPlace_5 : decode b_K_isKeptPlace 5 = .ok (.iconst 3, 1) := by decide +kernel
theorem d_K_isKeptPlace_6 : decode b_K_isKeptPlace 6 = .ok (.if_icmp .ge 7, 3) := by decide +kernel
theorem d_K_isKeptPlace_9 : decode b_K_isKeptPlace 9 = .ok (.iconst 1, 1) := by decide +kernel
theorem d_K_isKeptPlace_10 : decode b_K_isKeptPlace 10 = .ok (.goto 4, 3) := by decide +kernel
theorem d_K_isKeptPlace_13 : decode b_K_isKeptPlace 13 = .ok (.iconst 0, 1) := by decide +kernel
theorem d_K_isKeptPlace_14 : decode b_K_isKeptPlace 14 = .ok (.ireturn, 1) := by decide +kernel
theorem d_K_isRingSort_0 : decode b_K_isRingSort 0 = .ok (.iload_n 0, 1) := by decide +kernel
theorem d_K_isRingSort_1 : decode b_K_isRingSort 1 = .ok (.ifCond .eq 8, 3) := by decide +kernel
theorem d_K_isRingSort_4 : decode b_K_isRingSort 4 = .ok (.iload_n 0, 1) := by decide +kernel
theorem d_K_isRingSort_5 : decode b_K_isRingSort 5 = .ok (.iconst 1, 1) := by decide +kernel
theorem d_K_isRingSort_6 : decode b_K_isRingSort 6 = .ok (.if_icmp .ne 7, 3) := by decide +kernel
theorem d_K_isRingSort_9 : decode b_K_isRingSort 9 = .ok (.iconst 1, 1) := by decide +kernel
theorem d_K_isRingSort_10 : decode b_K_isRingSort 10 = .ok (.goto 4, 3) := by decide +kernel
theorem d_K_isRingSort_13 : decode b_K_isRingSort 13 = .ok (.iconst 0, 1) := by decide +kernel
theorem d_K_isRingSort_14 : decode b_K_isRingSort 14 = .ok (.ireturn, 1) := by decide +kernel
theorem d_K_isRow_0 : decode b_K_isRow 0 = .ok (.iload_n 0, 1) := by decide +kernel
theorem d_K_isRow_1 : decode b_K_isRow 1 = .ok (.ifCond .lt 13, 3) := by decide +kernel
theorem d_K_isRow_4 : decode b_K_isRow 4 = .ok (.iload_n 0, 1) := by decide +kernel
theorem d_K_isRow_5 : decode b_K_isRow 5 = .ok (.bipush 6, 2) := by decide +kernel
theorem d_K_isRow_7 : decode b_K_isRow 7 = .ok (.if_icmp .ge 7, 3) := by decide +kernel
theorem d_K_isRow_10 : decode b_K_isRow 10 = .ok (.iconst 1, 1) := by decide +kernel
theorem d_K_isRow_11 : decode b_K_isRow 11 = .ok (.goto 4, 3) := by decide +kernel
theorem d_K_isRow_14 : decode b_K_isRow 14 = .ok (.iconst 0, 1) := by decide +kernel
theorem d_K_isRow_15 : decode b_K_isRow 15 = .ok (.ireturn, 1) := by decide +kernel
theorem d_K_isSort_0 : decode b_K_isSort 0 = .ok (.iload_n 0, 1) := by decide +kernel
theorem d_K_isSort_1 : decode b_K_isSort 1 = .ok (.ifCond .lt 12, 3) := by decide +kernel
theorem d_K_isSort_4 : decode b_K_isSort 4 = .ok (.iload_n 0, 1) := by decide +kernel
theorem d_K_isSort_5 : decode b_K_isSort 5 = .ok (.iconst 3, 1) := by decide +kernel
theorem d_K_isSort_6 : decode b_K_isSort 6 = .ok (.if_icmp .ge 7, 3) := by decide +kernel
theorem d_K_isSort_9 : decode b_K_isSort 9 = .ok (.iconst 1, 1) := by decide +kernel
theorem d_K_isSort_10 : decode b_K_isSort 10 = .ok (.goto 4, 3) := by decide +kernel
theorem d_K_isSort_13 : decode b_K_isSort 13 = .ok (.iconst 0, 1) := by decide +kernel
theorem d_K_isSort_14 : decode b_K_isSort 14 = .ok (.ireturn, 1) := by decide +kernel
theorem d_K_isText_0 : decode b_K_isText 0 = .ok (.iload_n 0, 1) := by decide +kernel
theorem d_K_isText_1 : decode b_K_isText 1 = .ok (.ifCond .lt 12, 3) := by decide +kernel
theorem d_K_isText_4 : decode b_K_isText 4 = .ok (.iload_n 0, 1) := by decide +kernel
theorem d_K_isText_5 : decode b_K_isText 5 = .ok (.iconst 4, 1) := by decide +kernel
theorem d_K_isText_6 : decode b_K_isText 6 = .ok (.if_icmp .ge 7, 3) := by decide +kernel
theorem d_K_isText_9 : decode b_K_isText 9 = .ok (.iconst 1, 1) := by decide +kernel
theorem d_K_isText_10 : decode b_K_isText 10 = .ok (.goto 4, 3) := by decide +kernel
theorem d_K_isText_13 : decode b_K_isText 13 = .ok (.iconst 0, 1) := by decide +kernel
theorem d_K_isText_14 : decode b_K_isText 14 = .ok (.ireturn, 1) := by decide +kernel
theorem d_K_keep_0 : decode b_K_keep 0 = .ok (.iload_n 1, 1) := by decide +kernel
theorem d_K_keep_1 : decode b_K_keep 1 = .ok (.invokestatic 242, 3) := by decide +kernel
theorem d_K_keep_4 : decode b_K_keep 4 = .ok (.ifCond .ne 5, 3) := by decide +kernel
theorem d_K_keep_7 : decode b_K_keep 7 = .ok (.iconst (-1), 1) := by decide +kernel
theorem d_K_keep_8 : decode b_K_keep 8 = .ok (.ireturn, 1) := by decide +kernel
theorem d_K_keep_9 : decode b_K_keep 9 = .ok (.aload_n 0, 1) := by decide +kernel
theorem d_K_keep_10 : decode b_K_keep 10 = .ok (.getfield 21, 3) := by decide +kernel
theorem d_K_keep_13 : decode b_K_keep 13 = .ok (.invokevirtual 231, 3) := by decide +kernel
theorem d_K_keep_16 : decode b_K_keep 16 = .ok (.ifCond .eq 6, 3) := by decide +kernel
theorem d_K_keep_19 : decode b_K_keep 19 = .ok (.bipush (-4), 2) := by decide +kernel
theorem d_K_keep_21 : decode b_K_keep 21 = .ok (.ireturn, 1) := by decide +kernel
theorem d_K_keep_22 : decode b_K_keep 22 = .ok (.aload_n 0, 1) := by decide +kernel
theorem d_K_keep_23 : decode b_K_keep 23 = .ok (.getfield 31, 3) := by decide +kernel
theorem d_K_keep_26 : decode b_K_keep 26 = .ok (.aload_n 0, 1) := by decide +kernel
theorem d_K_keep_27 : decode b_K_keep 27 = .ok (.getfield 21, 3) := by decide +kernel
theorem d_K_keep_30 : decode b_K_keep 30 = .ok (.invokevirtual 245, 3) := by decide +kernel
theorem d_K_keep_33 : decode b_K_keep 33 = .ok (.aload_n 0, 1) := by decide +kernel
theorem d_K_keep_34 : decode b_K_keep 34 = .ok (.getfield 35, 3) := by decide +kernel
theorem d_K_keep_37 : decode b_K_keep 37 = .ok (.iload_n 1, 1) := by decide +kernel
theorem d_K_keep_38 : decode b_K_keep 38 = .ok (.aaload, 1) := by decide +kernel
theorem d_K_keep_39 : decode b_K_keep 39 = .ok (.aload_n 0, 1) := by decide +kernel
theorem d_K_keep_40 : decode b_K_keep 40 = .ok (.getfield 31, 3) := by decide +kernel
theorem d_K_keep_43 : decode b_K_keep 43 = .ok (.invokevirtual 248, 3) := by decide +kernel
theorem d_K_keep_46 : decode b_K_keep 46 = .ok (.aload_n 0, 1) := by decide +kernel
theorem d_K_keep_47 : decode b_K_keep 47 = .ok (.getfield 31, 3) := by decide +kernel
theorem d_K_keep_50 : decode b_K_keep 50 = .ok (.getfield 81, 3) := by decide +kernel
theorem d_K_keep_53 : decode b_K_keep 53 = .ok (.ireturn, 1) := by decide +kernel
theorem d_K_keptVillages_0 : decode b_K_keptVillages 0 = .ok (.iconst 0, 1) := by decide +kernel
theorem d_K_keptVillages_1 : decode b_K_keptVillages 1 = .ok (.istore_n 1, 1) := by decide +kernel
theorem d_K_keptVillages_2 : decode b_K_keptVillages 2 = .ok (.iconst 0, 1) := by decide +kernel
theorem d_K_keptVillages_3 : decode b_K_keptVillages 3 = .ok (.istore_n 2, 1) := by decide +kernel
theorem d_K_keptVillages_4 : decode b_K_keptVillages 4 = .ok (.iload_n 2, 1) := by decide +kernel
theorem d_K_keptVillages_5 : decode b_K_keptVillages 5 = .ok (.iconst 3, 1) := by decide +kernel
theorem d_K_keptVillages_6 : decode b_K_keptVillages 6 = .ok (.if_icmp .ge 25, 3) := by decide +kernel
theorem d_K_keptVillages_9 : decode b_K_keptVillages 9 = .ok (.aload_n 0, 1) := by decide +kernel
theorem d_K_keptVillages_10 : decode b_K_keptVillages 10 = .ok (.getfield 35, 3) := by decide +kernel
theorem d_K_keptVillages_13 : decode b_K_keptVillages 13 = .ok (.iload_n 2, 1) := by decide +kernel
theorem d_K_keptVillages_14 : decode b_K_keptVillages 14 = .ok (.aaload, 1) := by decide +kernel
theorem d_K_keptVillages_15 : decode b_K_keptVillages 15 = .ok (.getfield 81, 3) := by decide +kernel
theorem d_K_keptVillages_18 : decode b_K_keptVillages 18 = .ok (.iconst (-1), 1) := by decide +kernel
theorem d_K_keptVillages_19 : decode b_K_keptVillages 19 = .ok (.if_icmp .eq 6, 3) := by decide +kernel
theorem d_K_keptVillages_22 : decode b_K_keptVillages 22 = .ok (.iinc 1 1, 3) := by decide +kernel
theorem d_K_keptVillages_25 : decode b_K_keptVillages 25 = .ok (.iinc 2 1, 3) := by decide +kernel
theorem d_K_keptVillages_28 : decode b_K_keptVillages 28 = .ok (.goto (-24), 3) := by decide +kernel
theorem d_K_keptVillages_31 : decode b_K_keptVillages 31 = .ok (.iload_n 1, 1) := by decide +kernel
theorem d_K_keptVillages_32 : decode b_K_keptVillages 32 = .ok (.ireturn, 1) := by decide +kernel
theorem d_K_lay_0 : decode b_K_lay 0 = .ok (.iload_n 1, 1) := by decide +kernel
theorem d_K_lay_1 : decode b_K_lay 1 = .ok (.invokestatic 84, 3) := by decide +kernel
theorem d_K_lay_4 : decode b_K_lay 4 = .ok (.ifCond .ne 5, 3) := by decide +kernel
theorem d_K_lay_7 : decode b_K_lay 7 = .ok (.iconst (-1), 1) := by decide +kernel
theorem d_K_lay_8 : decode b_K_lay 8 = .ok (.ireturn, 1) := by decide +kernel
theorem d_K_lay_9 : decode b_K_lay 9 = .ok (.aload_n 0, 1) := by decide +kernel
theorem d_K_lay_10 : decode b_K_lay 10 = .ok (.getfield 11, 3) := by decide +kernel
theorem d_K_lay_13 : decode b_K_lay 13 = .ok (.iload_n 1, 1) := by decide +kernel
theorem d_K_lay_14 : decode b_K_lay 14 = .ok (.aaload, 1) := by decide +kernel
theorem d_K_lay_15 : decode b_K_lay 15 = .ok (.iload_n 2, 1) := by decide +kernel
theorem d_K_lay_16 : decode b_K_lay 16 = .ok (.invokevirtual 96, 3) := by decide +kernel
theorem d_K_lay_19 : decode b_K_lay 19 = .ok (.istore 4, 2) := by decide +kernel
theorem d_K_lay_21 : decode b_K_lay 21 = .ok (.iload 4, 2) := by decide +kernel
theorem d_K_lay_23 : decode b_K_lay 23 = .ok (.ifCond .eq 10, 3) := by decide +kernel
theorem d_K_lay_26 : decode b_K_lay 26 = .ok (.aload_n 0, 1) := by decide +kernel
theorem d_K_lay_27 : decode b_K_lay 27 = .ok (.iload 4, 2) := by decide +kernel
theorem d_K_lay_29 : decode b_K_lay 29 = .ok (.invokevirtual 88, 3) := by decide +kernel
theorem d_K_lay_32 : decode b_K_lay 32 = .ok (.ireturn, 1) := by decide +kernel
theorem d_K_lay_33 : decode b_K_lay 33 = .ok (.aload_n 0, 1) := by decide +kernel
theorem d_K_lay_34 : decode b_K_lay 34 = .ok (.getfield 11, 3) := by decide +kernel
theorem d_K_lay_37 : decode b_K_lay 37 = .ok (.iload_n 1, 1) := by decide +kernel
theorem d_K_lay_38 : decode b_K_lay 38 = .ok (.aaload, 1) := by decide +kernel
theorem d_K_lay_39 : decode b_K_lay 39 = .ok (.getfield 99, 3) := by decide +kernel
theorem d_K_lay_42 : decode b_K_lay 42 = .ok (.iload_n 2, 1) := by decide +kernel
theorem d_K_lay_43 : decode b_K_lay 43 = .ok (.iaload, 1) := by decide +kernel
theorem d_K_lay_44 : decode b_K_lay 44 = .ok (.istore 5, 2) := by decide +kernel
theorem d_K_lay_46 : decode b_K_lay 46 = .ok (.aload_n 0, 1) := by decide +kernel
theorem d_K_lay_47 : decode b_K_lay 47 = .ok (.getfield 11, 3) := by decide +kernel
theorem d_K_lay_50 : decode b_K_lay 50 = .ok (.iload_n 1, 1) := by decide +kernel
theorem d_K_lay_51 : decode b_K_lay 51 = .ok (.aaload, 1) := by decide +kernel
theorem d_K_lay_52 : decode b_K_lay 52 = .ok (.getfield 99, 3) := by decide +kernel
theorem d_K_lay_55 : decode b_K_lay 55 = .ok (.iload_n 2, 1) := by decide +kernel
theorem d_K_lay_56 : decode b_K_lay 56 = .ok (.iload_n 3, 1) := by decide +kernel
theorem d_K_lay_57 : decode b_K_lay 57 = .ok (.iastore, 1) := by decide +kernel
theorem d_K_lay_58 : decode b_K_lay 58 = .ok (.aload_n 0, 1) := by decide +kernel
theorem d_K_lay_59 : decode b_K_lay 59 = .ok (.iload 5, 2) := by decide +kernel
theorem d_K_lay_61 : decode b_K_lay 61 = .ok (.invokevirtual 102, 3) := by decide +kernel
theorem d_K_lay_64 : decode b_K_lay 64 = .ok (.ireturn, 1) := by decide +kernel
theorem d_K_left_0 : decode b_K_left 0 = .ok (.iload_n 1, 1) := by decide +kernel
theorem d_K_left_1 : decode b_K_left 1 = .ok (.invokestatic 258, 3) := by decide +kernel
theorem d_K_left_4 : decode b_K_left 4 = .ok (.ifCond .ne 5, 3) := by decide +kernel
theorem d_K_left_7 : decode b_K_left 7 = .ok (.iconst (-1), 1) := by decide +kernel
theorem d_K_left_8 : decode b_K_left 8 = .ok (.ireturn, 1) := by decide +kernel
theorem d_K_left_9 : decode b_K_left 9 = .ok (.aload_n 0, 1) := by decide +kernel
theorem d_K_left_10 : decode b_K_left 10 = .ok (.getfield 25, 3) := by decide +kernel
theorem d_K_left_13 : decode b_K_left 13 = .ok (.aload_n 0, 1) := by decide +kernel
theorem d_K_left_14 : decode b_K_left 14 = .ok (.getfield 21, 3) := by decide +kernel
theorem d_K_left_17 : decode b_K_left 17 = .ok (.invokevirtual 131, 3) := by decide +kernel
theorem d_K_left_20 : decode b_K_left 20 = .ok (.iconst 0, 1) := by decide +kernel
theorem d_K_left_21 : decode b_K_left 21 = .ok (.istore_n 2, 1) := by decide +kernel
theorem d_K_left_22 : decode b_K_left 22 = .ok (.aload_n 0, 1) := by decide +kernel
theorem d_K_left_23 : decode b_K_left 23 = .ok (.getfield 42, 3) := by decide +kernel
theorem d_K_left_26 : decode b_K_left 26 = .ok (.aload_n 0, 1) := by decide +kernel
theorem d_K_left_27 : decode b_K_left 27 = .ok (.getfield 25, 3) := by decide +kernel
theorem d_K_left_30 : decode b_K_left 30 = .ok (.iload_n 1, 1) := by decide +kernel
theorem d_K_left_31 : decode b_K_left 31 = .ok (.invokevirtual 261, 3) := by decide +kernel
theorem d_K_left_34 : decode b_K_left 34 = .ok (.aload_n 0, 1) := by decide +kernel
theorem d_K_left_35 : decode b_K_left 35 = .ok (.getfield 42, 3) := by decide +kernel
theorem d_K_left_38 : decode b_K_left 38 = .ok (.getfield 268, 3) := by decide +kernel
theorem d_K_left_41 : decode b_K_left 41 = .ok (.ifCond .le 49, 3) := by decide +kernel
theorem d_K_left_44 : decode b_K_left 44 = .ok (.iload_n 2, 1) := by decide +kernel
theorem d_K_left_45 : decode b_K_left 45 = .ok (.bipush 12, 2) := by decide +kernel
theorem d_K_left_47 : decode b_K_left 47 = .ok (.if_icmp .ge 43, 3) := by decide +kernel
theorem d_K_left_50 : decode b_K_left 50 = .ok (.aload_n 0, 1) := by decide +kernel
theorem d_K_left_51 : decode b_K_left 51 = .ok (.getfield 25, 3) := by decide +kernel
theorem d_K_left_54 : decode b_K_left 54 = .ok (.aload_n 0, 1) := by decide +kernel
theorem d_K_left_55 : decode b_K_left 55 = .ok (.getfield 42, 3) := by decide +kernel
theorem d_K_left_58 : decode b_K_left 58 = .ok (.getfield 274, 3) := by decide +kernel
theorem d_K_left_61 : decode b_K_left 61 = .ok (.aload_n 0, 1) := by decide +kernel
theorem d_K_left_62 : decode b_K_left 62 = .ok (.getfield 42, 3) := by decide +kernel
theorem d_K_left_65 : decode b_K_left 65 = .ok (.getfield 271, 3) := by decide +kernel
theorem d_K_left_68 : decode b_K_left 68 = .ok (.invokevirtual 209, 3) := by decide +kernel
theorem d_K_left_71 : decode b_K_left 71 = .ok (.pop, 1) := by decide +kernel
theorem d_K_left_72 : decode b_K_left 72 = .ok (.iinc 2 1, 3) := by decide +kernel
theorem d_K_left_75 : decode b_K_left 75 = .ok (.aload_n 0, 1) := by decide +kernel
theorem d_K_left_76 : decode b_K_left 76 = .ok (.getfield 42, 3) := by decide +kernel
theorem d_K_left_79 : decode b_K_left 79 = .ok (.aload_n 0, 1) := by decide +kernel
theorem d_K_left_80 : decode b_K_left 80 = .ok (.getfield 25, 3) := by decide +kernel
theorem d_K_left_83 : decode b_K_left 83 = .ok (.iload_n 1, 1) := by decide +kernel
theorem d_K_left_84 : decode b_K_left 84 = .ok (.invokevirtual 261, 3) := by decide +kernel
theorem d_K_left_87 : decode b_K_left 87 = .ok (.goto (-53), 3) := by decide +kernel
theorem d_K_left_90 : decode b_K_left 90 = .ok (.aload_n 0, 1) := by decide +kernel
theorem d_K_left_91 : decode b_K_left 91 = .ok (.iload_n 2, 1) := by decide +kernel
theorem d_K_left_92 : decode b_K_left 92 = .ok (.putfield 68, 3) := by decide +kernel
theorem d_K_left_95 : decode b_K_left 95 = .ok (.aload_n 0, 1) := by decide +kernel
theorem d_K_left_96 : decode b_K_left 96 = .ok (.getfield 25, 3) := by decide +kernel
theorem d_K_left_99 : decode b_K_left 99 = .ok (.iload_n 1, 1) := by decide +kernel
theorem d_K_left_100 : decode b_K_left 100 = .ok (.invokevirtual 283, 3) := by decide +kernel
theorem d_K_left_103 : decode b_K_left 103 = .ok (.ireturn, 1) := by decide +kernel
theorem d_K_lots_0 : decode b_K_lots 0 = .ok (.iload_n 1, 1) := by decide +kernel
theorem d_K_lots_1 : decode b_K_lots 1 = .ok (.iconst 1, 1) := by decide +kernel
theorem d_K_lots_2 : decode b_K_lots 2 = .ok (.if_icmp .lt 23, 3) := by decide +kernel
theorem d_K_lots_5 : decode b_K_lots 5 = .ok (.iload_n 1, 1) := by decide +kernel
theorem d_K_lots_6 : decode b_K_lots 6 = .ok (.bipush 20, 2) := by decide +kernel
theorem d_K_lots_8 : decode b_K_lots 8 = .ok (.if_icmp .gt 17, 3) := by decide +kernel
theorem d_K_lots_11 : decode b_K_lots 11 = .ok (.iload_n 2, 1) := by decide +kernel
theorem d_K_lots_12 : decode b_K_lots 12 = .ok (.iconst 1, 1) := by decide +kernel
theorem d_K_lots_13 : decode b_K_lots 13 = .ok (.if_icmp .lt 12, 3) := by decide +kernel
theorem d_K_lots_16 : decode b_K_lots 16 = .ok (.iload_n 2, 1) := by decide +kernel
theorem d_K_lots_17 : decode b_K_lots 17 = .ok (.i2l, 1) := by decide +kernel
theorem d_K_lots_18 : decode b_K_lots 18 = .ok (.ldc2_w 335, 3) := by decide +kernel
theorem d_K_lots_21 : decode b_K_lots 21 = .ok (.lcmp, 1) := by decide +kernel
theorem d_K_lots_22 : decode b_K_lots 22 = .ok (.ifCond .lt 5, 3) := by decide +kernel
theorem d_K_lots_25 : decode b_K_lots 25 = .ok (.iconst (-1), 1) := by decide +kernel
theorem d_K_lots_26 : decode b_K_lots 26 = .ok (.ireturn, 1) := by decide +kernel
theorem d_K_lots_27 : decode b_K_lots 27 = .ok (.aload_n 0, 1) := by decide +kernel
theorem d_K_lots_28 : decode b_K_lots 28 = .ok (.getfield 21, 3) := by decide +kernel
theorem d_K_lots_31 : decode b_K_lots 31 = .ok (.getfield 135, 3) := by decide +kernel
theorem d_K_lots_34 : decode b_K_lots 34 = .ok (.istore_n 3, 1) := by decide +kernel
theorem d_K_lots_35 : decode b_K_lots 35 = .ok (.iload_n 3, 1) := by decide +kernel
theorem d_K_lots_36 : decode b_K_lots 36 = .ok (.iconst 2, 1) := by decide +kernel
theorem d_K_lots_37 : decode b_K_lots 37 = .ok (.if_icmp .ge 6, 3) := by decide +kernel
theorem d_K_lots_40 : decode b_K_lots 40 = .ok (.bipush (-4), 2) := by decide +kernel
theorem d_K_lots_42 : decode b_K_lots 42 = .ok (.ireturn, 1) := by decide +kernel
theorem d_K_lots_43 : decode b_K_lots 43 = .ok (.aload_n 0, 1) := by decide +kernel
theorem d_K_lots_44 : decode b_K_lots 44 = .ok (.getfield 31, 3) := by decide +kernel
theorem d_K_lots_47 : decode b_K_lots 47 = .ok (.iload_n 1, 1) := by decide +kernel
theorem d_K_lots_48 : decode b_K_lots 48 = .ok (.invokevirtual 189, 3) := by decide +kernel
theorem d_K_lots_51 : decode b_K_lots 51 = .ok (.ifCond .eq 6, 3) := by decide +kernel
theorem d_K_lots_54 : decode b_K_lots 54 = .ok (.bipush (-2), 2) := by decide +kernel
theorem d_K_lots_56 : decode b_K_lots 56 = .ok (.ireturn, 1) := by decide +kernel
theorem d_K_lots_57 : decode b_K_lots 57 = .ok (.iload_n 2, 1) := by decide +kernel
theorem d_K_lots_58 : decode b_K_lots 58 = .ok (.i2l, 1) := by decide +kernel
theorem d_K_lots_59 : decode b_K_lots 59 = .ok (.lstore 4, 2) := by decide +kernel
theorem d_K_lots_61 : decode b_K_lots 61 = .ok (.iconst 0, 1) := by decide +kernel
theorem d_K_lots_62 : decode b_K_lots 62 = .ok (.istore 6, 2) := by decide +kernel
theorem d_K_lots_64 : decode b_K_lots 64 = .ok (.iconst 0, 1) := by decide +kernel
theorem d_K_lots_65 : decode b_K_lots 65 = .ok (.istore 7, 2) := by decide +kernel
theorem d_K_lots_67 : decode b_K_lots 67 = .ok (.iload 7, 2) := by decide +kernel
theorem d_K_lots_69 : decode b_K_lots 69 = .ok (.iload_n 1, 1) := by decide +kernel
theorem d_K_lots_70 : decode b_K_lots 70 = .ok (.if_icmp .ge 91, 3) := by decide +kernel
theorem d_K_lots_73 : decode b_K_lots 73 = .ok (.ldc2_w 337, 3) := by decide +kernel
theorem d_K_lots_76 : decode b_K_lots 76 = .ok (.lload 4, 2) := by decide +kernel
theorem d_K_lots_78 : decode b_K_lots 78 = .ok (.lmul, 1) := by decide +kernel
theorem d_K_lots_79 : decode b_K_lots 79 = .ok (.ldc2_w 335, 3) := by decide +kernel
theorem d_K_lots_82 : decode b_K_lots 82 = .ok (.lrem, 1) := by decide +kernel
theorem d_K_lots_83 : decode b_K_lots 83 = .ok (.lstore 4, 2) := by decide +kernel
theorem d_K_lots_85 : decode b_K_lots 85 = .ok (.lload 4, 2) := by decide +kernel
theorem d_K_lots_87 : decode b_K_lots 87 = .ok (.iload_n 3, 1) := by decide +kernel
theorem d_K_lots_88 : decode b_K_lots 88 = .ok (.i2l, 1) := by decide +kernel
theorem d_K_lots_89 : decode b_K_lots 89 = .ok (.lrem, 1) := by decide +kernel
theorem d_K_lots_90 : decode b_K_lots 90 = .ok (.l2i, 1) := by decide +kernel
theorem d_K_lots_91 : decode b_K_lots 91 = .ok (.istore 8, 2) := by decide +kernel
theorem d_K_lots_93 : decode b_K_lots 93 = .ok (.iload 8, 2) := by decide +kernel
theorem d_K_lots_95 : decode b_K_lots 95 = .ok (.iconst 1, 1) := by decide +kernel
theorem d_K_lots_96 : decode b_K_lots 96 = .ok (.iadd, 1) := by decide +kernel
theorem d_K_lots_97 : decode b_K_lots 97 = .ok (.i2l, 1) := by decide +kernel
theorem d_K_lots_98 : decode b_K_lots 98 = .ok (.lload 4, 2) := by decide +kernel
theorem d_K_lots_100 : decode b_K_lots 100 = .ok (.ldc2_w 339, 3) := by decide +kernel
theorem d_K_lots_103 : decode b_K_lots 103 = .ok (.ldiv, 1) := by decide +kernel
theorem d_K_lots_104 : decode b_K_lots 104 = .ok (.iload_n 3, 1) := by decide +kernel
theorem d_K_lots_105 : decode b_K_lots 105 = .ok (.iconst 1, 1) := by decide +kernel
theorem d_K_lots_106 : decode b_K_lots 106 = .ok (.isub, 1) := by decide +kernel
theorem d_K_lots_107 : decode b_K_lots 107 = .ok (.i2l, 1) := by decide +kernel
theorem d_K_lots_108 : decode b_K_lots 108 = .ok (.lrem, 1) := by decide +kernel
theorem d_K_lots_109 : decode b_K_lots 109 = .ok (.ladd, 1) := by decide +kernel
theorem d_K_lots_110 : decode b_K_lots 110 = .ok (.iload_n 3, 1) := by decide +kernel
theorem d_K_lots_111 : decode b_K_lots 111 = .ok (.i2l, 1) := by decide +kernel
theorem d_K_lots_112 : decode b_K_lots 112 = .ok (.lrem, 1) := by decide +kernel
theorem d_K_lots_113 : decode b_K_lots 113 = .ok (.l2i, 1) := by decide +kernel
theorem d_K_lots_114 : decode b_K_lots 114 = .ok (.istore 9, 2) := by decide +kernel
theorem d_K_lots_116 : decode b_K_lots 116 = .ok (.aload_n 0, 1) := by decide +kernel
theorem d_K_lots_117 : decode b_K_lots 117 = .ok (.getfield 31, 3) := by decide +kernel
theorem d_K_lots_120 : decode b_K_lots 120 = .ok (.aload_n 0, 1) := by decide +kernel
theorem d_K_lots_121 : decode b_K_lots 121 = .ok (.getfield 21, 3) := by decide +kernel
theorem d_K_lots_124 : decode b_K_lots 124 = .ok (.invokevirtual 192, 3) := by decide +kernel
theorem d_K_lots_127 : decode b_K_lots 127 = .ok (.aload_n 0, 1) := by decide +kernel
theorem d_K_lots_128 : decode b_K_lots 128 = .ok (.getfield 21, 3) := by decide +kernel
theorem d_K_lots_131 : decode b_K_lots 131 = .ok (.iload 8, 2) := by decide +kernel
theorem d_K_lots_133 : decode b_K_lots 133 = .ok (.iload 9, 2) := by decide +kernel
theorem d_K_lots_135 : decode b_K_lots 135 = .ok (.invokevirtual 199, 3) := by decide +kernel
theorem d_K_lots_138 : decode b_K_lots 138 = .ok (.pop, 1) := by decide +kernel
theorem d_K_lots_139 : decode b_K_lots 139 = .ok (.iload 6, 2) := by decide +kernel
theorem d_K_lots_141 : decode b_K_lots 141 = .ok (.aload_n 0, 1) := by decide +kernel
theorem d_K_lots_142 : decode b_K_lots 142 = .ok (.getfield 21, 3) := by decide +kernel
theorem d_K_lots_145 : decode b_K_lots 145 = .ok (.iload 8, 2) := by decide +kernel
theorem d_K_lots_147 : decode b_K_lots 147 = .ok (.iload 9, 2) := by decide +kernel
theorem d_K_lots_149 : decode b_K_lots 149 = .ok (.invokevirtual 202, 3) := by decide +kernel
theorem d_K_lots_152 : decode b_K_lots 152 = .ok (.iadd, 1) := by decide +kernel
theorem d_K_lots_153 : decode b_K_lots 153 = .ok (.istore 6, 2) := by decide +kernel
theorem d_K_lots_155 : decode b_K_lots 155 = .ok (.iinc 7 1, 3) := by decide +kernel
theorem d_K_lots_158 : decode b_K_lots 158 = .ok (.goto (-91), 3) := by decide +kernel
theorem d_K_lots_161 : decode b_K_lots 161 = .ok (.iload 6, 2) := by decide +kernel
theorem d_K_lots_163 : decode b_K_lots 163 = .ok (.ireturn, 1) := by decide +kernel
theorem d_K_lower_0 : decode b_K_lower 0 = .ok (.aload_n 0, 1) := by decide +kernel
theorem d_K_lower_1 : decode b_K_lower 1 = .ok (.getfield 75, 3) := by decide +kernel
theorem d_K_lower_4 : decode b_K_lower 4 = .ok (.lreturn, 1) := by decide +kernel
theorem d_K_mark_0 : decode b_K_mark 0 = .ok (.aload_n 0, 1) := by decide +kernel
theorem d_K_mark_1 : decode b_K_mark 1 = .ok (.getfield 21, 3) := by decide +kernel
theorem d_K_mark_4 : decode b_K_mark 4 = .ok (.iload_n 1, 1) := by decide +kernel
theorem d_K_mark_5 : decode b_K_mark 5 = .ok (.invokevirtual 138, 3) := by decide +kernel
theorem d_K_mark_8 : decode b_K_mark 8 = .ok (.ifCond .eq 13, 3) := by decide +kernel
theorem d_K_mark_11 : decode b_K_mark 11 = .ok (.iload_n 2, 1) := by decide +kernel
theorem d_K_mark_12 : decode b_K_mark 12 = .ok (.ifCond .le 9, 3) := by decide +kernel
theorem d_K_mark_15 : decode b_K_mark 15 = .ok (.iload_n 2, 1) := by decide +kernel
theorem d_K_mark_16 : decode b_K_mark 16 = .ok (.bipush 6, 2) := by decide +kernel
theorem d_K_mark_18 : decode b_K_mark 18 = .ok (.if_icmp .lt 5, 3) := by decide +kernel
theorem d_K_mark_21 : decode b_K_mark 21 = .ok (.iconst (-1), 1) := by decide +kernel
theorem d_K_mark_22 : decode b_K_mark 22 = .ok (.ireturn, 1) := by decide +kernel
theorem d_K_mark_23 : decode b_K_mark 23 = .ok (.aload_n 0, 1) := by decide +kernel
theorem d_K_mark_24 : decode b_K_mark 24 = .ok (.getfield 21, 3) := by decide +kernel
theorem d_K_mark_27 : decode b_K_mark 27 = .ok (.iload_n 1, 1) := by decide +kernel
theorem d_K_mark_28 : decode b_K_mark 28 = .ok (.iload_n 2, 1) := by decide +kernel
theorem d_K_mark_29 : decode b_K_mark 29 = .ok (.invokevirtual 151, 3) := by decide +kernel
theorem d_K_mark_32 : decode b_K_mark 32 = .ok (.ifCond .ne 9, 3) := by decide +kernel
theorem d_K_mark_35 : decode b_K_mark 35 = .ok (.aload_n 0, 1) := by decide +kernel
theorem d_K_mark_36 : decode b_K_mark 36 = .ok (.iconst 3, 1) := by decide +kernel
theorem d_K_mark_37 : decode b_K_mark 37 = .ok (.invokevirtual 88, 3) := by decide +kernel
theorem d_K_mark_40 : decode b_K_mark 40 = .ok (.ireturn, 1) := by decide +kernel
theorem d_K_mark_41 : decode b_K_mark 41 = .ok (.iload_n 2, 1) := by decide +kernel
theorem d_K_mark_42 : decode b_K_mark 42 = .ok (.tableswitch 98 1 4 #[30, 48, 57, 89], 30) := by decide +kernel
theorem d_K_mark_72 : decode b_K_mark 72 = .ok (.aload_n 0, 1) := by decide +kernel
theorem d_K_mark_73 : decode b_K_mark 73 = .ok (.getfield 21, 3) := by decide +kernel
theorem d_K_mark_76 : decode b_K_mark 76 = .ok (.iload_n 1, 1) := by decide +kernel
theorem d_K_mark_77 : decode b_K_mark 77 = .ok (.invokevirtual 154, 3) := by decide +kernel
theorem d_K_mark_80 : decode b_K_mark 80 = .ok (.aload_n 0, 1) := by decide +kernel
theorem d_K_mark_81 : decode b_K_mark 81 = .ok (.getfield 21, 3) := by decide +kernel
theorem d_K_mark_84 : decode b_K_mark 84 = .ok (.iload_n 1, 1) := by decide +kernel
theorem d_K_mark_85 : decode b_K_mark 85 = .ok (.invokevirtual 157, 3) := by decide +kernel
theorem d_K_mark_88 : decode b_K_mark 88 = .ok (.imul, 1) := by decide +kernel
theorem d_K_mark_89 : decode b_K_mark 89 = .ok (.ireturn, 1) := by decide +kernel
theorem d_K_mark_90 : decode b_K_mark 90 = .ok (.aload_n 0, 1) := by decide +kernel
theorem d_K_mark_91 : decode b_K_mark 91 = .ok (.getfield 21, 3) := by decide +kernel
theorem d_K_mark_94 : decode b_K_mark 94 = .ok (.iload_n 1, 1) := by decide +kernel
theorem d_K_mark_95 : decode b_K_mark 95 = .ok (.invokevirtual 160, 3) := by decide +kernel
theorem d_K_mark_98 : decode b_K_mark 98 = .ok (.ireturn, 1) := by decide +kernel
theorem d_K_mark_99 : decode b_K_mark 99 = .ok (.iconst 0, 1) := by decide +kernel
theorem d_K_mark_100 : decode b_K_mark 100 = .ok (.aload_n 0, 1) := by decide +kernel
theorem d_K_mark_101 : decode b_K_mark 101 = .ok (.getfield 21, 3) := by decide +kernel
theorem d_K_mark_104 : decode b_K_mark 104 = .ok (.iload_n 1, 1) := by decide +kernel
theorem d_K_mark_105 : decode b_K_mark 105 = .ok (.iconst 0, 1) := by decide +kernel
theorem d_K_mark_106 : decode b_K_mark 106 = .ok (.invokevirtual 163, 3) := by decide +kernel
theorem d_K_mark_109 : decode b_K_mark 109 = .ok (.aload_n 0, 1) := by decide +kernel
theorem d_K_mark_110 : decode b_K_mark 110 = .ok (.getfield 21, 3) := by decide +kernel
theorem d_K_mark_113 : decode b_K_mark 113 = .ok (.iload_n 1, 1) := by decide +kernel
theorem d_K_mark_114 : decode b_K_mark 114 = .ok (.invokevirtual 166, 3) := by decide +kernel
theorem d_K_mark_117 : decode b_K_mark 117 = .ok (.iadd, 1) := by decide +kernel
theorem d_K_mark_118 : decode b_K_mark 118 = .ok (.aload_n 0, 1) := by decide +kernel
theorem d_K_mark_119 : decode b_K_mark 119 = .ok (.getfield 21, 3) := by decide +kernel
theorem d_K_mark_122 : decode b_K_mark 122 = .ok (.iload_n 1, 1) := by decide +kernel
theorem d_K_mark_123 : decode b_K_mark 123 = .ok (.invokevirtual 169, 3) := by decide +kernel
theorem d_K_mark_126 : decode b_K_mark 126 = .ok (.isub, 1) := by decide +kernel
theorem d_K_mark_127 : decode b_K_mark 127 = .ok (.invokestatic 172, 3) := by decide +kernel
theorem d_K_mark_130 : decode b_K_mark 130 = .ok (.ireturn, 1) := by decide +kernel
theorem d_K_mark_131 : decode b_K_mark 131 = .ok (.aload_n 0, 1) := by decide +kernel
theorem d_K_mark_132 : decode b_K_mark 132 = .ok (.getfield 21, 3) := by decide +kernel
theorem d_K_mark_135 : decode b_K_mark 135 = .ok (.iload_n 1, 1) := by decide +kernel
theorem d_K_mark_136 : decode b_K_mark 136 = .ok (.invokevirtual 177, 3) := by decide +kernel
theorem d_K_mark_139 : decode b_K_mark 139 = .ok (.ireturn, 1) := by decide +kernel
theorem d_K_mark_140 : decode b_K_mark 140 = .ok (.aload_n 0, 1) := by decide +kernel
theorem d_K_mark_141 : decode b_K_mark 141 = .ok (.iload_n 1, 1) := by decide +kernel
theorem d_K_mark_142 : decode b_K_mark 142 = .ok (.invokevirtual 180, 3) := by decide +kernel
theorem d_K_mark_145 : decode b_K_mark 145 = .ok (.ireturn, 1) := by decide +kernel
theorem d_K_mean_0 : decode b_K_mean 0 = .ok (.iload_n 1, 1) := by decide +kernel
theorem d_K_mean_1 : decode b_K_mean 1 = .ok (.invokestatic 84, 3) := by decide +kernel
theorem d_K_mean_4 : decode b_K_mean 4 = .ok (.ifCond .ne 5, 3) := by decide +kernel
theorem d_K_mean_7 : decode b_K_mean 7 = .ok (.iconst (-1), 1) := by decide +kernel
theorem d_K_mean_8 : decode b_K_mean 8 = .ok (.ireturn, 1) := by decide +kernel
theorem d_K_mean_9 : decode b_K_mean 9 = .ok (.aload_n 0, 1) := by decide +kernel
theorem d_K_mean_10 : decode b_K_mean 10 = .ok (.getfield 11, 3) := by decide +kernel
theorem d_K_mean_13 : decode b_K_mean 13 = .ok (.iload_n 1, 1) := by decide +kernel
theorem d_K_mean_14 : decode b_K_mean 14 = .ok (.aaload, 1) := by decide +kernel
theorem d_K_mean_15 : decode b_K_mean 15 = .ok (.astore_n 2, 1) := by decide +kernel
theorem d_K_mean_16 : decode b_K_mean 16 = .ok (.aload_n 2, 1) := by decide +kernel
theorem d_K_mean_17 : decode b_K_mean 17 = .ok (.invokevirtual 105, 3) := by decide +kernel
theorem d_K_mean_20 : decode b_K_mean 20 = .ok (.ifCond .eq 9, 3) := by decide +kernel
theorem d_K_mean_23 : decode b_K_mean 23 = .ok (.aload_n 0, 1) := by decide +kernel
theorem d_K_mean_24 : decode b_K_mean 24 = .ok (.iconst 1, 1) := by decide +kernel
theorem d_K_mean_25 : decode b_K_mean 25 = .ok (.invokevirtual 88, 3) := by decide +kernel
theorem d_K_mean_28 : decode b_K_mean 28 = .ok (.ireturn, 1) := by decide +kernel
theorem d_K_mean_29 : decode b_K_mean 29 = .ok (.aload_n 2, 1) := by decide +kernel
theorem d_K_mean_30 : decode b_K_mean 30 = .ok (.getfield 109, 3) := by decide +kernel
theorem d_K_mean_33 : decode b_K_mean 33 = .ok (.ifCond .ne 9, 3) := by decide +kernel
theorem d_K_mean_36 : decode b_K_mean 36 = .ok (.aload_n 0, 1) := by decide +kernel
theorem d_K_mean_37 : decode b_K_mean 37 = .ok (.iconst 4, 1) := by decide +kernel
theorem d_K_mean_38 : decode b_K_mean 38 = .ok (.invokevirtual 88, 3) := by decide +kernel
theorem d_K_mean_41 : decode b_K_mean 41 = .ok (.ireturn, 1) := by decide +kernel
theorem d_K_mean_42 : decode b_K_mean 42 = .ok (.lconst 0, 1) := by decide +kernel
theorem d_K_mean_43 : decode b_K_mean 43 = .ok (.lstore_n 3, 1) := by decide +kernel
theorem d_K_mean_44 : decode b_K_mean 44 = .ok (.iconst 0, 1) := by decide +kernel
theorem d_K_mean_45 : decode b_K_mean 45 = .ok (.istore 5, 2) := by decide +kernel
theorem d_K_mean_47 : decode b_K_mean 47 = .ok (.iload 5, 2) := by decide +kernel
theorem d_K_mean_49 : decode b_K_mean 49 = .ok (.aload_n 2, 1) := by decide +kernel
theorem d_K_mean_50 : decode b_K_mean 50 = .ok (.getfield 109, 3) := by decide +kernel
theorem d_K_mean_53 : decode b_K_mean 53 = .ok (.if_icmp .ge 20, 3) := by decide +kernel
theorem d_K_mean_56 : decode b_K_mean 56 = .ok (.lload_n 3, 1) := by decide +kernel
theorem d_K_mean_57 : decode b_K_mean 57 = .ok (.aload_n 2, 1) := by decide +kernel
theorem d_K_mean_58 : decode b_K_mean 58 = .ok (.getfield 99, 3) := by decide +kernel
theorem d_K_mean_61 : decode b_K_mean 61 = .ok (.iload 5, 2) := by decide +kernel
theorem d_K_mean_63 : decode b_K_mean 63 = .ok (.iaload, 1) := by decide +kernel
theorem d_K_mean_64 : decode b_K_mean 64 = .ok (.i2l, 1) := by decide +kernel
theorem d_K_mean_65 : decode b_K_mean 65 = .ok (.ladd, 1) := by decide +kernel
theorem d_K_mean_66 : decode b_K_mean 66 = .ok (.lstore_n 3, 1) := by decide +kernel
theorem d_K_mean_67 : decode b_K_mean 67 = .ok (.iinc 5 1, 3) := by decide +kernel
theorem d_K_mean_70 : decode b_K_mean 70 = .ok (.goto (-23), 3) := by decide +kernel
theorem d_K_mean_73 : decode b_K_mean 73 = .ok (.aload_n 0, 1) := by decide +kernel
theorem d_K_mean_74 : decode b_K_mean 74 = .ok (.lload_n 3, 1) := by decide +kernel
theorem d_K_mean_75 : decode b_K_mean 75 = .ok (.aload_n 2, 1) := by decide +kernel
theorem d_K_mean_76 : decode b_K_mean 76 = .ok (.getfield 109, 3) := by decide +kernel
theorem d_K_mean_79 : decode b_K_mean 79 = .ok (.i2l, 1) := by decide +kernel
theorem d_K_mean_80 : decode b_K_mean 80 = .ok (.ldiv, 1) := by decide +kernel
theorem d_K_mean_81 : decode b_K_mean 81 = .ok (.l2i, 1) := by decide +kernel
theorem d_K_mean_82 : decode b_K_mean 82 = .ok (.invokevirtual 102, 3) := by decide +kernel
theorem d_K_mean_85 : decode b_K_mean 85 = .ok (.ireturn, 1) := by decide +kernel
theorem d_K_meet_0 : decode b_K_meet 0 = .ok (.aload_n 0, 1) := by decide +kernel
theorem d_K_meet_1 : decode b_K_meet 1 = .ok (.getfield 21, 3) := by decide +kernel
theorem d_K_meet_4 : decode b_K_meet 4 = .ok (.iload_n 1, 1) := by decide +kernel
theorem d_K_meet_5 : decode b_K_meet 5 = .ok (.iload_n 2, 1) := by decide +kernel
theorem d_K_meet_6 : decode b_K_meet 6 = .ok (.invokevirtual 183, 3) := by decide +kernel
theorem d_K_meet_9 : decode b_K_meet 9 = .ok (.ifCond .ne 5, 3) := by decide +kernel
theorem d_K_meet_12 : decode b_K_meet 12 = .ok (.iconst (-1), 1) := by decide +kernel
theorem d_K_meet_13 : decode b_K_meet 13 = .ok (.ireturn, 1) := by decide +kernel
theorem d_K_meet_14 : decode b_K_meet 14 = .ok (.aload_n 0, 1) := by decide +kernel
theorem d_K_meet_15 : decode b_K_meet 15 = .ok (.getfield 31, 3) := by decide +kernel
theorem d_K_meet_18 : decode b_K_meet 18 = .ok (.iconst 1, 1) := by decide +kernel
theorem d_K_meet_19 : decode b_K_meet 19 = .ok (.invokevirtual 189, 3) := by decide +kernel
theorem d_K_meet_22 : decode b_K_meet 22 = .ok (.ifCond .eq 6, 3) := by decide +kernel
theorem d_K_meet_25 : decode b_K_meet 25 = .ok (.bipush (-2), 2) := by decide +kernel
theorem d_K_meet_27 : decode b_K_meet 27 = .ok (.ireturn, 1) := by decide +kernel
theorem d_K_meet_28 : decode b_K_meet 28 = .ok (.aload_n 0, 1) := by decide +kernel
theorem d_K_meet_29 : decode b_K_meet 29 = .ok (.getfield 31, 3) := by decide +kernel
theorem d_K_meet_32 : decode b_K_meet 32 = .ok (.aload_n 0, 1) := by decide +kernel
theorem d_K_meet_33 : decode b_K_meet 33 = .ok (.getfield 21, 3) := by decide +kernel
theorem d_K_meet_36 : decode b_K_meet 36 = .ok (.invokevirtual 192, 3) := by decide +kernel
theorem d_K_meet_39 : decode b_K_meet 39 = .ok (.aload_n 0, 1) := by decide +kernel
theorem d_K_meet_40 : decode b_K_meet 40 = .ok (.aload_n 0, 1) := by decide +kernel
theorem d_K_meet_41 : decode b_K_meet 41 = .ok (.getfield 21, 3) := by decide +kernel
theorem d_K_meet_44 : decode b_K_meet 44 = .ok (.iload_n 1, 1) := by decide +kernel
theorem d_K_meet_45 : decode b_K_meet 45 = .ok (.iload_n 2, 1) := by decide +kernel
theorem d_K_meet_46 : decode b_K_meet 46 = .ok (.invokevirtual 199, 3) := by decide +kernel
theorem d_K_meet_49 : decode b_K_meet 49 = .ok (.putfield 68, 3) := by decide +kernel
theorem d_K_meet_52 : decode b_K_meet 52 = .ok (.aload_n 0, 1) := by decide +kernel
theorem d_K_meet_53 : decode b_K_meet 53 = .ok (.getfield 21, 3) := by decide +kernel
theorem d_K_meet_56 : decode b_K_meet 56 = .ok (.iload_n 1, 1) := by decide +kernel
theorem d_K_meet_57 : decode b_K_meet 57 = .ok (.iload_n 2, 1) := by decide +kernel
theorem d_K_meet_58 : decode b_K_meet 58 = .ok (.invokevirtual 202, 3) := by decide +kernel
theorem d_K_meet_61 : decode b_K_meet 61 = .ok (.ireturn, 1) := by decide +kernel
theorem d_K_mistletoe_0 : decode b_K_mistletoe 0 = .ok (.aload_n 0, 1) := by decide +kernel
theorem d_K_mistletoe_1 : decode b_K_mistletoe 1 = .ok (.getfield 21, 3) := by decide +kernel
theorem d_K_mistletoe_4 : decode b_K_mistletoe 4 = .ok (.invokevirtual 231, 3) := by decide +kernel
theorem d_K_mistletoe_7 : decode b_K_mistletoe 7 = .ok (.ifCond .eq 6, 3) := by decide +kernel
theorem d_K_mistletoe_10 : decode b_K_mistletoe 10 = .ok (.bipush (-4), 2) := by decide +kernel
theorem d_K_mistletoe_12 : decode b_K_mistletoe 12 = .ok (.ireturn, 1) := by decide +kernel
theorem d_K_mistletoe_13 : decode b_K_mistletoe 13 = .ok (.iconst 0, 1) := by decide +kernel
theorem d_K_mistletoe_14 : decode b_K_mistletoe 14 = .ok (.istore_n 1, 1) := by decide +kernel
theorem d_K_mistletoe_15 : decode b_K_mistletoe 15 = .ok (.iconst (-1), 1) := by decide +kernel
theorem d_K_mistletoe_16 : decode b_K_mistletoe 16 = .ok (.istore_n 2, 1) := by decide +kernel
theorem d_K_mistletoe_17 : decode b_K_mistletoe 17 = .ok (.iconst 0, 1) := by decide +kernel
theorem d_K_mistletoe_18 : decode b_K_mistletoe 18 = .ok (.istore_n 3, 1) := by decide +kernel
theorem d_K_mistletoe_19 : decode b_K_mistletoe 19 = .ok (.iload_n 3, 1) := by decide +kernel
theorem d_K_mistletoe_20 : decode b_K_mistletoe 20 = .ok (.aload_n 0, 1) := by decide +kernel
theorem d_K_mistletoe_21 : decode b_K_mistletoe 21 = .ok (.getfield 21, 3) := by decide +kernel
theorem d_K_mistletoe_24 : decode b_K_mistletoe 24 = .ok (.getfield 135, 3) := by decide +kernel
theorem d_K_mistletoe_27 : decode b_K_mistletoe 27 = .ok (.if_icmp .ge 30, 3) := by decide +kernel
theorem d_K_mistletoe_30 : decode b_K_mistletoe 30 = .ok (.aload_n 0, 1) := by decide +kernel
theorem d_K_mistletoe_31 : decode b_K_mistletoe 31 = .ok (.getfield 21, 3) := by decide +kernel
theorem d_K_mistletoe_34 : decode b_K_mistletoe 34 = .ok (.iload_n 3, 1) := by decide +kernel
theorem d_K_mistletoe_35 : decode b_K_mistletoe 35 = .ok (.invokevirtual 307, 3) := by decide +kernel
theorem d_K_mistletoe_38 : decode b_K_mistletoe 38 = .ok (.istore 4, 2) := by decide +kernel
theorem d_K_mistletoe_40 : decode b_K_mistletoe 40 = .ok (.iload 4, 2) := by decide +kernel
theorem d_K_mistletoe_42 : decode b_K_mistletoe 42 = .ok (.iload_n 2, 1) := by decide +kernel
theorem d_K_mistletoe_43 : decode b_K_mistletoe 43 = .ok (.if_icmp .le 8, 3) := by decide +kernel
theorem d_K_mistletoe_46 : decode b_K_mistletoe 46 = .ok (.iload 4, 2) := by decide +kernel
theorem d_K_mistletoe_48 : decode b_K_mistletoe 48 = .ok (.istore_n 2, 1) := by decide +kernel
theorem d_K_mistletoe_49 : decode b_K_mistletoe 49 = .ok (.iload_n 3, 1) := by decide +kernel
theorem d_K_mistletoe_50 : decode b_K_mistletoe 50 = .ok (.istore_n 1, 1) := by decide +kernel
theorem d_K_mistletoe_51 : decode b_K_mistletoe 51 = .ok (.iinc 3 1, 3) := by decide +kernel
theorem d_K_mistletoe_54 : decode b_K_mistletoe 54 = .ok (.goto (-35), 3) := by decide +kernel
theorem d_K_mistletoe_57 : decode b_K_mistletoe 57 = .ok (.aload_n 0, 1) := by decide +kernel
theorem d_K_mistletoe_58 : decode b_K_mistletoe 58 = .ok (.iload_n 2, 1) := by decide +kernel
theorem d_K_mistletoe_59 : decode b_K_mistletoe 59 = .ok (.putfield 68, 3) := by decide +kernel
theorem d_K_mistletoe_62 : decode b_K_mistletoe 62 = .ok (.iload_n 1, 1) := by decide +kernel
theorem d_K_mistletoe_63 : decode b_K_mistletoe 63 = .ok (.ireturn, 1) := by decide +kernel
theorem d_K_net_0 : decode b_K_net 0 = .ok (.iload_n 1, 1) := by decide +kernel
theorem d_K_net_1 : decode b_K_net 1 = .ok (.invokestatic 251, 3) := by decide +kernel
theorem d_K_net_4 : decode b_K_net 4 = .ok (.ifCond .ne 5, 3) := by decide +kernel
theorem d_K_net_7 : decode b_K_net 7 = .ok (.iconst (-1), 1) := by decide +kernel
theorem d_K_net_8 : decode b_K_net 8 = .ok (.ireturn, 1) := by decide +kernel
theorem d_K_net_9 : decode b_K_net 9 = .ok (.iconst 0, 1) := by decide +kernel
theorem d_K_net_10 : decode b_K_net 10 = .ok (.istore_n 2, 1) := by decide +kernel
theorem d_K_net_11 : decode b_K_net 11 = .ok (.iconst 0, 1) := by decide +kernel
theorem d_K_net_12 : decode b_K_net 12 = .ok (.istore_n 3, 1) := by decide +kernel
theorem d_K_net_13 : decode b_K_net 13 = .ok (.iload_n 3, 1) := by decide +kernel
theorem d_K_net_14 : decode b_K_net 14 = .ok (.aload_n 0, 1) := by decide +kernel
theorem d_K_net_15 : decode b_K_net 15 = .ok (.getfield 21, 3) := by decide +kernel
theorem d_K_net_18 : decode b_K_net 18 = .ok (.getfield 135, 3) := by decide +kernel
theorem d_K_net_21 : decode b_K_net 21 = .ok (.if_icmp .ge 25, 3) := by decide +kernel
theorem d_K_net_24 : decode b_K_net 24 = .ok (.iload_n 2, 1) := by decide +kernel
theorem d_K_net_25 : decode b_K_net 25 = .ok (.iconst 0, 1) := by decide +kernel
theorem d_K_net_26 : decode b_K_net 26 = .ok (.aload_n 0, 1) := by decide +kernel
theorem d_K_net_27 : decode b_K_net 27 = .ok (.getfield 21, 3) := by decide +kernel
theorem d_K_net_30 : decode b_K_net 30 = .ok (.iload_n 3, 1) := by decide +kernel
theorem d_K_net_31 : decode b_K_net 31 = .ok (.iload_n 1, 1) := by decide +kernel
theorem d_K_net_32 : decode b_K_net 32 = .ok (.invokevirtual 280, 3) := by decide +kernel
theorem d_K_net_35 : decode b_K_net 35 = .ok (.invokestatic 172, 3) := by decide +kernel
theorem d_K_net_38 : decode b_K_net 38 = .ok (.iadd, 1) := by decide +kernel
theorem d_K_net_39 : decode b_K_net 39 = .ok (.istore_n 2, 1) := by decide +kernel
theorem d_K_net_40 : decode b_K_net 40 = .ok (.iinc 3 1, 3) := by decide +kernel
theorem d_K_net_43 : decode b_K_net 43 = .ok (.goto (-30), 3) := by decide +kernel
theorem d_K_net_46 : decode b_K_net 46 = .ok (.iload_n 2, 1) := by decide +kernel
theorem d_K_net_47 : decode b_K_net 47 = .ok (.ireturn, 1) := by decide +kernel
theorem d_K_odds_0 : decode b_K_odds 0 = .ok (.aload_n 0, 1) := by decide +kernel
theorem d_K_odds_1 : decode b_K_odds 1 = .ok (.getfield 21, 3) := by decide +kernel
theorem d_K_odds_4 : decode b_K_odds 4 = .ok (.invokevirtual 231, 3) := by decide +kernel
theorem d_K_odds_7 : decode b_K_odds 7 = .ok (.ifCond .eq 6, 3) := by decide +kernel
theorem d_K_odds_10 : decode b_K_odds 10 = .ok (.bipush (-4), 2) := by decide +kernel
theorem d_K_odds_12 : decode b_K_odds 12 = .ok (.ireturn, 1) := by decide +kernel
theorem d_K_odds_13 : decode b_K_odds 13 = .ok (.iconst 0, 1) := by decide +kernel
theorem d_K_odds_14 : decode b_K_odds 14 = .ok (.istore_n 1, 1) := by decide +kernel
theorem d_K_odds_15 : decode b_K_odds 15 = .ok (.iconst 0, 1) := by decide +kernel
theorem d_K_odds_16 : decode b_K_odds 16 = .ok (.istore_n 2, 1) := by decide +kernel
theorem d_K_odds_17 : decode b_K_odds 17 = .ok (.iload_n 2, 1) := by decide +kernel
theorem d_K_odds_18 : decode b_K_odds 18 = .ok (.aload_n 0, 1) := by decide +kernel
theorem d_K_odds_19 : decode b_K_odds 19 = .ok (.getfield 21, 3) := by decide +kernel
theorem d_K_odds_22 : decode b_K_odds 22 = .ok (.getfield 135, 3) := by decide +kernel
theorem d_K_odds_25 : decode b_K_odds 25 = .ok (.if_icmp .ge 24, 3) := by decide +kernel
theorem d_K_odds_28 : decode b_K_odds 28 = .ok (.aload_n 0, 1) := by decide +kernel
theorem d_K_odds_29 : decode b_K_odds 29 = .ok (.getfield 21, 3) := by decide +kernel
theorem d_K_odds_32 : decode b_K_odds 32 = .ok (.iload_n 2, 1) := by decide +kernel
theorem d_K_odds_33 : decode b_K_odds 33 = .ok (.iconst (-1), 1) := by decide +kernel
theorem d_K_odds_34 : decode b_K_odds 34 = .ok (.invokevirtual 286, 3) := by decide +kernel
theorem d_K_odds_37 : decode b_K_odds 37 = .ok (.ifCond .ne 6, 3) := by decide +kernel
theorem d_K_odds_40 : decode b_K_odds 40 = .ok (.iinc 1 1, 3) := by decide +kernel
theorem d_K_odds_43 : decode b_K_odds 43 = .ok (.iinc 2 1, 3) := by decide +kernel
theorem d_K_odds_46 : decode b_K_odds 46 = .ok (.goto (-29), 3) := by decide +kernel
theorem d_K_odds_49 : decode b_K_odds 49 = .ok (.aload_n 0, 1) := by decide +kernel
theorem d_K_odds_50 : decode b_K_odds 50 = .ok (.getfield 21, 3) := by decide +kernel
theorem d_K_odds_53 : decode b_K_odds 53 = .ok (.getfield 135, 3) := by decide +kernel
theorem d_K_odds_56 : decode b_K_odds 56 = .ok (.iload_n 1, 1) := by decide +kernel
theorem d_K_odds_57 : decode b_K_odds 57 = .ok (.invokestatic 332, 3) := by decide +kernel
theorem d_K_odds_60 : decode b_K_odds 60 = .ok (.istore_n 2, 1) := by decide +kernel
theorem d_K_odds_61 : decode b_K_odds 61 = .ok (.iload_n 2, 1) := by decide +kernel
theorem d_K_odds_62 : decode b_K_odds 62 = .ok (.ifCond .le 25, 3) := by decide +kernel
theorem d_K_odds_65 : decode b_K_odds 65 = .ok (.aload_n 0, 1) := by decide +kernel
theorem d_K_odds_66 : decode b_K_odds 66 = .ok (.iload_n 1, 1) := by decide +kernel
theorem d_K_odds_67 : decode b_K_odds 67 = .ok (.iload_n 2, 1) := by decide +kernel
theorem d_K_odds_68 : decode b_K_odds 68 = .ok (.idiv, 1) := by decide +kernel
theorem d_K_odds_69 : decode b_K_odds 69 = .ok (.i2l, 1) := by decide +kernel
theorem d_K_odds_70 : decode b_K_odds 70 = .ok (.putfield 71, 3) := by decide +kernel
theorem d_K_odds_73 : decode b_K_odds 73 = .ok (.aload_n 0, 1) := by decide +kernel
theorem d_K_odds_74 : decode b_K_odds 74 = .ok (.aload_n 0, 1) := by decide +kernel
theorem d_K_odds_75 : decode b_K_odds 75 = .ok (.getfield 21, 3) := by decide +kernel
theorem d_K_odds_78 : decode b_K_odds 78 = .ok (.getfield 135, 3) := by decide +kernel
theorem d_K_odds_81 : decode b_K_odds 81 = .ok (.iload_n 2, 1) := by decide +kernel
theorem d_K_odds_82 : decode b_K_odds 82 = .ok (.idiv, 1) := by decide +kernel
theorem d_K_odds_83 : decode b_K_odds 83 = .ok (.i2l, 1) := by decide +kernel
theorem d_K_odds_84 : decode b_K_odds 84 = .ok (.putfield 75, 3) := by decide +kernel
theorem d_K_odds_87 : decode b_K_odds 87 = .ok (.iconst 1, 1) := by decide +kernel
theorem d_K_odds_88 : decode b_K_odds 88 = .ok (.ireturn, 1) := by decide +kernel
theorem d_K_ofDraft_0 : decode b_K_ofDraft 0 = .ok (.aload_n 0, 1) := by decide +kernel
theorem d_K_ofDraft_1 : decode b_K_ofDraft 1 = .ok (.getfield 21, 3) := by decide +kernel
theorem d_K_ofDraft_4 : decode b_K_ofDraft 4 = .ok (.getfield 213, 3) := by decide +kernel
theorem d_K_ofDraft_7 : decode b_K_ofDraft 7 = .ok (.iload_n 1, 1) := by decide +kernel
theorem d_K_ofDraft_8 : decode b_K_ofDraft 8 = .ok (.aaload, 1) := by decide +kernel
theorem d_K_ofDraft_9 : decode b_K_ofDraft 9 = .ok (.astore_n 3, 1) := by decide +kernel
theorem d_K_ofDraft_10 : decode b_K_ofDraft 10 = .ok (.iload_n 2, 1) := by decide +kernel
theorem d_K_ofDraft_11 : decode b_K_ofDraft 11 = .ok (.tableswitch 58 0 4 #[33, 38, 43, 48, 53], 33) := by decide +kernel
theorem d_K_ofDraft_44 : decode b_K_ofDraft 44 = .ok (.aload_n 3, 1) := by decide +kernel
theorem d_K_ofDraft_45 : decode b_K_ofDraft 45 = .ok (.getfield 217, 3) := by decide +kernel
theorem d_K_ofDraft_48 : decode b_K_ofDraft 48 = .ok (.ireturn, 1) := by decide +kernel
theorem d_K_ofDraft_49 : decode b_K_ofDraft 49 = .ok (.aload_n 3, 1) := by decide +kernel
theorem d_K_ofDraft_50 : decode b_K_ofDraft 50 = .ok (.getfield 228, 3) := by decide +kernel
theorem d_K_ofDraft_53 : decode b_K_ofDraft 53 = .ok (.ireturn, 1) := by decide +kernel
theorem d_K_ofDraft_54 : decode b_K_ofDraft 54 = .ok (.aload_n 3, 1) := by decide +kernel
theorem d_K_ofDraft_55 : decode b_K_ofDraft 55 = .ok (.getfield 355, 3) := by decide +kernel
theorem d_K_ofDraft_58 : decode b_K_ofDraft 58 = .ok (.ireturn, 1) := by decide +kernel
theorem d_K_ofDraft_59 : decode b_K_ofDraft 59 = .ok (.aload_n 3, 1) := by decide +kernel
theorem d_K_ofDraft_60 : decode b_K_ofDraft 60 = .ok (.getfield 358, 3) := by decide +kernel
theorem d_K_ofDraft_63 : decode b_K_ofDraft 63 = .ok (.ireturn, 1) := by decide +kernel
theorem d_K_ofDraft_64 : decode b_K_ofDraft 64 = .ok (.aload_n 3, 1) := by decide +kernel
theorem d_K_ofDraft_65 : decode b_K_ofDraft 65 = .ok (.getfield 361, 3) := by decide +kernel
theorem d_K_ofDraft_68 : decode b_K_ofDraft 68 = .ok (.ireturn, 1) := by decide +kernel
theorem d_K_ofDraft_69 : decode b_K_ofDraft 69 = .ok (.aload_n 3, 1) := by decide +kernel
theorem d_K_ofDraft_70 : decode b_K_ofDraft 70 = .ok (.getfield 225, 3) := by decide +kernel
theorem d_K_ofDraft_73 : decode b_K_ofDraft 73 = .ok (.ireturn, 1) := by decide +kernel
theorem d_K_ofPerson_0 : decode b_K_ofPerson 0 = .ok (.iload_n 2, 1) := by decide +kernel
theorem d_K_ofPerson_1 : decode b_K_ofPerson 1 = .ok (.tableswitch 68 0 3 #[31, 40, 49, 59], 31) := by decide +kernel
theorem d_K_ofPerson_32 : decode b_K_ofPerson 32 = .ok (.aload_n 0, 1) := by decide +kernel
theorem d_K_ofPerson_33 : decode b_K_ofPerson 33 = .ok (.getfield 21, 3) := by decide +kernel
theorem d_K_ofPerson_36 : decode b_K_ofPerson 36 = .ok (.iload_n 1, 1) := by decide +kernel
theorem d_K_ofPerson_37 : decode b_K_ofPerson 37 = .ok (.invokevirtual 352, 3) := by decide +kernel
theorem d_K_ofPerson_40 : decode b_K_ofPerson 40 = .ok (.ireturn, 1) := by decide +kernel
theorem d_K_ofPerson_41 : decode b_K_ofPerson 41 = .ok (.aload_n 0, 1) := by decide +kernel
theorem d_K_ofPerson_42 : decode b_K_ofPerson 42 = .ok (.getfield 21, 3) := by decide +kernel
theorem d_K_ofPerson_45 : decode b_K_ofPerson 45 = .ok (.iload_n 1, 1) := by decide +kernel
theorem d_K_ofPerson_46 : decode b_K_ofPerson 46 = .ok (.invokevirtual 169, 3) := by decide +kernel
theorem d_K_ofPerson_49 : decode b_K_ofPerson 49 = .ok (.ireturn, 1) := by decide +kernel
theorem d_K_ofPerson_50 : decode b_K_ofPerson 50 = .ok (.aload_n 0, 1) := by decide +kernel
theorem d_K_ofPerson_51 : decode b_K_ofPerson 51 = .ok (.getfield 21, 3) := by decide +kernel
theorem d_K_ofPerson_54 : decode b_K_ofPerson 54 = .ok (.iload_n 1, 1) := by decide +kernel
theorem d_K_ofPerson_55 : decode b_K_ofPerson 55 = .ok (.iconst 0, 1) := by decide +kernel
theorem d_K_ofPerson_56 : decode b_K_ofPerson 56 = .ok (.invokevirtual 163, 3) := by decide +kernel
theorem d_K_ofPerson_59 : decode b_K_ofPerson 59 = .ok (.ireturn, 1) := by decide +kernel
theorem d_K_ofPerson_60 : decode b_K_ofPerson 60 = .ok (.aload_n 0, 1) := by decide +kernel
theorem d_K_ofPerson_61 : decode b_K_ofPerson 61 = .ok (.getfield 21, 3) := by decide +kernel
theorem d_K_ofPerson_64 : decode b_K_ofPerson 64 = .ok (.iload_n 1, 1) := by decide +kernel
theorem d_K_ofPerson_65 : decode b_K_ofPerson 65 = .ok (.invokevirtual 166, 3) := by decide +kernel
theorem d_K_ofPerson_68 : decode b_K_ofPerson 68 = .ok (.ireturn, 1) := by decide +kernel
theorem d_K_ofPerson_69 : decode b_K_ofPerson 69 = .ok (.aload_n 0, 1) := by decide +kernel
theorem d_K_ofPerson_70 : decode b_K_ofPerson 70 = .ok (.getfield 21, 3) := by decide +kernel
theorem d_K_ofPerson_73 : decode b_K_ofPerson 73 = .ok (.iconst 1, 1) := by decide +kernel
theorem d_K_ofPerson_74 : decode b_K_ofPerson 74 = .ok (.iload_n 1, 1) := by decide +kernel
theorem d_K_ofPerson_75 : decode b_K_ofPerson 75 = .ok (.ishl, 1) := by decide +kernel
theorem d_K_ofPerson_76 : decode b_K_ofPerson 76 = .ok (.invokevirtual 314, 3) := by decide +kernel
theorem d_K_ofPerson_79 : decode b_K_ofPerson 79 = .ok (.invokestatic 289, 3) := by decide +kernel
theorem d_K_ofPerson_82 : decode b_K_ofPerson 82 = .ok (.ireturn, 1) := by decide +kernel
theorem d_K_on_0 : decode b_K_on 0 = .ok (.iload_n 1, 1) := by decide +kernel
theorem d_K_on_1 : decode b_K_on 1 = .ok (.invokestatic 242, 3) := by decide +kernel
theorem d_K_on_4 : decode b_K_on 4 = .ok (.ifCond .ne 5, 3) := by decide +kernel
theorem d_K_on_7 : decode b_K_on 7 = .ok (.iconst (-1), 1) := by decide +kernel
theorem d_K_on_8 : decode b_K_on 8 = .ok (.ireturn, 1) := by decide +kernel
theorem d_K_on_9 : decode b_K_on 9 = .ok (.aload_n 0, 1) := by decide +kernel
theorem d_K_on_10 : decode b_K_on 10 = .ok (.getfield 35, 3) := by decide +kernel
theorem d_K_on_13 : decode b_K_on 13 = .ok (.iload_n 1, 1) := by decide +kernel
theorem d_K_on_14 : decode b_K_on 14 = .ok (.aaload, 1) := by decide +kernel
theorem d_K_on_15 : decode b_K_on 15 = .ok (.getfield 81, 3) := by decide +kernel
theorem d_K_on_18 : decode b_K_on 18 = .ok (.iconst (-1), 1) := by decide +kernel
theorem d_K_on_19 : decode b_K_on 19 = .ok (.if_icmp .ne 9, 3) := by decide +kernel
theorem d_K_on_22 : decode b_K_on 22 = .ok (.aload_n 0, 1) := by decide +kernel
theorem d_K_on_23 : decode b_K_on 23 = .ok (.iconst 1, 1) := by decide +kernel
theorem d_K_on_24 : decode b_K_on 24 = .ok (.invokevirtual 88, 3) := by decide +kernel
theorem d_K_on_27 : decode b_K_on 27 = .ok (.ireturn, 1) := by decide +kernel
theorem d_K_on_28 : decode b_K_on 28 = .ok (.aload_n 0, 1) := by decide +kernel
theorem d_K_on_29 : decode b_K_on 29 = .ok (.getfield 31, 3) := by decide +kernel
theorem d_K_on_32 : decode b_K_on 32 = .ok (.aload_n 0, 1) := by decide +kernel
theorem d_K_on_33 : decode b_K_on 33 = .ok (.getfield 35, 3) := by decide +kernel
theorem d_K_on_36 : decode b_K_on 36 = .ok (.iload_n 1, 1) := by decide +kernel
theorem d_K_on_37 : decode b_K_on 37 = .ok (.aaload, 1) := by decide +kernel
theorem d_K_on_38 : decode b_K_on 38 = .ok (.invokevirtual 248, 3) := by decide +kernel
theorem d_K_on_41 : decode b_K_on 41 = .ok (.aload_n 0, 1) := by decide +kernel
theorem d_K_on_42 : decode b_K_on 42 = .ok (.getfield 31, 3) := by decide +kernel
theorem d_K_on_45 : decode b_K_on 45 = .ok (.aload_n 0, 1) := by decide +kernel
theorem d_K_on_46 : decode b_K_on 46 = .ok (.getfield 31, 3) := by decide +kernel
theorem d_K_on_49 : decode b_K_on 49 = .ok (.getfield 81, 3) := by decide +kernel
theorem d_K_on_52 : decode b_K_on 52 = .ok (.aload_n 0, 1) := by decide +kernel
theorem d_K_on_53 : decode b_K_on 53 = .ok (.getfield 21, 3) := by decide +kernel
theorem d_K_on_56 : decode b_K_on 56 = .ok (.invokevirtual 238, 3) := by decide +kernel
theorem d_K_on_59 : decode b_K_on 59 = .ok (.aload_n 0, 1) := by decide +kernel
theorem d_K_on_60 : decode b_K_on 60 = .ok (.getfield 31, 3) := by decide +kernel
theorem d_K_on_63 : decode b_K_on 63 = .ok (.getfield 81, 3) := by decide +kernel
theorem d_K_on_66 : decode b_K_on 66 = .ok (.ireturn, 1) := by decide +kernel
theorem d_K_owe_0 : decode b_K_owe 0 = .ok (.iload_n 1, 1) := by decide +kernel
theorem d_K_owe_1 : decode b_K_owe 1 = .ok (.ifCond .lt 14, 3) := by decide +kernel
theorem d_K_owe_4 : decode b_K_owe 4 = .ok (.iload_n 2, 1) := by decide +kernel
theorem d_K_owe_5 : decode b_K_owe 5 = .ok (.iconst 1, 1) := by decide +kernel
theorem d_K_owe_6 : decode b_K_owe 6 = .ok (.if_icmp .lt 9, 3) := by decide +kernel
theorem d_K_owe_9 : decode b_K_owe 9 = .ok (.iload_n 2, 1) := by decide +kernel
theorem d_K_owe_10 : decode b_K_owe 10 = .ok (.bipush 9, 2) := by decide +kernel
theorem d_K_owe_12 : decode b_K_owe 12 = .ok (.if_icmp .le 5, 3) := by decide +kernel
theorem d_K_owe_15 : decode b_K_owe 15 = .ok (.iconst (-1), 1) := by decide +kernel
theorem d_K_owe_16 : decode b_K_owe 16 = .ok (.ireturn, 1) := by decide +kernel
theorem d_K_owe_17 : decode b_K_owe 17 = .ok (.iload_n 1, 1) := by decide +kernel
theorem d_K_owe_18 : decode b_K_owe 18 = .ok (.bipush 100, 2) := by decide +kernel
theorem d_K_owe_20 : decode b_K_owe 20 = .ok (.idiv, 1) := by decide +kernel
theorem d_K_owe_21 : decode b_K_owe 21 = .ok (.istore_n 3, 1) := by decide +kernel
theorem d_K_owe_22 : decode b_K_owe 22 = .ok (.iload_n 1, 1) := by decide +kernel
theorem d_K_owe_23 : decode b_K_owe 23 = .ok (.bipush 10, 2) := by decide +kernel
theorem d_K_owe_25 : decode b_K_owe 25 = .ok (.idiv, 1) := by decide +kernel
theorem d_K_owe_26 : decode b_K_owe 26 = .ok (.bipush 10, 2) := by decide +kernel
theorem d_K_owe_28 : decode b_K_owe 28 = .ok (.irem, 1) := by decide +kernel
theorem d_K_owe_29 : decode b_K_owe 29 = .ok (.istore 4, 2) := by decide +kernel
theorem d_K_owe_31 : decode b_K_owe 31 = .ok (.iload_n 1, 1) := by decide +kernel
theorem d_K_owe_32 : decode b_K_owe 32 = .ok (.bipush 10, 2) := by decide +kernel
theorem d_K_owe_34 : decode b_K_owe 34 = .ok (.irem, 1) := by decide +kernel
theorem d_K_owe_35 : decode b_K_owe 35 = .ok (.istore 5, 2) := by decide +kernel
theorem d_K_owe_37 : decode b_K_owe 37 = .ok (.aload_n 0, 1) := by decide +kernel
theorem d_K_owe_38 : decode b_K_owe 38 = .ok (.getfield 21, 3) := by decide +kernel
theorem d_K_owe_41 : decode b_K_owe 41 = .ok (.iload_n 3, 1) := by decide +kernel
theorem d_K_owe_42 : decode b_K_owe 42 = .ok (.iload 4, 2) := by decide +kernel
theorem d_K_owe_44 : decode b_K_owe 44 = .ok (.invokevirtual 183, 3) := by decide +kernel
theorem d_K_owe_47 : decode b_K_owe 47 = .ok (.ifCond .eq 9, 3) := by decide +kernel
theorem d_K_owe_50 : decode b_K_owe 50 = .ok (.iload 5, 2) := by decide +kernel
theorem d_K_owe_52 : decode b_K_owe 52 = .ok (.iconst 3, 1) := by decide +kernel
theorem d_K_owe_53 : decode b_K_owe 53 = .ok (.if_icmp .lt 5, 3) := by decide +kernel
theorem d_K_owe_56 : decode b_K_owe 56 = .ok (.iconst (-1), 1) := by decide +kernel
theorem d_K_owe_57 : decode b_K_owe 57 = .ok (.ireturn, 1) := by decide +kernel
theorem d_K_owe_58 : decode b_K_owe 58 = .ok (.aload_n 0, 1) := by decide +kernel
theorem d_K_owe_59 : decode b_K_owe 59 = .ok (.getfield 21, 3) := by decide +kernel
theorem d_K_owe_62 : decode b_K_owe 62 = .ok (.getfield 186, 3) := by decide +kernel
theorem d_K_owe_65 : decode b_K_owe 65 = .ok (.bipush 12, 2) := by decide +kernel
theorem d_K_owe_67 : decode b_K_owe 67 = .ok (.if_icmp .ge 14, 3) := by decide +kernel
theorem d_K_owe_70 : decode b_K_owe 70 = .ok (.aload_n 0, 1) := by decide +kernel
theorem d_K_owe_71 : decode b_K_owe 71 = .ok (.getfield 31, 3) := by decide +kernel
theorem d_K_owe_74 : decode b_K_owe 74 = .ok (.iconst 1, 1) := by decide +kernel
theorem d_K_owe_75 : decode b_K_owe 75 = .ok (.invokevirtual 189, 3) := by decide +kernel
theorem d_K_owe_78 : decode b_K_owe 78 = .ok (.ifCond .eq 6, 3) := by decide +kernel
theorem d_K_owe_81 : decode b_K_owe 81 = .ok (.bipush (-2), 2) := by decide +kernel
theorem d_K_owe_83 : decode b_K_owe 83 = .ok (.ireturn, 1) := by decide +kernel
theorem d_K_owe_84 : decode b_K_owe 84 = .ok (.aload_n 0, 1) := by decide +kernel
theorem d_K_owe_85 : decode b_K_owe 85 = .ok (.getfield 31, 3) := by decide +kernel
theorem d_K_owe_88 : decode b_K_owe 88 = .ok (.aload_n 0, 1) := by decide +kernel
theorem d_K_owe_89 : decode b_K_owe 89 = .ok (.getfield 21, 3) := by decide +kernel
theorem d_K_owe_92 : decode b_K_owe 92 = .ok (.invokevirtual 192, 3) := by decide +kernel
theorem d_K_owe_95 : decode b_K_owe 95 = .ok (.aload_n 0, 1) := by decide +kernel
theorem d_K_owe_96 : decode b_K_owe 96 = .ok (.getfield 21, 3) := by decide +kernel
theorem d_K_owe_99 : decode b_K_owe 99 = .ok (.iload_n 3, 1) := by decide +kernel
theorem d_K_owe_100 : decode b_K_owe 100 = .ok (.iload 4, 2) := by decide +kernel
theorem d_K_owe_102 : decode b_K_owe 102 = .ok (.iload 5, 2) := by decide +kernel
theorem d_K_owe_104 : decode b_K_owe 104 = .ok (.iload_n 2, 1) := by decide +kernel
theorem d_K_owe_105 : decode b_K_owe 105 = .ok (.invokevirtual 195, 3) := by decide +kernel
theorem d_K_owe_108 : decode b_K_owe 108 = .ok (.aload_n 0, 1) := by decide +kernel
theorem d_K_owe_109 : decode b_K_owe 109 = .ok (.getfield 21, 3) := by decide +kernel
theorem d_K_owe_112 : decode b_K_owe 112 = .ok (.getfield 186, 3) := by decide +kernel
theorem d_K_owe_115 : decode b_K_owe 115 = .ok (.iconst 1, 1) := by decide +kernel
theorem d_K_owe_116 : decode b_K_owe 116 = .ok (.isub, 1) := by decide +kernel
theorem d_K_owe_117 : decode b_K_owe 117 = .ok (.ireturn, 1) := by decide +kernel
theorem d_K_pairs_0 : decode b_K_pairs 0 = .ok (.aload_n 0, 1) := by decide +kernel
theorem d_K_pairs_1 : decode b_K_pairs 1 = .ok (.getfield 49, 3) := by decide +kernel
theorem d_K_pairs_4 : decode b_K_pairs 4 = .ok (.aload_n 0, 1) := by decide +kernel
theorem d_K_pairs_5 : decode b_K_pairs 5 = .ok (.getfield 21, 3) := by decide +kernel
theorem d_K_pairs_8 : decode b_K_pairs 8 = .ok (.invokevirtual 294, 3) := by decide +kernel
theorem d_K_pairs_11 : decode b_K_pairs 11 = .ok (.aload_n 0, 1) := by decide +kernel
theorem d_K_pairs_12 : decode b_K_pairs 12 = .ok (.getfield 25, 3) := by decide +kernel
theorem d_K_pairs_15 : decode b_K_pairs 15 = .ok (.aload_n 0, 1) := by decide +kernel
theorem d_K_pairs_16 : decode b_K_pairs 16 = .ok (.getfield 21, 3) := by decide +kernel
theorem d_K_pairs_19 : decode b_K_pairs 19 = .ok (.invokevirtual 131, 3) := by decide +kernel
theorem d_K_pairs_22 : decode b_K_pairs 22 = .ok (.iconst 0, 1) := by decide +kernel
theorem d_K_pairs_23 : decode b_K_pairs 23 = .ok (.istore_n 1, 1) := by decide +kernel
theorem d_K_pairs_24 : decode b_K_pairs 24 = .ok (.iconst 0, 1) := by decide +kernel
theorem d_K_pairs_25 : decode b_K_pairs 25 = .ok (.istore_n 2, 1) := by decide +kernel
theorem d_K_pairs_26 : decode b_K_pairs 26 = .ok (.iload_n 2, 1) := by decide +kernel
theorem d_K_pairs_27 : decode b_K_pairs 27 = .ok (.aload_n 0, 1) := by decide +kernel
theorem d_K_pairs_28 : decode b_K_pairs 28 = .ok (.getfield 49, 3) := by decide +kernel
theorem d_K_pairs_31 : decode b_K_pairs 31 = .ok (.getfield 297, 3) := by decide +kernel
theorem d_K_pairs_34 : decode b_K_pairs 34 = .ok (.if_icmp .ge 63, 3) := by decide +kernel
theorem d_K_pairs_37 : decode b_K_pairs 37 = .ok (.aload_n 0, 1) := by decide +kernel
theorem d_K_pairs_38 : decode b_K_pairs 38 = .ok (.getfield 25, 3) := by decide +kernel
theorem d_K_pairs_41 : decode b_K_pairs 41 = .ok (.aload_n 0, 1) := by decide +kernel
theorem d_K_pairs_42 : decode b_K_pairs 42 = .ok (.getfield 49, 3) := by decide +kernel
theorem d_K_pairs_45 : decode b_K_pairs 45 = .ok (.getfield 298, 3) := by decide +kernel
theorem d_K_pairs_48 : decode b_K_pairs 48 = .ok (.iload_n 2, 1) := by decide +kernel
theorem d_K_pairs_49 : decode b_K_pairs 49 = .ok (.iaload, 1) := by decide +kernel
theorem d_K_pairs_50 : decode b_K_pairs 50 = .ok (.aload_n 0, 1) := by decide +kernel
theorem d_K_pairs_51 : decode b_K_pairs 51 = .ok (.getfield 49, 3) := by decide +kernel
theorem d_K_pairs_54 : decode b_K_pairs 54 = .ok (.getfield 301, 3) := by decide +kernel
theorem d_K_pairs_57 : decode b_K_pairs 57 = .ok (.iload_n 2, 1) := by decide +kernel
theorem d_K_pairs_58 : decode b_K_pairs 58 = .ok (.iaload, 1) := by decide +kernel
theorem d_K_pairs_59 : decode b_K_pairs 59 = .ok (.invokevirtual 199, 3) := by decide +kernel
theorem d_K_pairs_62 : decode b_K_pairs 62 = .ok (.pop, 1) := by decide +kernel
theorem d_K_pairs_63 : decode b_K_pairs 63 = .ok (.iload_n 1, 1) := by decide +kernel
theorem d_K_pairs_64 : decode b_K_pairs 64 = .ok (.aload_n 0, 1) := by decide +kernel
theorem d_K_pairs_65 : decode b_K_pairs 65 = .ok (.getfield 25, 3) := by decide +kernel
theorem d_K_pairs_68 : decode b_K_pairs 68 = .ok (.aload_n 0, 1) := by decide +kernel
theorem d_K_pairs_69 : decode b_K_pairs 69 = .ok (.getfield 49, 3) := by decide +kernel
theorem d_K_pairs_72 : decode b_K_pairs 72 = .ok (.getfield 298, 3) := by decide +kernel
theorem d_K_pairs_75 : decode b_K_pairs 75 = .ok (.iload_n 2, 1) := by decide +kernel
theorem d_K_pairs_76 : decode b_K_pairs 76 = .ok (.iaload, 1) := by decide +kernel
theorem d_K_pairs_77 : decode b_K_pairs 77 = .ok (.aload_n 0, 1) := by decide +kernel
theorem d_K_pairs_78 : decode b_K_pairs 78 = .ok (.getfield 49, 3) := by decide +kernel
theorem d_K_pairs_81 : decode b_K_pairs 81 = .ok (.getfield 301, 3) := by decide +kernel
theorem d_K_pairs_84 : decode b_K_pairs 84 = .ok (.iload_n 2, 1) := by decide +kernel
theorem d_K_pairs_85 : decode b_K_pairs 85 = .ok (.iaload, 1) := by decide +kernel
theorem d_K_pairs_86 : decode b_K_pairs 86 = .ok (.invokevirtual 202, 3) := by decide +kernel
theorem d_K_pairs_89 : decode b_K_pairs 89 = .ok (.iadd, 1) := by decide +kernel
theorem d_K_pairs_90 : decode b_K_pairs 90 = .ok (.istore_n 1, 1) := by decide +kernel
theorem d_K_pairs_91 : decode b_K_pairs 91 = .ok (.iinc 2 1, 3) := by decide +kernel
theorem d_K_pairs_94 : decode b_K_pairs 94 = .ok (.goto (-68), 3) := by decide +kernel
theorem d_K_pairs_97 : decode b_K_pairs 97 = .ok (.aload_n 0, 1) := by decide +kernel
theorem d_K_pairs_98 : decode b_K_pairs 98 = .ok (.iload_n 1, 1) := by decide +kernel
theorem d_K_pairs_99 : decode b_K_pairs 99 = .ok (.putfield 68, 3) := by decide +kernel
theorem d_K_pairs_102 : decode b_K_pairs 102 = .ok (.aload_n 0, 1) := by decide +kernel
theorem d_K_pairs_103 : decode b_K_pairs 103 = .ok (.getfield 49, 3) := by decide +kernel
theorem d_K_pairs_106 : decode b_K_pairs 106 = .ok (.getfield 297, 3) := by decide +kernel
theorem d_K_pairs_109 : decode b_K_pairs 109 = .ok (.ireturn, 1) := by decide +kernel
theorem d_K_person_0 : decode b_K_person 0 = .ok (.aload_n 0, 1) := by decide +kernel
theorem d_K_person_1 : decode b_K_person 1 = .ok (.getfield 21, 3) := by decide +kernel
theorem d_K_person_4 : decode b_K_person 4 = .ok (.iload_n 1, 1) := by decide +kernel
theorem d_K_person_5 : decode b_K_person 5 = .ok (.invokevirtual 138, 3) := by decide +kernel
theorem d_K_person_8 : decode b_K_person 8 = .ok (.ifCond .eq 12, 3) := by decide +kernel
theorem d_K_person_11 : decode b_K_person 11 = .ok (.iload_n 2, 1) := by decide +kernel
theorem d_K_person_12 : decode b_K_person 12 = .ok (.ifCond .lt 8, 3) := by decide +kernel
theorem d_K_person_15 : decode b_K_person 15 = .ok (.iload_n 2, 1) := by decide +kernel
theorem d_K_person_16 : decode b_K_person 16 = .ok (.iconst 5, 1) := by decide +kernel
theorem d_K_person_17 : decode b_K_person 17 = .ok (.if_icmp .lt 5, 3) := by decide +kernel
theorem d_K_person_20 : decode b_K_person 20 = .ok (.iconst (-1), 1) := by decide +kernel
theorem d_K_person_21 : decode b_K_person 21 = .ok (.ireturn, 1) := by decide +kernel
theorem d_K_person_22 : decode b_K_person 22 = .ok (.aload_n 0, 1) := by decide +kernel
theorem d_K_person_23 : decode b_K_person 23 = .ok (.aload_n 0, 1) := by decide +kernel
theorem d_K_person_24 : decode b_K_person 24 = .ok (.iload_n 1, 1) := by decide +kernel
theorem d_K_person_25 : decode b_K_person 25 = .ok (.iload_n 2, 1) := by decide +kernel
theorem d_K_person_26 : decode b_K_person 26 = .ok (.invokevirtual 141, 3) := by decide +kernel
theorem d_K_person_29 : decode b_K_person 29 = .ok (.invokevirtual 102, 3) := by decide +kernel
theorem d_K_person_32 : decode b_K_person 32 = .ok (.ireturn, 1) := by decide +kernel
theorem d_K_put_0 : decode b_K_put 0 = .ok (.iload_n 1, 1) := by decide +kernel
theorem d_K_put_1 : decode b_K_put 1 = .ok (.invokestatic 122, 3) := by decide +kernel
theorem d_K_put_4 : decode b_K_put 4 = .ok (.ifCond .ne 5, 3) := by decide +kernel
theorem d_K_put_7 : decode b_K_put 7 = .ok (.iconst (-1), 1) := by decide +kernel
theorem d_K_put_8 : decode b_K_put 8 = .ok (.ireturn, 1) := by decide +kernel
theorem d_K_put_9 : decode b_K_put 9 = .ok (.aload_n 0, 1) := by decide +kernel
theorem d_K_put_10 : decode b_K_put 10 = .ok (.getfield 15, 3) := by decide +kernel
theorem d_K_put_13 : decode b_K_put 13 = .ok (.iload_n 1, 1) := by decide +kernel
theorem d_K_put_14 : decode b_K_put 14 = .ok (.aaload, 1) := by decide +kernel
theorem d_K_put_15 : decode b_K_put 15 = .ok (.iload_n 2, 1) := by decide +kernel
theorem d_K_put_16 : decode b_K_put 16 = .ok (.invokevirtual 96, 3) := by decide +kernel
theorem d_K_put_19 : decode b_K_put 19 = .ok (.istore 4, 2) := by decide +kernel
theorem d_K_put_21 : decode b_K_put 21 = .ok (.iload 4, 2) := by decide +kernel
theorem d_K_put_23 : decode b_K_put 23 = .ok (.ifCond .eq 10, 3) := by decide +kernel
theorem d_K_put_26 : decode b_K_put 26 = .ok (.aload_n 0, 1) := by decide +kernel
theorem d_K_put_27 : decode b_K_put 27 = .ok (.iload 4, 2) := by decide +kernel
theorem d_K_put_29 : decode b_K_put 29 = .ok (.invokevirtual 88, 3) := by decide +kernel
theorem d_K_put_32 : decode b_K_put 32 = .ok (.ireturn, 1) := by decide +kernel
theorem d_K_put_33 : decode b_K_put 33 = .ok (.aload_n 0, 1) := by decide +kernel
theorem d_K_put_34 : decode b_K_put 34 = .ok (.getfield 15, 3) := by decide +kernel
theorem d_K_put_37 : decode b_K_put 37 = .ok (.iload_n 1, 1) := by decide +kernel
theorem d_K_put_38 : decode b_K_put 38 = .ok (.aaload, 1) := by decide +kernel
theorem d_K_put_39 : decode b_K_put 39 = .ok (.getfield 99, 3) := by decide +kernel
theorem d_K_put_42 : decode b_K_put 42 = .ok (.iload_n 2, 1) := by decide +kernel
theorem d_K_put_43 : decode b_K_put 43 = .ok (.iaload, 1) := by decide +kernel
theorem d_K_put_44 : decode b_K_put 44 = .ok (.istore 5, 2) := by decide +kernel
theorem d_K_put_46 : decode b_K_put 46 = .ok (.aload_n 0, 1) := by decide +kernel
theorem d_K_put_47 : decode b_K_put 47 = .ok (.getfield 15, 3) := by decide +kernel
theorem d_K_put_50 : decode b_K_put 50 = .ok (.iload_n 1, 1) := by decide +kernel
theorem d_K_put_51 : decode b_K_put 51 = .ok (.aaload, 1) := by decide +kernel
theorem d_K_put_52 : decode b_K_put 52 = .ok (.getfield 99, 3) := by decide +kernel
theorem d_K_put_55 : decode b_K_put 55 = .ok (.iload_n 2, 1) := by decide +kernel
theorem d_K_put_56 : decode b_K_put 56 = .ok (.iload_n 3, 1) := by decide +kernel
theorem d_K_put_57 : decode b_K_put 57 = .ok (.i2b, 1) := by decide +kernel
theorem d_K_put_58 : decode b_K_put 58 = .ok (.iastore, 1) := by decide +kernel
theorem d_K_put_59 : decode b_K_put 59 = .ok (.iload 5, 2) := by decide +kernel
theorem d_K_put_61 : decode b_K_put 61 = .ok (.sipush 1000, 3) := by decide +kernel
theorem d_K_put_64 : decode b_K_put 64 = .ok (.iadd, 1) := by decide +kernel
theorem d_K_put_65 : decode b_K_put 65 = .ok (.ireturn, 1) := by decide +kernel
theorem d_K_refuse_0 : decode b_K_refuse 0 = .ok (.aload_n 0, 1) := by decide +kernel
theorem d_K_refuse_1 : decode b_K_refuse 1 = .ok (.iload_n 1, 1) := by decide +kernel
theorem d_K_refuse_2 : decode b_K_refuse 2 = .ok (.putfield 64, 3) := by decide +kernel
theorem d_K_refuse_5 : decode b_K_refuse 5 = .ok (.iload_n 1, 1) := by decide +kernel
theorem d_K_refuse_6 : decode b_K_refuse 6 = .ok (.iconst 1, 1) := by decide +kernel
theorem d_K_refuse_7 : decode b_K_refuse 7 = .ok (.if_icmp .lt 18, 3) := by decide +kernel
theorem d_K_refuse_10 : decode b_K_refuse 10 = .ok (.iload_n 1, 1) := by decide +kernel
theorem d_K_refuse_11 : decode b_K_refuse 11 = .ok (.iconst 5, 1) := by decide +kernel
theorem d_K_refuse_12 : decode b_K_refuse 12 = .ok (.if_icmp .gt 13, 3) := by decide +kernel
theorem d_K_refuse_15 : decode b_K_refuse 15 = .ok (.aload_n 0, 1) := by decide +kernel
theorem d_K_refuse_16 : decode b_K_refuse 16 = .ok (.getfield 60, 3) := by decide +kernel
theorem d_K_refuse_19 : decode b_K_refuse 19 = .ok (.iload_n 1, 1) := by decide +kernel
theorem d_K_refuse_20 : decode b_K_refuse 20 = .ok (.dup2, 1) := by decide +kernel
theorem d_K_refuse_21 : decode b_K_refuse 21 = .ok (.iaload, 1) := by decide +kernel
theorem d_K_refuse_22 : decode b_K_refuse 22 = .ok (.iconst 1, 1) := by decide +kernel
theorem d_K_refuse_23 : decode b_K_refuse 23 = .ok (.iadd, 1) := by decide +kernel
theorem d_K_refuse_24 : decode b_K_refuse 24 = .ok (.iastore, 1) := by decide +kernel
theorem d_K_refuse_25 : decode b_K_refuse 25 = .ok (.bipush (-3), 2) := by decide +kernel
theorem d_K_refuse_27 : decode b_K_refuse 27 = .ok (.ireturn, 1) := by decide +kernel
theorem d_K_ring_0 : decode b_K_ring 0 = .ok (.iload_n 1, 1) := by decide +kernel
theorem d_K_ring_1 : decode b_K_ring 1 = .ok (.invokestatic 258, 3) := by decide +kernel
theorem d_K_ring_4 : decode b_K_ring 4 = .ok (.ifCond .eq 10, 3) := by decide +kernel
theorem d_K_ring_7 : decode b_K_ring 7 = .ok (.iload_n 2, 1) := by decide +kernel
theorem d_K_ring_8 : decode b_K_ring 8 = .ok (.invokestatic 84, 3) := by decide +kernel
theorem d_K_ring_11 : decode b_K_ring 11 = .ok (.ifCond .ne 5, 3) := by decide +kernel
theorem d_K_ring_14 : decode b_K_ring 14 = .ok (.iconst (-1), 1) := by decide +kernel
theorem d_K_ring_15 : decode b_K_ring 15 = .ok (.ireturn, 1) := by decide +kernel
theorem d_K_ring_16 : decode b_K_ring 16 = .ok (.aload_n 0, 1) := by decide +kernel
theorem d_K_ring_17 : decode b_K_ring 17 = .ok (.getfield 42, 3) := by decide +kernel
theorem d_K_ring_20 : decode b_K_ring 20 = .ok (.aload_n 0, 1) := by decide +kernel
theorem d_K_ring_21 : decode b_K_ring 21 = .ok (.getfield 21, 3) := by decide +kernel
theorem d_K_ring_24 : decode b_K_ring 24 = .ok (.iload_n 1, 1) := by decide +kernel
theorem d_K_ring_25 : decode b_K_ring 25 = .ok (.invokevirtual 261, 3) := by decide +kernel
theorem d_K_ring_28 : decode b_K_ring 28 = .ok (.aload_n 0, 1) := by decide +kernel
theorem d_K_ring_29 : decode b_K_ring 29 = .ok (.getfield 42, 3) := by decide +kernel
theorem d_K_ring_32 : decode b_K_ring 32 = .ok (.getfield 268, 3) := by decide +kernel
theorem d_K_ring_35 : decode b_K_ring 35 = .ok (.ifCond .ne 6, 3) := by decide +kernel
theorem d_K_ring_38 : decode b_K_ring 38 = .ok (.bipush (-9), 2) := by decide +kernel
theorem d_K_ring_40 : decode b_K_ring 40 = .ok (.ireturn, 1) := by decide +kernel
theorem d_K_ring_41 : decode b_K_ring 41 = .ok (.aload_n 0, 1) := by decide +kernel
theorem d_K_ring_42 : decode b_K_ring 42 = .ok (.getfield 11, 3) := by decide +kernel
theorem d_K_ring_45 : decode b_K_ring 45 = .ok (.iload_n 2, 1) := by decide +kernel
theorem d_K_ring_46 : decode b_K_ring 46 = .ok (.aaload, 1) := by decide +kernel
theorem d_K_ring_47 : decode b_K_ring 47 = .ok (.aload_n 0, 1) := by decide +kernel
theorem d_K_ring_48 : decode b_K_ring 48 = .ok (.getfield 42, 3) := by decide +kernel
theorem d_K_ring_51 : decode b_K_ring 51 = .ok (.getfield 271, 3) := by decide +kernel
theorem d_K_ring_54 : decode b_K_ring 54 = .ok (.iconst 0, 1) := by decide +kernel
theorem d_K_ring_55 : decode b_K_ring 55 = .ok (.invokevirtual 92, 3) := by decide +kernel
theorem d_K_ring_58 : decode b_K_ring 58 = .ok (.aload_n 0, 1) := by decide +kernel
theorem d_K_ring_59 : decode b_K_ring 59 = .ok (.getfield 42, 3) := by decide +kernel
theorem d_K_ring_62 : decode b_K_ring 62 = .ok (.getfield 274, 3) := by decide +kernel
theorem d_K_ring_65 : decode b_K_ring 65 = .ok (.iconst 0, 1) := by decide +kernel
theorem d_K_ring_66 : decode b_K_ring 66 = .ok (.aload_n 0, 1) := by decide +kernel
theorem d_K_ring_67 : decode b_K_ring 67 = .ok (.getfield 11, 3) := by decide +kernel
theorem d_K_ring_70 : decode b_K_ring 70 = .ok (.iload_n 2, 1) := by decide +kernel
theorem d_K_ring_71 : decode b_K_ring 71 = .ok (.aaload, 1) := by decide +kernel
theorem d_K_ring_72 : decode b_K_ring 72 = .ok (.getfield 99, 3) := by decide +kernel
theorem d_K_ring_75 : decode b_K_ring 75 = .ok (.iconst 0, 1) := by decide +kernel
theorem d_K_ring_76 : decode b_K_ring 76 = .ok (.aload_n 0, 1) := by decide +kernel
theorem d_K_ring_77 : decode b_K_ring 77 = .ok (.getfield 42, 3) := by decide +kernel
theorem d_K_ring_80 : decode b_K_ring 80 = .ok (.getfield 271, 3) := by decide +kernel
theorem d_K_ring_83 : decode b_K_ring 83 = .ok (.invokestatic 116, 3) := by decide +kernel
theorem d_K_ring_86 : decode b_K_ring 86 = .ok (.aload_n 0, 1) := by decide +kernel
theorem d_K_ring_87 : decode b_K_ring 87 = .ok (.getfield 42, 3) := by decide +kernel
theorem d_K_ring_90 : decode b_K_ring 90 = .ok (.getfield 277, 3) := by decide +kernel
theorem d_K_ring_93 : decode b_K_ring 93 = .ok (.ireturn, 1) := by decide +kernel
theorem d_K_ringsThrough_0 : decode b_K_ringsThrough 0 = .ok (.aload_n 0, 1) := by decide +kernel
theorem d_K_ringsThrough_1 : decode b_K_ringsThrough 1 = .ok (.getfield 42, 3) := by decide +kernel
theorem d_K_ringsThrough_4 : decode b_K_ringsThrough 4 = .ok (.aload_n 0, 1) := by decide +kernel
theorem d_K_ringsThrough_5 : decode b_K_ringsThrough 5 = .ok (.getfield 21, 3) := by decide +kernel
theorem d_K_ringsThrough_8 : decode b_K_ringsThrough 8 = .ok (.iconst 0, 1) := by decide +kernel
theorem d_K_ringsThrough_9 : decode b_K_ringsThrough 9 = .ok (.invokevirtual 261, 3) := by decide +kernel
theorem d_K_ringsThrough_12 : decode b_K_ringsThrough 12 = .ok (.aload_n 0, 1) := by decide +kernel
theorem d_K_ringsThrough_13 : decode b_K_ringsThrough 13 = .ok (.getfield 42, 3) := by decide +kernel
theorem d_K_ringsThrough_16 : decode b_K_ringsThrough 16 = .ok (.getfield 377, 3) := by decide +kernel
theorem d_K_ringsThrough_19 : decode b_K_ringsThrough 19 = .ok (.iload_n 1, 1) := by decide +kernel
theorem d_K_ringsThrough_20 : decode b_K_ringsThrough 20 = .ok (.iaload, 1) := by decide +kernel
theorem d_K_ringsThrough_21 : decode b_K_ringsThrough 21 = .ok (.istore_n 2, 1) := by decide +kernel
theorem d_K_ringsThrough_22 : decode b_K_ringsThrough 22 = .ok (.aload_n 0, 1) := by decide +kernel
theorem d_K_ringsThrough_23 : decode b_K_ringsThrough 23 = .ok (.getfield 42, 3) := by decide +kernel
theorem d_K_ringsThrough_26 : decode b_K_ringsThrough 26 = .ok (.aload_n 0, 1) := by decide +kernel
theorem d_K_ringsThrough_27 : decode b_K_ringsThrough 27 = .ok (.getfield 21, 3) := by decide +kernel
theorem d_K_ringsThrough_30 : decode b_K_ringsThrough 30 = .ok (.iconst 1, 1) := by decide +kernel
theorem d_K_ringsThrough_31 : decode b_K_ringsThrough 31 = .ok (.invokevirtual 261, 3) := by decide +kernel
theorem d_K_ringsThrough_34 : decode b_K_ringsThrough 34 = .ok (.iload_n 2, 1) := by decide +kernel
theorem d_K_ringsThrough_35 : decode b_K_ringsThrough 35 = .ok (.aload_n 0, 1) := by decide +kernel
theorem d_K_ringsThrough_36 : decode b_K_ringsThrough 36 = .ok (.getfield 42, 3) := by decide +kernel
theorem d_K_ringsThrough_39 : decode b_K_ringsThrough 39 = .ok (.getfield 377, 3) := by decide +kernel
theorem d_K_ringsThrough_42 : decode b_K_ringsThrough 42 = .ok (.iload_n 1, 1) := by decide +kernel
theorem d_K_ringsThrough_43 : decode b_K_ringsThrough 43 = .ok (.iaload, 1) := by decide +kernel
theorem d_K_ringsThrough_44 : decode b_K_ringsThrough 44 = .ok (.iadd, 1) := by decide +kernel
theorem d_K_ringsThrough_45 : decode b_K_ringsThrough 45 = .ok (.ireturn, 1) := by decide +kernel
theorem d_K_rounds_0 : decode b_K_rounds 0 = .ok (.aload_n 0, 1) := by decide +kernel
theorem d_K_rounds_1 : decode b_K_rounds 1 = .ok (.getfield 49, 3) := by decide +kernel
theorem d_K_rounds_4 : decode b_K_rounds 4 = .ok (.aload_n 0, 1) := by decide +kernel
theorem d_K_rounds_5 : decode b_K_rounds 5 = .ok (.getfield 21, 3) := by decide +kernel
theorem d_K_rounds_8 : decode b_K_rounds 8 = .ok (.invokevirtual 294, 3) := by decide +kernel
theorem d_K_rounds_11 : decode b_K_rounds 11 = .ok (.aload_n 0, 1) := by decide +kernel
theorem d_K_rounds_12 : decode b_K_rounds 12 = .ok (.getfield 49, 3) := by decide +kernel
theorem d_K_rounds_15 : decode b_K_rounds 15 = .ok (.invokevirtual 304, 3) := by decide +kernel
theorem d_K_rounds_18 : decode b_K_rounds 18 = .ok (.ireturn, 1) := by decide +kernel
theorem d_K_row_0 : decode b_K_row 0 = .ok (.iload_n 1, 1) := by decide +kernel
theorem d_K_row_1 : decode b_K_row 1 = .ok (.invokestatic 84, 3) := by decide +kernel
theorem d_K_row_4 : decode b_K_row 4 = .ok (.ifCond .eq 9, 3) := by decide +kernel
theorem d_K_row_7 : decode b_K_row 7 = .ok (.iload_n 2, 1) := by decide +kernel
theorem d_K_row_8 : decode b_K_row 8 = .ok (.bipush 40, 2) := by decide +kernel
theorem d_K_row_10 : decode b_K_row 10 = .ok (.if_icmp .le 5, 3) := by decide +kernel
theorem d_K_row_13 : decode b_K_row 13 = .ok (.iconst (-1), 1) := by decide +kernel
theorem d_K_row_14 : decode b_K_row 14 = .ok (.ireturn, 1) := by decide +kernel
theorem d_K_row_15 : decode b_K_row 15 = .ok (.iload_n 2, 1) := by decide +kernel
theorem d_K_row_16 : decode b_K_row 16 = .ok (.ifCond .ge 9, 3) := by decide +kernel
theorem d_K_row_19 : decode b_K_row 19 = .ok (.aload_n 0, 1) := by decide +kernel
theorem d_K_row_20 : decode b_K_row 20 = .ok (.iconst 5, 1) := by decide +kernel
theorem d_K_row_21 : decode b_K_row 21 = .ok (.invokevirtual 88, 3) := by decide +kernel
theorem d_K_row_24 : decode b_K_row 24 = .ok (.ireturn, 1) := by decide +kernel
theorem d_K_row_25 : decode b_K_row 25 = .ok (.aload_n 0, 1) := by decide +kernel
theorem d_K_row_26 : decode b_K_row 26 = .ok (.getfield 11, 3) := by decide +kernel
theorem d_K_row_29 : decode b_K_row 29 = .ok (.iload_n 1, 1) := by decide +kernel
theorem d_K_row_30 : decode b_K_row 30 = .ok (.aaload, 1) := by decide +kernel
theorem d_K_row_31 : decode b_K_row 31 = .ok (.iload_n 2, 1) := by decide +kernel
theorem d_K_row_32 : decode b_K_row 32 = .ok (.iconst 0, 1) := by decide +kernel
theorem d_K_row_33 : decode b_K_row 33 = .ok (.invokevirtual 92, 3) := by decide +kernel
theorem d_K_row_36 : decode b_K_row 36 = .ok (.iload_n 2, 1) := by decide +kernel
theorem d_K_row_37 : decode b_K_row 37 = .ok (.ireturn, 1) := by decide +kernel
theorem d_K_saved_0 : decode b_K_saved 0 = .ok (.aload_n 0, 1) := by decide +kernel
theorem d_K_saved_1 : decode b_K_saved 1 = .ok (.getfield 21, 3) := by decide +kernel
theorem d_K_saved_4 : decode b_K_saved 4 = .ok (.iload_n 1, 1) := by decide +kernel
theorem d_K_saved_5 : decode b_K_saved 5 = .ok (.iload_n 2, 1) := by decide +kernel
theorem d_K_saved_6 : decode b_K_saved 6 = .ok (.invokevirtual 183, 3) := by decide +kernel
theorem d_K_saved_9 : decode b_K_saved 9 = .ok (.ifCond .ne 5, 3) := by decide +kernel
theorem d_K_saved_12 : decode b_K_saved 12 = .ok (.iconst (-1), 1) := by decide +kernel
theorem d_K_saved_13 : decode b_K_saved 13 = .ok (.ireturn, 1) := by decide +kernel
theorem d_K_saved_14 : decode b_K_saved 14 = .ok (.aload_n 0, 1) := by decide +kernel
theorem d_K_saved_15 : decode b_K_saved 15 = .ok (.getfield 21, 3) := by decide +kernel
theorem d_K_saved_18 : decode b_K_saved 18 = .ok (.iload_n 2, 1) := by decide +kernel
theorem d_K_saved_19 : decode b_K_saved 19 = .ok (.iload_n 1, 1) := by decide +kernel
theorem d_K_saved_20 : decode b_K_saved 20 = .ok (.invokevirtual 286, 3) := by decide +kernel
theorem d_K_saved_23 : decode b_K_saved 23 = .ok (.iconst 1, 1) := by decide +kernel
theorem d_K_saved_24 : decode b_K_saved 24 = .ok (.iload_n 2, 1) := by decide +kernel
theorem d_K_saved_25 : decode b_K_saved 25 = .ok (.ishl, 1) := by decide +kernel
theorem d_K_saved_26 : decode b_K_saved 26 = .ok (.ior, 1) := by decide +kernel
theorem d_K_saved_27 : decode b_K_saved 27 = .ok (.istore_n 3, 1) := by decide +kernel
theorem d_K_saved_28 : decode b_K_saved 28 = .ok (.iconst 0, 1) := by decide +kernel
theorem d_K_saved_29 : decode b_K_saved 29 = .ok (.aload_n 0, 1) := by decide +kernel
theorem d_K_saved_30 : decode b_K_saved 30 = .ok (.getfield 21, 3) := by decide +kernel
theorem d_K_saved_33 : decode b_K_saved 33 = .ok (.iload_n 1, 1) := by decide +kernel
theorem d_K_saved_34 : decode b_K_saved 34 = .ok (.invokevirtual 169, 3) := by decide +kernel
theorem d_K_saved_37 : decode b_K_saved 37 = .ok (.aload_n 0, 1) := by decide +kernel
theorem d_K_saved_38 : decode b_K_saved 38 = .ok (.getfield 21, 3) := by decide +kernel
theorem d_K_saved_41 : decode b_K_saved 41 = .ok (.iload_n 1, 1) := by decide +kernel
theorem d_K_saved_42 : decode b_K_saved 42 = .ok (.iload_n 3, 1) := by decide +kernel
theorem d_K_saved_43 : decode b_K_saved 43 = .ok (.invokevirtual 163, 3) := by decide +kernel
theorem d_K_saved_46 : decode b_K_saved 46 = .ok (.isub, 1) := by decide +kernel
theorem d_K_saved_47 : decode b_K_saved 47 = .ok (.aload_n 0, 1) := by decide +kernel
theorem d_K_saved_48 : decode b_K_saved 48 = .ok (.getfield 21, 3) := by decide +kernel
theorem d_K_saved_51 : decode b_K_saved 51 = .ok (.iload_n 1, 1) := by decide +kernel
theorem d_K_saved_52 : decode b_K_saved 52 = .ok (.invokevirtual 166, 3) := by decide +kernel
theorem d_K_saved_55 : decode b_K_saved 55 = .ok (.isub, 1) := by decide +kernel
theorem d_K_saved_56 : decode b_K_saved 56 = .ok (.invokestatic 172, 3) := by decide +kernel
theorem d_K_saved_59 : decode b_K_saved 59 = .ok (.istore 4, 2) := by decide +kernel
theorem d_K_saved_61 : decode b_K_saved 61 = .ok (.iload 4, 2) := by decide +kernel
theorem d_K_saved_63 : decode b_K_saved 63 = .ok (.sipush 200, 3) := by decide +kernel
theorem d_K_saved_66 : decode b_K_saved 66 = .ok (.if_icmp .le 8, 3) := by decide +kernel
theorem d_K_saved_69 : decode b_K_saved 69 = .ok (.bipush (-9), 2) := by decide +kernel
theorem d_K_saved_71 : decode b_K_saved 71 = .ok (.goto 5, 3) := by decide +kernel
theorem d_K_saved_74 : decode b_K_saved 74 = .ok (.iload 4, 2) := by decide +kernel
theorem d_K_saved_76 : decode b_K_saved 76 = .ok (.ireturn, 1) := by decide +kernel
theorem d_K_sure_0 : decode b_K_sure 0 = .ok (.aload_n 0, 1) := by decide +kernel
theorem d_K_sure_1 : decode b_K_sure 1 = .ok (.iload_n 1, 1) := by decide +kernel
theorem d_K_sure_2 : decode b_K_sure 2 = .ok (.invokevirtual 317, 3) := by decide +kernel
theorem d_K_sure_5 : decode b_K_sure 5 = .ok (.istore_n 2, 1) := by decide +kernel
theorem d_K_sure_6 : decode b_K_sure 6 = .ok (.iload_n 2, 1) := by decide +kernel
theorem d_K_sure_7 : decode b_K_sure 7 = .ok (.ifCond .eq 5, 3) := by decide +kernel
theorem d_K_sure_10 : decode b_K_sure 10 = .ok (.iload_n 2, 1) := by decide +kernel
theorem d_K_sure_11 : decode b_K_sure 11 = .ok (.ireturn, 1) := by decide +kernel
theorem d_K_sure_12 : decode b_K_sure 12 = .ok (.aload_n 0, 1) := by decide +kernel
theorem d_K_sure_13 : decode b_K_sure 13 = .ok (.getfield 56, 3) := by decide +kernel
theorem d_K_sure_16 : decode b_K_sure 16 = .ok (.aload_n 0, 1) := by decide +kernel
theorem d_K_sure_17 : decode b_K_sure 17 = .ok (.getfield 21, 3) := by decide +kernel
theorem d_K_sure_20 : decode b_K_sure 20 = .ok (.aload_n 0, 1) := by decide +kernel
theorem d_K_sure_21 : decode b_K_sure 21 = .ok (.getfield 11, 3) := by decide +kernel
theorem d_K_sure_24 : decode b_K_sure 24 = .ok (.iload_n 1, 1) := by decide +kernel
theorem d_K_sure_25 : decode b_K_sure 25 = .ok (.aaload, 1) := by decide +kernel
theorem d_K_sure_26 : decode b_K_sure 26 = .ok (.getfield 99, 3) := by decide +kernel
theorem d_K_sure_29 : decode b_K_sure 29 = .ok (.invokevirtual 320, 3) := by decide +kernel
theorem d_K_sure_32 : decode b_K_sure 32 = .ok (.aload_n 0, 1) := by decide +kernel
theorem d_K_sure_33 : decode b_K_sure 33 = .ok (.getfield 56, 3) := by decide +kernel
theorem d_K_sure_36 : decode b_K_sure 36 = .ok (.getfield 329, 3) := by decide +kernel
theorem d_K_sure_39 : decode b_K_sure 39 = .ok (.ireturn, 1) := by decide +kernel
theorem d_K_tear_0 : decode b_K_tear 0 = .ok (.iload_n 1, 1) := by decide +kernel
theorem d_K_tear_1 : decode b_K_tear 1 = .ok (.invokestatic 84, 3) := by decide +kernel
theorem d_K_tear_4 : decode b_K_tear 4 = .ok (.ifCond .ne 5, 3) := by decide +kernel
theorem d_K_tear_7 : decode b_K_tear 7 = .ok (.iconst (-1), 1) := by decide +kernel
theorem d_K_tear_8 : decode b_K_tear 8 = .ok (.ireturn, 1) := by decide +kernel
theorem d_K_tear_9 : decode b_K_tear 9 = .ok (.aload_n 0, 1) := by decide +kernel
theorem d_K_tear_10 : decode b_K_tear 10 = .ok (.getfield 11, 3) := by decide +kernel
theorem d_K_tear_13 : decode b_K_tear 13 = .ok (.iload_n 1, 1) := by decide +kernel
theorem d_K_tear_14 : decode b_K_tear 14 = .ok (.aaload, 1) := by decide +kernel
theorem d_K_tear_15 : decode b_K_tear 15 = .ok (.invokevirtual 105, 3) := by decide +kernel
theorem d_K_tear_18 : decode b_K_tear 18 = .ok (.ifCond .eq 9, 3) := by decide +kernel
theorem d_K_tear_21 : decode b_K_tear 21 = .ok (.aload_n 0, 1) := by decide +kernel
theorem d_K_tear_22 : decode b_K_tear 22 = .ok (.iconst 1, 1) := by decide +kernel
theorem d_K_tear_23 : decode b_K_tear 23 = .ok (.invokevirtual 88, 3) := by decide +kernel
theorem d_K_tear_26 : decode b_K_tear 26 = .ok (.ireturn, 1) := by decide +kernel
theorem d_K_tear_27 : decode b_K_tear 27 = .ok (.aload_n 0, 1) := by decide +kernel
theorem d_K_tear_28 : decode b_K_tear 28 = .ok (.getfield 11, 3) := by decide +kernel
theorem d_K_tear_31 : decode b_K_tear 31 = .ok (.iload_n 1, 1) := by decide +kernel
theorem d_K_tear_32 : decode b_K_tear 32 = .ok (.aaload, 1) := by decide +kernel
theorem d_K_tear_33 : decode b_K_tear 33 = .ok (.iconst (-1), 1) := by decide +kernel
theorem d_K_tear_34 : decode b_K_tear 34 = .ok (.putfield 109, 3) := by decide +kernel
theorem d_K_tear_37 : decode b_K_tear 37 = .ok (.iconst 1, 1) := by decide +kernel
theorem d_K_tear_38 : decode b_K_tear 38 = .ok (.ireturn, 1) := by decide +kernel
theorem d_K_tell_0 : decode b_K_tell 0 = .ok (.aload_n 0, 1) := by decide +kernel
theorem d_K_tell_1 : decode b_K_tell 1 = .ok (.iload_n 1, 1) := by decide +kernel
theorem d_K_tell_2 : decode b_K_tell 2 = .ok (.putfield 68, 3) := by decide +kernel
theorem d_K_tell_5 : decode b_K_tell 5 = .ok (.iconst 1, 1) := by decide +kernel
theorem d_K_tell_6 : decode b_K_tell 6 = .ok (.ireturn, 1) := by decide +kernel
theorem d_K_text_0 : decode b_K_text 0 = .ok (.iload_n 1, 1) := by decide +kernel
theorem d_K_text_1 : decode b_K_text 1 = .ok (.invokestatic 122, 3) := by decide +kernel
theorem d_K_text_4 : decode b_K_text 4 = .ok (.ifCond .eq 9, 3) := by decide +kernel
theorem d_K_text_7 : decode b_K_text 7 = .ok (.iload_n 2, 1) := by decide +kernel
theorem d_K_text_8 : decode b_K_text 8 = .ok (.bipush 80, 2) := by decide +kernel
theorem d_K_text_10 : decode b_K_text 10 = .ok (.if_icmp .le 5, 3) := by decide +kernel
theorem d_K_text_13 : decode b_K_text 13 = .ok (.iconst (-1), 1) := by decide +kernel
theorem d_K_text_14 : decode b_K_text 14 = .ok (.ireturn, 1) := by decide +kernel
theorem d_K_text_15 : decode b_K_text 15 = .ok (.iload_n 2, 1) := by decide +kernel
theorem d_K_text_16 : decode b_K_text 16 = .ok (.ifCond .ge 9, 3) := by decide +kernel
theorem d_K_text_19 : decode b_K_text 19 = .ok (.aload_n 0, 1) := by decide +kernel
theorem d_K_text_20 : decode b_K_text 20 = .ok (.iconst 5, 1) := by decide +kernel
theorem d_K_text_21 : decode b_K_text 21 = .ok (.invokevirtual 88, 3) := by decide +kernel
theorem d_K_text_24 : decode b_K_text 24 = .ok (.ireturn, 1) := by decide +kernel
theorem d_K_text_25 : decode b_K_text 25 = .ok (.aload_n 0, 1) := by decide +kernel
theorem d_K_text_26 : decode b_K_text 26 = .ok (.getfield 15, 3) := by decide +kernel
theorem d_K_text_29 : decode b_K_text 29 = .ok (.iload_n 1, 1) := by decide +kernel
theorem d_K_text_30 : decode b_K_text 30 = .ok (.aaload, 1) := by decide +kernel
theorem d_K_text_31 : decode b_K_text 31 = .ok (.iload_n 2, 1) := by decide +kernel
theorem d_K_text_32 : decode b_K_text 32 = .ok (.bipush 32, 2) := by decide +kernel
theorem d_K_text_34 : decode b_K_text 34 = .ok (.invokevirtual 92, 3) := by decide +kernel
theorem d_K_text_37 : decode b_K_text 37 = .ok (.iload_n 2, 1) := by decide +kernel
theorem d_K_text_38 : decode b_K_text 38 = .ok (.ireturn, 1) := by decide +kernel
theorem d_K_thoseThere_0 : decode b_K_thoseThere 0 = .ok (.iconst 0, 1) := by decide +kernel
theorem d_K_thoseThere_1 : decode b_K_thoseThere 1 = .ok (.istore_n 1, 1) := by decide +kernel
theorem d_K_thoseThere_2 : decode b_K_thoseThere 2 = .ok (.iconst 0, 1) := by decide +kernel
theorem d_K_thoseThere_3 : decode b_K_thoseThere 3 = .ok (.istore_n 2, 1) := by decide +kernel
theorem d_K_thoseThere_4 : decode b_K_thoseThere 4 = .ok (.iload_n 2, 1) := by decide +kernel
theorem d_K_thoseThere_5 : decode b_K_thoseThere 5 = .ok (.aload_n 0, 1) := by decide +kernel
theorem d_K_thoseThere_6 : decode b_K_thoseThere 6 = .ok (.arraylength, 1) := by decide +kernel
theorem d_K_thoseThere_7 : decode b_K_thoseThere 7 = .ok (.if_icmp .ge 21, 3) := by decide +kernel
theorem d_K_thoseThere_10 : decode b_K_thoseThere 10 = .ok (.aload_n 0, 1) := by decide +kernel
theorem d_K_thoseThere_11 : decode b_K_thoseThere 11 = .ok (.iload_n 2, 1) := by decide +kernel
theorem d_K_thoseThere_12 : decode b_K_thoseThere 12 = .ok (.aaload, 1) := by decide +kernel
theorem d_K_thoseThere_13 : decode b_K_thoseThere 13 = .ok (.invokevirtual 105, 3) := by decide +kernel
theorem d_K_thoseThere_16 : decode b_K_thoseThere 16 = .ok (.ifCond .ne 6, 3) := by decide +kernel
theorem d_K_thoseThere_19 : decode b_K_thoseThere 19 = .ok (.iinc 1 1, 3) := by decide +kernel
theorem d_K_thoseThere_22 : decode b_K_thoseThere 22 = .ok (.iinc 2 1, 3) := by decide +kernel
theorem d_K_thoseThere_25 : decode b_K_thoseThere 25 = .ok (.goto (-21), 3) := by decide +kernel
theorem d_K_thoseThere_28 : decode b_K_thoseThere 28 = .ok (.iload_n 1, 1) := by decide +kernel
theorem d_K_thoseThere_29 : decode b_K_thoseThere 29 = .ok (.ireturn, 1) := by decide +kernel
theorem d_K_trust_0 : decode b_K_trust 0 = .ok (.aload_n 0, 1) := by decide +kernel
theorem d_K_trust_1 : decode b_K_trust 1 = .ok (.getfield 21, 3) := by decide +kernel
theorem d_K_trust_4 : decode b_K_trust 4 = .ok (.iload_n 1, 1) := by decide +kernel
theorem d_K_trust_5 : decode b_K_trust 5 = .ok (.iload_n 2, 1) := by decide +kernel
theorem d_K_trust_6 : decode b_K_trust 6 = .ok (.invokevirtual 183, 3) := by decide +kernel
theorem d_K_trust_9 : decode b_K_trust 9 = .ok (.ifCond .ne 5, 3) := by decide +kernel
theorem d_K_trust_12 : decode b_K_trust 12 = .ok (.iconst (-1), 1) := by decide +kernel
theorem d_K_trust_13 : decode b_K_trust 13 = .ok (.ireturn, 1) := by decide +kernel
theorem d_K_trust_14 : decode b_K_trust 14 = .ok (.iconst 1, 1) := by decide +kernel
theorem d_K_trust_15 : decode b_K_trust 15 = .ok (.iload_n 1, 1) := by decide +kernel
theorem d_K_trust_16 : decode b_K_trust 16 = .ok (.ishl, 1) := by decide +kernel
theorem d_K_trust_17 : decode b_K_trust 17 = .ok (.istore_n 3, 1) := by decide +kernel
theorem d_K_trust_18 : decode b_K_trust 18 = .ok (.iconst 1, 1) := by decide +kernel
theorem d_K_trust_19 : decode b_K_trust 19 = .ok (.istore 4, 2) := by decide +kernel
theorem d_K_trust_21 : decode b_K_trust 21 = .ok (.iload 4, 2) := by decide +kernel
theorem d_K_trust_23 : decode b_K_trust 23 = .ok (.iconst 3, 1) := by decide +kernel
theorem d_K_trust_24 : decode b_K_trust 24 = .ok (.if_icmp .gt 31, 3) := by decide +kernel
theorem d_K_trust_27 : decode b_K_trust 27 = .ok (.iload_n 3, 1) := by decide +kernel
theorem d_K_trust_28 : decode b_K_trust 28 = .ok (.aload_n 0, 1) := by decide +kernel
theorem d_K_trust_29 : decode b_K_trust 29 = .ok (.getfield 21, 3) := by decide +kernel
theorem d_K_trust_32 : decode b_K_trust 32 = .ok (.iload_n 3, 1) := by decide +kernel
theorem d_K_trust_33 : decode b_K_trust 33 = .ok (.invokevirtual 314, 3) := by decide +kernel
theorem d_K_trust_36 : decode b_K_trust 36 = .ok (.ior, 1) := by decide +kernel
theorem d_K_trust_37 : decode b_K_trust 37 = .ok (.istore_n 3, 1) := by decide +kernel
theorem d_K_trust_38 : decode b_K_trust 38 = .ok (.iload_n 3, 1) := by decide +kernel
theorem d_K_trust_39 : decode b_K_trust 39 = .ok (.iconst 1, 1) := by decide +kernel
theorem d_K_trust_40 : decode b_K_trust 40 = .ok (.iload_n 2, 1) := by decide +kernel
theorem d_K_trust_41 : decode b_K_trust 41 = .ok (.ishl, 1) := by decide +kernel
theorem d_K_trust_42 : decode b_K_trust 42 = .ok (.iand, 1) := by decide +kernel
theorem d_K_trust_43 : decode b_K_trust 43 = .ok (.ifCond .eq 6, 3) := by decide +kernel
theorem d_K_trust_46 : decode b_K_trust 46 = .ok (.iload 4, 2) := by decide +kernel
theorem d_K_trust_48 : decode b_K_trust 48 = .ok (.ireturn, 1) := by decide +kernel
theorem d_K_trust_49 : decode b_K_trust 49 = .ok (.iinc 4 1, 3) := by decide +kernel
theorem d_K_trust_52 : decode b_K_trust 52 = .ok (.goto (-31), 3) := by decide +kernel
theorem d_K_trust_55 : decode b_K_trust 55 = .ok (.bipush (-9), 2) := by decide +kernel
theorem d_K_trust_57 : decode b_K_trust 57 = .ok (.ireturn, 1) := by decide +kernel
theorem d_K_undo_0 : decode b_K_undo 0 = .ok (.iload_n 1, 1) := by decide +kernel
theorem d_K_undo_1 : decode b_K_undo 1 = .ok (.ifCond .lt 14, 3) := by decide +kernel
theorem d_K_undo_4 : decode b_K_undo 4 = .ok (.iload_n 1, 1) := by decide +kernel
theorem d_K_undo_5 : decode b_K_undo 5 = .ok (.aload_n 0, 1) := by decide +kernel
theorem d_K_undo_6 : decode b_K_undo 6 = .ok (.getfield 31, 3) := by decide +kernel
theorem d_K_undo_9 : decode b_K_undo 9 = .ok (.getfield 81, 3) := by decide +kernel
theorem d_K_undo_12 : decode b_K_undo 12 = .ok (.if_icmp .le 5, 3) := by decide +kernel
theorem d_K_undo_15 : decode b_K_undo 15 = .ok (.iconst (-1), 1) := by decide +kernel
theorem d_K_undo_16 : decode b_K_undo 16 = .ok (.ireturn, 1) := by decide +kernel
theorem d_K_undo_17 : decode b_K_undo 17 = .ok (.aload_n 0, 1) := by decide +kernel
theorem d_K_undo_18 : decode b_K_undo 18 = .ok (.getfield 31, 3) := by decide +kernel
theorem d_K_undo_21 : decode b_K_undo 21 = .ok (.getfield 81, 3) := by decide +kernel
theorem d_K_undo_24 : decode b_K_undo 24 = .ok (.iload_n 1, 1) := by decide +kernel
theorem d_K_undo_25 : decode b_K_undo 25 = .ok (.isub, 1) := by decide +kernel
theorem d_K_undo_26 : decode b_K_undo 26 = .ok (.istore_n 2, 1) := by decide +kernel
theorem d_K_undo_27 : decode b_K_undo 27 = .ok (.iload_n 2, 1) := by decide +kernel
theorem d_K_undo_28 : decode b_K_undo 28 = .ok (.ifCond .le 15, 3) := by decide +kernel
theorem d_K_undo_31 : decode b_K_undo 31 = .ok (.aload_n 0, 1) := by decide +kernel
theorem d_K_undo_32 : decode b_K_undo 32 = .ok (.getfield 31, 3) := by decide +kernel
theorem d_K_undo_35 : decode b_K_undo 35 = .ok (.iload_n 1, 1) := by decide +kernel
theorem d_K_undo_36 : decode b_K_undo 36 = .ok (.aload_n 0, 1) := by decide +kernel
theorem d_K_undo_37 : decode b_K_undo 37 = .ok (.getfield 21, 3) := by decide +kernel
theorem d_K_undo_40 : decode b_K_undo 40 = .ok (.invokevirtual 238, 3) := by decide +kernel
theorem d_K_undo_43 : decode b_K_undo 43 = .ok (.iload_n 2, 1) := by decide +kernel
theorem d_K_undo_44 : decode b_K_undo 44 = .ok (.ireturn, 1) := by decide +kernel
theorem d_K_upper_0 : decode b_K_upper 0 = .ok (.aload_n 0, 1) := by decide +kernel
theorem d_K_upper_1 : decode b_K_upper 1 = .ok (.getfield 71, 3) := by decide +kernel
theorem d_K_upper_4 : decode b_K_upper 4 = .ok (.lreturn, 1) := by decide +kernel
theorem d_K_village_0 : decode b_K_village 0 = .ok (.iload_n 1, 1) := by decide +kernel
theorem d_K_village_1 : decode b_K_village 1 = .ok (.invokestatic 122, 3) := by decide +kernel
theorem d_K_village_4 : decode b_K_village 4 = .ok (.ifCond .ne 5, 3) := by decide +kernel
theorem d_K_village_7 : decode b_K_village 7 = .ok (.iconst (-1), 1) := by decide +kernel
theorem d_K_village_8 : decode b_K_village 8 = .ok (.ireturn, 1) := by decide +kernel
theorem d_K_village_9 : decode b_K_village 9 = .ok (.aload_n 0, 1) := by decide +kernel
theorem d_K_village_10 : decode b_K_village 10 = .ok (.getfield 15, 3) := by decide +kernel
theorem d_K_village_13 : decode b_K_village 13 = .ok (.iload_n 1, 1) := by decide +kernel
theorem d_K_village_14 : decode b_K_village 14 = .ok (.aaload, 1) := by decide +kernel
theorem d_K_village_15 : decode b_K_village 15 = .ok (.invokevirtual 105, 3) := by decide +kernel
theorem d_K_village_18 : decode b_K_village 18 = .ok (.ifCond .eq 9, 3) := by decide +kernel
theorem d_K_village_21 : decode b_K_village 21 = .ok (.aload_n 0, 1) := by decide +kernel
theorem d_K_village_22 : decode b_K_village 22 = .ok (.iconst 1, 1) := by decide +kernel
theorem d_K_village_23 : decode b_K_village 23 = .ok (.invokevirtual 88, 3) := by decide +kernel
theorem d_K_village_26 : decode b_K_village 26 = .ok (.ireturn, 1) := by decide +kernel
theorem d_K_village_27 : decode b_K_village 27 = .ok (.aload_n 0, 1) := by decide +kernel
theorem d_K_village_28 : decode b_K_village 28 = .ok (.getfield 15, 3) := by decide +kernel
theorem d_K_village_31 : decode b_K_village 31 = .ok (.iload_n 1, 1) := by decide +kernel
theorem d_K_village_32 : decode b_K_village 32 = .ok (.aaload, 1) := by decide +kernel
theorem d_K_village_33 : decode b_K_village 33 = .ok (.aload_n 0, 1) := by decide +kernel
theorem d_K_village_34 : decode b_K_village 34 = .ok (.getfield 25, 3) := by decide +kernel
theorem d_K_village_37 : decode b_K_village 37 = .ok (.invokestatic 125, 3) := by decide +kernel
theorem d_K_village_40 : decode b_K_village 40 = .ok (.bipush (-9), 2) := by decide +kernel
theorem d_K_village_42 : decode b_K_village 42 = .ok (.if_icmp .eq 6, 3) := by decide +kernel
theorem d_K_village_45 : decode b_K_village 45 = .ok (.bipush (-4), 2) := by decide +kernel
theorem d_K_village_47 : decode b_K_village 47 = .ok (.ireturn, 1) := by decide +kernel
theorem d_K_village_48 : decode b_K_village 48 = .ok (.aload_n 0, 1) := by decide +kernel
theorem d_K_village_49 : decode b_K_village 49 = .ok (.getfield 21, 3) := by decide +kernel
theorem d_K_village_52 : decode b_K_village 52 = .ok (.aload_n 0, 1) := by decide +kernel
theorem d_K_village_53 : decode b_K_village 53 = .ok (.getfield 25, 3) := by decide +kernel
theorem d_K_village_56 : decode b_K_village 56 = .ok (.invokevirtual 131, 3) := by decide +kernel
theorem d_K_village_59 : decode b_K_village 59 = .ok (.aload_n 0, 1) := by decide +kernel
theorem d_K_village_60 : decode b_K_village 60 = .ok (.getfield 31, 3) := by decide +kernel
theorem d_K_village_63 : decode b_K_village 63 = .ok (.iconst 0, 1) := by decide +kernel
theorem d_K_village_64 : decode b_K_village 64 = .ok (.putfield 81, 3) := by decide +kernel
theorem d_K_village_67 : decode b_K_village 67 = .ok (.iconst 0, 1) := by decide +kernel
theorem d_K_village_68 : decode b_K_village 68 = .ok (.istore_n 2, 1) := by decide +kernel
theorem d_K_village_69 : decode b_K_village 69 = .ok (.iload_n 2, 1) := by decide +kernel
theorem d_K_village_70 : decode b_K_village 70 = .ok (.iconst 3, 1) := by decide +kernel
theorem d_K_village_71 : decode b_K_village 71 = .ok (.if_icmp .ge 19, 3) := by decide +kernel
theorem d_K_village_74 : decode b_K_village 74 = .ok (.aload_n 0, 1) := by decide +kernel
theorem d_K_village_75 : decode b_K_village 75 = .ok (.getfield 35, 3) := by decide +kernel
theorem d_K_village_78 : decode b_K_village 78 = .ok (.iload_n 2, 1) := by decide +kernel
theorem d_K_village_79 : decode b_K_village 79 = .ok (.aaload, 1) := by decide +kernel
theorem d_K_village_80 : decode b_K_village 80 = .ok (.iconst (-1), 1) := by decide +kernel
theorem d_K_village_81 : decode b_K_village 81 = .ok (.putfield 81, 3) := by decide +kernel
theorem d_K_village_84 : decode b_K_village 84 = .ok (.iinc 2 1, 3) := by decide +kernel
theorem d_K_village_87 : decode b_K_village 87 = .ok (.goto (-18), 3) := by decide +kernel
theorem d_K_village_90 : decode b_K_village 90 = .ok (.aload_n 0, 1) := by decide +kernel
theorem d_K_village_91 : decode b_K_village 91 = .ok (.getfield 21, 3) := by decide +kernel
theorem d_K_village_94 : decode b_K_village 94 = .ok (.getfield 135, 3) := by decide +kernel
theorem d_K_village_97 : decode b_K_village 97 = .ok (.ireturn, 1) := by decide +kernel
theorem d_K_week_0 : decode b_K_week 0 = .ok (.aload_n 0, 1) := by decide +kernel
theorem d_K_week_1 : decode b_K_week 1 = .ok (.getfield 21, 3) := by decide +kernel
theorem d_K_week_4 : decode b_K_week 4 = .ok (.invokevirtual 231, 3) := by decide +kernel
theorem d_K_week_7 : decode b_K_week 7 = .ok (.ifCond .eq 6, 3) := by decide +kernel
theorem d_K_week_10 : decode b_K_week 10 = .ok (.bipush (-4), 2) := by decide +kernel
theorem d_K_week_12 : decode b_K_week 12 = .ok (.ireturn, 1) := by decide +kernel
theorem d_K_week_13 : decode b_K_week 13 = .ok (.aload_n 0, 1) := by decide +kernel
theorem d_K_week_14 : decode b_K_week 14 = .ok (.getfield 31, 3) := by decide +kernel
theorem d_K_week_17 : decode b_K_week 17 = .ok (.iconst 1, 1) := by decide +kernel
theorem d_K_week_18 : decode b_K_week 18 = .ok (.invokevirtual 189, 3) := by decide +kernel
theorem d_K_week_21 : decode b_K_week 21 = .ok (.ifCond .eq 6, 3) := by decide +kernel
theorem d_K_week_24 : decode b_K_week 24 = .ok (.bipush (-2), 2) := by decide +kernel
theorem d_K_week_26 : decode b_K_week 26 = .ok (.ireturn, 1) := by decide +kernel
theorem d_K_week_27 : decode b_K_week 27 = .ok (.aload_n 0, 1) := by decide +kernel
theorem d_K_week_28 : decode b_K_week 28 = .ok (.getfield 31, 3) := by decide +kernel
theorem d_K_week_31 : decode b_K_week 31 = .ok (.aload_n 0, 1) := by decide +kernel
theorem d_K_week_32 : decode b_K_week 32 = .ok (.getfield 21, 3) := by decide +kernel
theorem d_K_week_35 : decode b_K_week 35 = .ok (.invokevirtual 192, 3) := by decide +kernel
theorem d_K_week_38 : decode b_K_week 38 = .ok (.aload_n 0, 1) := by decide +kernel
theorem d_K_week_39 : decode b_K_week 39 = .ok (.getfield 21, 3) := by decide +kernel
theorem d_K_week_42 : decode b_K_week 42 = .ok (.invokevirtual 234, 3) := by decide +kernel
theorem d_K_week_45 : decode b_K_week 45 = .ok (.ireturn, 1) := by decide +kernel
theorem d_K_worst_0 : decode b_K_worst 0 = .ok (.aload_n 0, 1) := by decide +kernel
theorem d_K_worst_1 : decode b_K_worst 1 = .ok (.getfield 21, 3) := by decide +kernel
theorem d_K_worst_4 : decode b_K_worst 4 = .ok (.invokevirtual 231, 3) := by decide +kernel
theorem d_K_worst_7 : decode b_K_worst 7 = .ok (.ifCond .eq 6, 3) := by decide +kernel
theorem d_K_worst_10 : decode b_K_worst 10 = .ok (.bipush (-4), 2) := by decide +kernel
theorem d_K_worst_12 : decode b_K_worst 12 = .ok (.ireturn, 1) := by decide +kernel
theorem d_K_worst_13 : decode b_K_worst 13 = .ok (.iconst 0, 1) := by decide +kernel
theorem d_K_worst_14 : decode b_K_worst 14 = .ok (.istore_n 1, 1) := by decide +kernel
theorem d_K_worst_15 : decode b_K_worst 15 = .ok (.iconst (-1), 1) := by decide +kernel
theorem d_K_worst_16 : decode b_K_worst 16 = .ok (.istore_n 2, 1) := by decide +kernel
theorem d_K_worst_17 : decode b_K_worst 17 = .ok (.iconst 0, 1) := by decide +kernel
theorem d_K_worst_18 : decode b_K_worst 18 = .ok (.istore_n 3, 1) := by decide +kernel
theorem d_K_worst_19 : decode b_K_worst 19 = .ok (.iload_n 3, 1) := by decide +kernel
theorem d_K_worst_20 : decode b_K_worst 20 = .ok (.aload_n 0, 1) := by decide +kernel
theorem d_K_worst_21 : decode b_K_worst 21 = .ok (.getfield 21, 3) := by decide +kernel
theorem d_K_worst_24 : decode b_K_worst 24 = .ok (.getfield 135, 3) := by decide +kernel
theorem d_K_worst_27 : decode b_K_worst 27 = .ok (.if_icmp .ge 34, 3) := by decide +kernel
theorem d_K_worst_30 : decode b_K_worst 30 = .ok (.aload_n 0, 1) := by decide +kernel
theorem d_K_worst_31 : decode b_K_worst 31 = .ok (.getfield 21, 3) := by decide +kernel
theorem d_K_worst_34 : decode b_K_worst 34 = .ok (.iload_n 3, 1) := by decide +kernel
theorem d_K_worst_35 : decode b_K_worst 35 = .ok (.iconst (-1), 1) := by decide +kernel
theorem d_K_worst_36 : decode b_K_worst 36 = .ok (.invokevirtual 286, 3) := by decide +kernel
theorem d_K_worst_39 : decode b_K_worst 39 = .ok (.invokestatic 289, 3) := by decide +kernel
theorem d_K_worst_42 : decode b_K_worst 42 = .ok (.istore 4, 2) := by decide +kernel
theorem d_K_worst_44 : decode b_K_worst 44 = .ok (.iload 4, 2) := by decide +kernel
theorem d_K_worst_46 : decode b_K_worst 46 = .ok (.iload_n 2, 1) := by decide +kernel
theorem d_K_worst_47 : decode b_K_worst 47 = .ok (.if_icmp .le 8, 3) := by decide +kernel
theorem d_K_worst_50 : decode b_K_worst 50 = .ok (.iload 4, 2) := by decide +kernel
theorem d_K_worst_52 : decode b_K_worst 52 = .ok (.istore_n 2, 1) := by decide +kernel
theorem d_K_worst_53 : decode b_K_worst 53 = .ok (.iload_n 3, 1) := by decide +kernel
theorem d_K_worst_54 : decode b_K_worst 54 = .ok (.istore_n 1, 1) := by decide +kernel
theorem d_K_worst_55 : decode b_K_worst 55 = .ok (.iinc 3 1, 3) := by decide +kernel
theorem d_K_worst_58 : decode b_K_worst 58 = .ok (.goto (-39), 3) := by decide +kernel
theorem d_K_worst_61 : decode b_K_worst 61 = .ok (.aload_n 0, 1) := by decide +kernel
theorem d_K_worst_62 : decode b_K_worst 62 = .ok (.iload_n 2, 1) := by decide +kernel
theorem d_K_worst_63 : decode b_K_worst 63 = .ok (.putfield 68, 3) := by decide +kernel
theorem d_K_worst_66 : decode b_K_worst 66 = .ok (.iload_n 1, 1) := by decide +kernel
theorem d_K_worst_67 : decode b_K_worst 67 = .ok (.ireturn, 1) := by decide +kernel
