theorem d_M_init_0 : decode b_M_init 0 = .ok (.aload_n 0, 1) := by decide +kernel
theorem d_M_init_1 : decode b_M_init 1 = .ok (.invokespecial 1, 3) := by decide +kernel
theorem d_M_init_4 : decode b_M_init 4 = .ok (.aload_n 0, 1) := by decide +kernel
theorem d_M_init_5 : decode b_M_init 5 = .ok (.sipush 11976, 3) := by decide +kernel
theorem d_M_init_8 : decode b_M_init 8 = .ok (.newarray .int, 2) := by decide +kernel
theorem d_M_init_10 : decode b_M_init 10 = .ok (.putfield 7, 3) := by decide +kernel
theorem d_M_init_13 : decode b_M_init 13 = .ok (.aload_n 0, 1) := by decide +kernel
theorem d_M_init_14 : decode b_M_init 14 = .ok (.bipush 6, 2) := by decide +kernel
theorem d_M_init_16 : decode b_M_init 16 = .ok (.newarray .int, 2) := by decide +kernel
theorem d_M_init_18 : decode b_M_init 18 = .ok (.putfield 13, 3) := by decide +kernel
theorem d_M_init_21 : decode b_M_init 21 = .ok (.aload_n 0, 1) := by decide +kernel
theorem d_M_init_22 : decode b_M_init 22 = .ok (.bipush 6, 2) := by decide +kernel
theorem d_M_init_24 : decode b_M_init 24 = .ok (.newarray .int, 2) := by decide +kernel
theorem d_M_init_26 : decode b_M_init 26 = .ok (.dup, 1) := by decide +kernel
theorem d_M_init_27 : decode b_M_init 27 = .ok (.iconst 0, 1) := by decide +kernel
theorem d_M_init_28 : decode b_M_init 28 = .ok (.iconst (-1), 1) := by decide +kernel
theorem d_M_init_29 : decode b_M_init 29 = .ok (.iastore, 1) := by decide +kernel
theorem d_M_init_30 : decode b_M_init 30 = .ok (.dup, 1) := by decide +kernel
theorem d_M_init_31 : decode b_M_init 31 = .ok (.iconst 1, 1) := by decide +kernel
theorem d_M_init_32 : decode b_M_init 32 = .ok (.iconst (-1), 1) := by decide +kernel
theorem d_M_init_33 : decode b_M_init 33 = .ok (.iastore, 1) := by decide +kernel
theorem d_M_init_34 : decode b_M_init 34 = .ok (.dup, 1) := by decide +kernel
theorem d_M_init_35 : decode b_M_init 35 = .ok (.iconst 2, 1) := by decide +kernel
theorem d_M_init_36 : decode b_M_init 36 = .ok (.iconst (-1), 1) := by decide +kernel
theorem d_M_init_37 : decode b_M_init 37 = .ok (.iastore, 1) := by decide +kernel
theorem d_M_init_38 : decode b_M_init 38 = .ok (.dup, 1) := by decide +kernel
theorem d_M_init_39 : decode b_M_init 39 = .ok (.iconst 3, 1) := by decide +kernel
theorem d_M_init_40 : decode b_M_init 40 = .ok (.iconst (-1), 1) := by decide +kernel
theorem d_M_init_41 : decode b_M_init 41 = .ok (.iastore, 1) := by decide +kernel
theorem d_M_init_42 : decode b_M_init 42 = .ok (.dup, 1) := by decide +kernel
theorem d_M_init_43 : decode b_M_init 43 = .ok (.iconst 4, 1) := by decide +kernel
theorem d_M_init_44 : decode b_M_init 44 = .ok (.iconst (-1), 1) := by decide +kernel
theorem d_M_init_45 : decode b_M_init 45 = .ok (.iastore, 1) := by decide +kernel
theorem d_M_init_46 : decode b_M_init 46 = .ok (.dup, 1) := by decide +kernel
theorem d_M_init_47 : decode b_M_init 47 = .ok (.iconst 5, 1) := by decide +kernel
theorem d_M_init_48 : decode b_M_init 48 = .ok (.iconst (-1), 1) := by decide +kernel
theorem d_M_init_49 : decode b_M_init 49 = .ok (.iastore, 1) := by decide +kernel
theorem d_M_init_50 : decode b_M_init 50 = .ok (.putfield 16, 3) := by decide +kernel
theorem d_M_init_53 : decode b_M_init 53 = .ok (.aload_n 0, 1) := by decide +kernel
theorem d_M_init_54 : decode b_M_init 54 = .ok (.sipush 240, 3) := by decide +kernel
theorem d_M_init_57 : decode b_M_init 57 = .ok (.newarray .int, 2) := by decide +kernel
theorem d_M_init_59 : decode b_M_init 59 = .ok (.putfield 19, 3) := by decide +kernel
theorem d_M_init_62 : decode b_M_init 62 = .ok (.aload_n 0, 1) := by decide +kernel
theorem d_M_init_63 : decode b_M_init 63 = .ok (.iconst 4, 1) := by decide +kernel
theorem d_M_init_64 : decode b_M_init 64 = .ok (.newarray .int, 2) := by decide +kernel
theorem d_M_init_66 : decode b_M_init 66 = .ok (.dup, 1) := by decide +kernel
theorem d_M_init_67 : decode b_M_init 67 = .ok (.iconst 0, 1) := by decide +kernel
theorem d_M_init_68 : decode b_M_init 68 = .ok (.iconst (-1), 1) := by decide +kernel
theorem d_M_init_69 : decode b_M_init 69 = .ok (.iastore, 1) := by decide +kernel
theorem d_M_init_70 : decode b_M_init 70 = .ok (.dup, 1) := by decide +kernel
theorem d_M_init_71 : decode b_M_init 71 = .ok (.iconst 1, 1) := by decide +kernel
theorem d_M_init_72 : decode b_M_init 72 = .ok (.iconst (-1), 1) := by decide +kernel
theorem d_M_init_73 : decode b_M_init 73 = .ok (.iastore, 1) := by decide +kernel
theorem d_M_init_74 : decode b_M_init 74 = .ok (.dup, 1) := by decide +kernel
theorem d_M_init_75 : decode b_M_init 75 = .ok (.iconst 2, 1) := by decide +kernel
theorem d_M_init_76 : decode b_M_init 76 = .ok (.iconst (-1), 1) := by decide +kernel
theorem d_M_init_77 : decode b_M_init 77 = .ok (.iastore, 1) := by decide +kernel
theorem d_M_init_78 : decode b_M_init 78 = .ok (.dup, 1) := by decide +kernel
theorem d_M_init_79 : decode b_M_init 79 = .ok (.iconst 3, 1) := by decide +kernel
theorem d_M_init_80 : decode b_M_init 80 = .ok (.iconst (-1), 1) := by decide +kernel
theorem d_M_init_81 : decode b_M_init 81 = .ok (.iastore, 1) := by decide +kernel
theorem d_M_init_82 : decode b_M_init 82 = .ok (.putfield 22, 3) := by decide +kernel
theorem d_M_init_85 : decode b_M_init 85 = .ok (.aload_n 0, 1) := by decide +kernel
theorem d_M_init_86 : decode b_M_init 86 = .ok (.sipush 320, 3) := by decide +kernel
theorem d_M_init_89 : decode b_M_init 89 = .ok (.newarray .int, 2) := by decide +kernel
theorem d_M_init_91 : decode b_M_init 91 = .ok (.putfield 25, 3) := by decide +kernel
theorem d_M_init_94 : decode b_M_init 94 = .ok (.aload_n 0, 1) := by decide +kernel
theorem d_M_init_95 : decode b_M_init 95 = .ok (.lconst 1, 1) := by decide +kernel
theorem d_M_init_96 : decode b_M_init 96 = .ok (.putfield 28, 3) := by decide +kernel
theorem d_M_init_99 : decode b_M_init 99 = .ok (.aload_n 0, 1) := by decide +kernel
theorem d_M_init_100 : decode b_M_init 100 = .ok (.bipush 6, 2) := by decide +kernel
theorem d_M_init_102 : decode b_M_init 102 = .ok (.newarray .int, 2) := by decide +kernel
theorem d_M_init_104 : decode b_M_init 104 = .ok (.putfield 32, 3) := by decide +kernel
theorem d_M_init_107 : decode b_M_init 107 = .ok (.aload_n 0, 1) := by decide +kernel
theorem d_M_init_108 : decode b_M_init 108 = .ok (.bipush 6, 2) := by decide +kernel
theorem d_M_init_110 : decode b_M_init 110 = .ok (.newarray .int, 2) := by decide +kernel
theorem d_M_init_112 : decode b_M_init 112 = .ok (.putfield 35, 3) := by decide +kernel
theorem d_M_init_115 : decode b_M_init 115 = .ok (.aload_n 0, 1) := by decide +kernel
theorem d_M_init_116 : decode b_M_init 116 = .ok (.bipush 48, 2) := by decide +kernel
theorem d_M_init_118 : decode b_M_init 118 = .ok (.newarray .int, 2) := by decide +kernel
theorem d_M_init_120 : decode b_M_init 120 = .ok (.putfield 38, 3) := by decide +kernel
theorem d_M_init_123 : decode b_M_init 123 = .ok (.aload_n 0, 1) := by decide +kernel
theorem d_M_init_124 : decode b_M_init 124 = .ok (.bipush 12, 2) := by decide +kernel
theorem d_M_init_126 : decode b_M_init 126 = .ok (.newarray .int, 2) := by decide +kernel
theorem d_M_init_128 : decode b_M_init 128 = .ok (.putfield 41, 3) := by decide +kernel
theorem d_M_init_131 : decode b_M_init 131 = .ok (.aload_n 0, 1) := by decide +kernel
theorem d_M_init_132 : decode b_M_init 132 = .ok (.bipush 6, 2) := by decide +kernel
theorem d_M_init_134 : decode b_M_init 134 = .ok (.newarray .int, 2) := by decide +kernel
theorem d_M_init_136 : decode b_M_init 136 = .ok (.putfield 44, 3) := by decide +kernel
theorem d_M_init_139 : decode b_M_init 139 = .ok (.aload_n 0, 1) := by decide +kernel
theorem d_M_init_140 : decode b_M_init 140 = .ok (.bipush 6, 2) := by decide +kernel
theorem d_M_init_142 : decode b_M_init 142 = .ok (.newarray .int, 2) := by decide +kernel
theorem d_M_init_144 : decode b_M_init 144 = .ok (.putfield 47, 3) := by decide +kernel
theorem d_M_init_147 : decode b_M_init 147 = .ok (.aload_n 0, 1) := by decide +kernel
theorem d_M_init_148 : decode b_M_init 148 = .ok (.bipush 30, 2) := by decide +kernel
theorem d_M_init_150 : decode b_M_init 150 = .ok (.newarray .int, 2) := by decide +kernel
theorem d_M_init_152 : decode b_M_init 152 = .ok (.putfield 50, 3) := by decide +kernel
theorem d_M_init_155 : decode b_M_init 155 = .ok (.aload_n 0, 1) := by decide +kernel
theorem d_M_init_156 : decode b_M_init 156 = .ok (.bipush 16, 2) := by decide +kernel
theorem d_M_init_158 : decode b_M_init 158 = .ok (.newarray .int, 2) := by decide +kernel
theorem d_M_init_160 : decode b_M_init 160 = .ok (.putfield 53, 3) := by decide +kernel
theorem d_M_init_163 : decode b_M_init 163 = .ok (.iconst 1, 1) := by decide +kernel
theorem d_M_init_164 : decode b_M_init 164 = .ok (.istore_n 1, 1) := by decide +kernel
theorem d_M_init_165 : decode b_M_init 165 = .ok (.iload_n 1, 1) := by decide +kernel
theorem d_M_init_166 : decode b_M_init 166 = .ok (.iconst 4, 1) := by decide +kernel
theorem d_M_init_167 : decode b_M_init 167 = .ok (.if_icmp .ge 22, 3) := by decide +kernel
theorem d_M_init_170 : decode b_M_init 170 = .ok (.aload_n 0, 1) := by decide +kernel
theorem d_M_init_171 : decode b_M_init 171 = .ok (.getfield 7, 3) := by decide +kernel
theorem d_M_init_174 : decode b_M_init 174 = .ok (.sipush 2994, 3) := by decide +kernel
theorem d_M_init_177 : decode b_M_init 177 = .ok (.iload_n 1, 1) := by decide +kernel
theorem d_M_init_178 : decode b_M_init 178 = .ok (.imul, 1) := by decide +kernel
theorem d_M_init_179 : decode b_M_init 179 = .ok (.iconst 0, 1) := by decide +kernel
theorem d_M_init_180 : decode b_M_init 180 = .ok (.iadd, 1) := by decide +kernel
theorem d_M_init_181 : decode b_M_init 181 = .ok (.iconst (-1), 1) := by decide +kernel
theorem d_M_init_182 : decode b_M_init 182 = .ok (.iastore, 1) := by decide +kernel
theorem d_M_init_183 : decode b_M_init 183 = .ok (.iinc 1 1, 3) := by decide +kernel
theorem d_M_init_186 : decode b_M_init 186 = .ok (.goto (-21), 3) := by decide +kernel
theorem d_M_init_189 : decode b_M_init 189 = .ok (.return_, 1) := by decide +kernel
theorem d_M_addDraft_0 : decode b_M_addDraft 0 = .ok (.iconst 2, 1) := by decide +kernel
theorem d_M_addDraft_1 : decode b_M_addDraft 1 = .ok (.bipush 6, 2) := by decide +kernel
theorem d_M_addDraft_3 : decode b_M_addDraft 3 = .ok (.aload_n 0, 1) := by decide +kernel
theorem d_M_addDraft_4 : decode b_M_addDraft 4 = .ok (.getfield 7, 3) := by decide +kernel
theorem d_M_addDraft_7 : decode b_M_addDraft 7 = .ok (.iconst 1, 1) := by decide +kernel
theorem d_M_addDraft_8 : decode b_M_addDraft 8 = .ok (.iaload, 1) := by decide +kernel
theorem d_M_addDraft_9 : decode b_M_addDraft 9 = .ok (.imul, 1) := by decide +kernel
theorem d_M_addDraft_10 : decode b_M_addDraft 10 = .ok (.iadd, 1) := by decide +kernel
theorem d_M_addDraft_11 : decode b_M_addDraft 11 = .ok (.istore 5, 2) := by decide +kernel
theorem d_M_addDraft_13 : decode b_M_addDraft 13 = .ok (.aload_n 0, 1) := by decide +kernel
theorem d_M_addDraft_14 : decode b_M_addDraft 14 = .ok (.getfield 7, 3) := by decide +kernel
theorem d_M_addDraft_17 : decode b_M_addDraft 17 = .ok (.iload 5, 2) := by decide +kernel
theorem d_M_addDraft_19 : decode b_M_addDraft 19 = .ok (.iconst 0, 1) := by decide +kernel
theorem d_M_addDraft_20 : decode b_M_addDraft 20 = .ok (.iadd, 1) := by decide +kernel
theorem d_M_addDraft_21 : decode b_M_addDraft 21 = .ok (.iload_n 1, 1) := by decide +kernel
theorem d_M_addDraft_22 : decode b_M_addDraft 22 = .ok (.iastore, 1) := by decide +kernel
theorem d_M_addDraft_23 : decode b_M_addDraft 23 = .ok (.aload_n 0, 1) := by decide +kernel
theorem d_M_addDraft_24 : decode b_M_addDraft 24 = .ok (.getfield 7, 3) := by decide +kernel
theorem d_M_addDraft_27 : decode b_M_addDraft 27 = .ok (.iload 5, 2) := by decide +kernel
theorem d_M_addDraft_29 : decode b_M_addDraft 29 = .ok (.iconst 1, 1) := by decide +kernel
theorem d_M_addDraft_30 : decode b_M_addDraft 30 = .ok (.iadd, 1) := by decide +kernel
theorem d_M_addDraft_31 : decode b_M_addDraft 31 = .ok (.iload_n 2, 1) := by decide +kernel
theorem d_M_addDraft_32 : decode b_M_addDraft 32 = .ok (.iastore, 1) := by decide +kernel
theorem d_M_addDraft_33 : decode b_M_addDraft 33 = .ok (.aload_n 0, 1) := by decide +kernel
theorem d_M_addDraft_34 : decode b_M_addDraft 34 = .ok (.getfield 7, 3) := by decide +kernel
theorem d_M_addDraft_37 : decode b_M_addDraft 37 = .ok (.iload 5, 2) := by decide +kernel
theorem d_M_addDraft_39 : decode b_M_addDraft 39 = .ok (.iconst 2, 1) := by decide +kernel
theorem d_M_addDraft_40 : decode b_M_addDraft 40 = .ok (.iadd, 1) := by decide +kernel
theorem d_M_addDraft_41 : decode b_M_addDraft 41 = .ok (.iload_n 3, 1) := by decide +kernel
theorem d_M_addDraft_42 : decode b_M_addDraft 42 = .ok (.iastore, 1) := by decide +kernel
theorem d_M_addDraft_43 : decode b_M_addDraft 43 = .ok (.aload_n 0, 1) := by decide +kernel
theorem d_M_addDraft_44 : decode b_M_addDraft 44 = .ok (.getfield 7, 3) := by decide +kernel
theorem d_M_addDraft_47 : decode b_M_addDraft 47 = .ok (.iload 5, 2) := by decide +kernel
theorem d_M_addDraft_49 : decode b_M_addDraft 49 = .ok (.iconst 3, 1) := by decide +kernel
theorem d_M_addDraft_50 : decode b_M_addDraft 50 = .ok (.iadd, 1) := by decide +kernel
theorem d_M_addDraft_51 : decode b_M_addDraft 51 = .ok (.iload 4, 2) := by decide +kernel
theorem d_M_addDraft_53 : decode b_M_addDraft 53 = .ok (.iastore, 1) := by decide +kernel
theorem d_M_addDraft_54 : decode b_M_addDraft 54 = .ok (.aload_n 0, 1) := by decide +kernel
theorem d_M_addDraft_55 : decode b_M_addDraft 55 = .ok (.getfield 7, 3) := by decide +kernel
theorem d_M_addDraft_58 : decode b_M_addDraft 58 = .ok (.iload 5, 2) := by decide +kernel
theorem d_M_addDraft_60 : decode b_M_addDraft 60 = .ok (.iconst 4, 1) := by decide +kernel
theorem d_M_addDraft_61 : decode b_M_addDraft 61 = .ok (.iadd, 1) := by decide +kernel
theorem d_M_addDraft_62 : decode b_M_addDraft 62 = .ok (.iconst 0, 1) := by decide +kernel
theorem d_M_addDraft_63 : decode b_M_addDraft 63 = .ok (.iastore, 1) := by decide +kernel
theorem d_M_addDraft_64 : decode b_M_addDraft 64 = .ok (.aload_n 0, 1) := by decide +kernel
theorem d_M_addDraft_65 : decode b_M_addDraft 65 = .ok (.getfield 7, 3) := by decide +kernel
theorem d_M_addDraft_68 : decode b_M_addDraft 68 = .ok (.iload 5, 2) := by decide +kernel
theorem d_M_addDraft_70 : decode b_M_addDraft 70 = .ok (.iconst 5, 1) := by decide +kernel
theorem d_M_addDraft_71 : decode b_M_addDraft 71 = .ok (.iadd, 1) := by decide +kernel
theorem d_M_addDraft_72 : decode b_M_addDraft 72 = .ok (.iconst 0, 1) := by decide +kernel
theorem d_M_addDraft_73 : decode b_M_addDraft 73 = .ok (.iastore, 1) := by decide +kernel
theorem d_M_addDraft_74 : decode b_M_addDraft 74 = .ok (.aload_n 0, 1) := by decide +kernel
theorem d_M_addDraft_75 : decode b_M_addDraft 75 = .ok (.getfield 7, 3) := by decide +kernel
theorem d_M_addDraft_78 : decode b_M_addDraft 78 = .ok (.iconst 1, 1) := by decide +kernel
theorem d_M_addDraft_79 : decode b_M_addDraft 79 = .ok (.dup2, 1) := by decide +kernel
theorem d_M_addDraft_80 : decode b_M_addDraft 80 = .ok (.iaload, 1) := by decide +kernel
theorem d_M_addDraft_81 : decode b_M_addDraft 81 = .ok (.iconst 1, 1) := by decide +kernel
theorem d_M_addDraft_82 : decode b_M_addDraft 82 = .ok (.iadd, 1) := by decide +kernel
theorem d_M_addDraft_83 : decode b_M_addDraft 83 = .ok (.iastore, 1) := by decide +kernel
theorem d_M_addDraft_84 : decode b_M_addDraft 84 = .ok (.return_, 1) := by decide +kernel
theorem d_M_all_0 : decode b_M_all 0 = .ok (.iload_n 1, 1) := by decide +kernel
theorem d_M_all_1 : decode b_M_all 1 = .ok (.i2l, 1) := by decide +kernel
theorem d_M_all_2 : decode b_M_all 2 = .ok (.lconst 0, 1) := by decide +kernel
theorem d_M_all_3 : decode b_M_all 3 = .ok (.lconst 1, 1) := by decide +kernel
theorem d_M_all_4 : decode b_M_all 4 = .ok (.invokestatic 65, 3) := by decide +kernel
theorem d_M_all_7 : decode b_M_all 7 = .ok (.ifCond .ne 5, 3) := by decide +kernel
theorem d_M_all_10 : decode b_M_all 10 = .ok (.iconst (-1), 1) := by decide +kernel
theorem d_M_all_11 : decode b_M_all 11 = .ok (.ireturn, 1) := by decide +kernel
theorem d_M_all_12 : decode b_M_all 12 = .ok (.iconst 0, 1) := by decide +kernel
theorem d_M_all_13 : decode b_M_all 13 = .ok (.istore_n 2, 1) := by decide +kernel
theorem d_M_all_14 : decode b_M_all 14 = .ok (.aload_n 0, 1) := by decide +kernel
theorem d_M_all_15 : decode b_M_all 15 = .ok (.iconst 0, 1) := by decide +kernel
theorem d_M_all_16 : decode b_M_all 16 = .ok (.putfield 60, 3) := by decide +kernel
theorem d_M_all_19 : decode b_M_all 19 = .ok (.aload_n 0, 1) := by decide +kernel
theorem d_M_all_20 : decode b_M_all 20 = .ok (.iload_n 1, 1) := by decide +kernel
theorem d_M_all_21 : decode b_M_all 21 = .ok (.invokevirtual 255, 3) := by decide +kernel
theorem d_M_all_24 : decode b_M_all 24 = .ok (.aload_n 0, 1) := by decide +kernel
theorem d_M_all_25 : decode b_M_all 25 = .ok (.invokevirtual 259, 3) := by decide +kernel
theorem d_M_all_28 : decode b_M_all 28 = .ok (.ifCond .eq 39, 3) := by decide +kernel
theorem d_M_all_31 : decode b_M_all 31 = .ok (.aload_n 0, 1) := by decide +kernel
theorem d_M_all_32 : decode b_M_all 32 = .ok (.invokevirtual 262, 3) := by decide +kernel
theorem d_M_all_35 : decode b_M_all 35 = .ok (.aload_n 0, 1) := by decide +kernel
theorem d_M_all_36 : decode b_M_all 36 = .ok (.getfield 243, 3) := by decide +kernel
theorem d_M_all_39 : decode b_M_all 39 = .ok (.imul, 1) := by decide +kernel
theorem d_M_all_40 : decode b_M_all 40 = .ok (.istore_n 3, 1) := by decide +kernel
theorem d_M_all_41 : decode b_M_all 41 = .ok (.aload_n 0, 1) := by decide +kernel
theorem d_M_all_42 : decode b_M_all 42 = .ok (.iload_n 3, 1) := by decide +kernel
theorem d_M_all_43 : decode b_M_all 43 = .ok (.aload_n 0, 1) := by decide +kernel
theorem d_M_all_44 : decode b_M_all 44 = .ok (.getfield 60, 3) := by decide +kernel
theorem d_M_all_47 : decode b_M_all 47 = .ok (.if_icmp .le 7, 3) := by decide +kernel
theorem d_M_all_50 : decode b_M_all 50 = .ok (.iload_n 3, 1) := by decide +kernel
theorem d_M_all_51 : decode b_M_all 51 = .ok (.goto 7, 3) := by decide +kernel
theorem d_M_all_54 : decode b_M_all 54 = .ok (.aload_n 0, 1) := by decide +kernel
theorem d_M_all_55 : decode b_M_all 55 = .ok (.getfield 60, 3) := by decide +kernel
theorem d_M_all_58 : decode b_M_all 58 = .ok (.putfield 60, 3) := by decide +kernel
theorem d_M_all_61 : decode b_M_all 61 = .ok (.iinc 2 1, 3) := by decide +kernel
theorem d_M_all_64 : decode b_M_all 64 = .ok (.goto (-40), 3) := by decide +kernel
theorem d_M_all_67 : decode b_M_all 67 = .ok (.iload_n 2, 1) := by decide +kernel
theorem d_M_all_68 : decode b_M_all 68 = .ok (.ireturn, 1) := by decide +kernel
theorem d_M_areDrafts_0 : decode b_M_areDrafts 0 = .ok (.iconst 1, 1) := by decide +kernel
theorem d_M_areDrafts_1 : decode b_M_areDrafts 1 = .ok (.istore_n 2, 1) := by decide +kernel
theorem d_M_areDrafts_2 : decode b_M_areDrafts 2 = .ok (.iconst 0, 1) := by decide +kernel
theorem d_M_areDrafts_3 : decode b_M_areDrafts 3 = .ok (.istore_n 3, 1) := by decide +kernel
theorem d_M_areDrafts_4 : decode b_M_areDrafts 4 = .ok (.iload_n 3, 1) := by decide +kernel
theorem d_M_areDrafts_5 : decode b_M_areDrafts 5 = .ok (.aload_n 0, 1) := by decide +kernel
theorem d_M_areDrafts_6 : decode b_M_areDrafts 6 = .ok (.getfield 16, 3) := by decide +kernel
theorem d_M_areDrafts_9 : decode b_M_areDrafts 9 = .ok (.iload_n 1, 1) := by decide +kernel
theorem d_M_areDrafts_10 : decode b_M_areDrafts 10 = .ok (.iaload, 1) := by decide +kernel
theorem d_M_areDrafts_11 : decode b_M_areDrafts 11 = .ok (.if_icmp .ge 37, 3) := by decide +kernel
theorem d_M_areDrafts_14 : decode b_M_areDrafts 14 = .ok (.iload_n 2, 1) := by decide +kernel
theorem d_M_areDrafts_15 : decode b_M_areDrafts 15 = .ok (.ifCond .eq 25, 3) := by decide +kernel
theorem d_M_areDrafts_18 : decode b_M_areDrafts 18 = .ok (.aload_n 0, 1) := by decide +kernel
theorem d_M_areDrafts_19 : decode b_M_areDrafts 19 = .ok (.aload_n 0, 1) := by decide +kernel
theorem d_M_areDrafts_20 : decode b_M_areDrafts 20 = .ok (.getfield 19, 3) := by decide +kernel
theorem d_M_areDrafts_23 : decode b_M_areDrafts 23 = .ok (.bipush 40, 2) := by decide +kernel
theorem d_M_areDrafts_25 : decode b_M_areDrafts 25 = .ok (.iload_n 1, 1) := by decide +kernel
theorem d_M_areDrafts_26 : decode b_M_areDrafts 26 = .ok (.imul, 1) := by decide +kernel
theorem d_M_areDrafts_27 : decode b_M_areDrafts 27 = .ok (.iload_n 3, 1) := by decide +kernel
theorem d_M_areDrafts_28 : decode b_M_areDrafts 28 = .ok (.iadd, 1) := by decide +kernel
theorem d_M_areDrafts_29 : decode b_M_areDrafts 29 = .ok (.iaload, 1) := by decide +kernel
theorem d_M_areDrafts_30 : decode b_M_areDrafts 30 = .ok (.invokevirtual 179, 3) := by decide +kernel
theorem d_M_areDrafts_33 : decode b_M_areDrafts 33 = .ok (.ifCond .eq 7, 3) := by decide +kernel
theorem d_M_areDrafts_36 : decode b_M_areDrafts 36 = .ok (.iconst 1, 1) := by decide +kernel
theorem d_M_areDrafts_37 : decode b_M_areDrafts 37 = .ok (.goto 4, 3) := by decide +kernel
theorem d_M_areDrafts_40 : decode b_M_areDrafts 40 = .ok (.iconst 0, 1) := by decide +kernel
theorem d_M_areDrafts_41 : decode b_M_areDrafts 41 = .ok (.istore_n 2, 1) := by decide +kernel
theorem d_M_areDrafts_42 : decode b_M_areDrafts 42 = .ok (.iinc 3 1, 3) := by decide +kernel
theorem d_M_areDrafts_45 : decode b_M_areDrafts 45 = .ok (.goto (-41), 3) := by decide +kernel
theorem d_M_areDrafts_48 : decode b_M_areDrafts 48 = .ok (.iload_n 2, 1) := by decide +kernel
theorem d_M_areDrafts_49 : decode b_M_areDrafts 49 = .ok (.ireturn, 1) := by decide +kernel
theorem d_M_areOpen_0 : decode b_M_areOpen 0 = .ok (.iconst 1, 1) := by decide +kernel
theorem d_M_areOpen_1 : decode b_M_areOpen 1 = .ok (.istore_n 2, 1) := by decide +kernel
theorem d_M_areOpen_2 : decode b_M_areOpen 2 = .ok (.iconst 0, 1) := by decide +kernel
theorem d_M_areOpen_3 : decode b_M_areOpen 3 = .ok (.istore_n 3, 1) := by decide +kernel
theorem d_M_areOpen_4 : decode b_M_areOpen 4 = .ok (.iload_n 3, 1) := by decide +kernel
theorem d_M_areOpen_5 : decode b_M_areOpen 5 = .ok (.aload_n 0, 1) := by decide +kernel
theorem d_M_areOpen_6 : decode b_M_areOpen 6 = .ok (.getfield 7, 3) := by decide +kernel
theorem d_M_areOpen_9 : decode b_M_areOpen 9 = .ok (.iconst 1, 1) := by decide +kernel
theorem d_M_areOpen_10 : decode b_M_areOpen 10 = .ok (.iaload, 1) := by decide +kernel
theorem d_M_areOpen_11 : decode b_M_areOpen 11 = .ok (.if_icmp .ge 35, 3) := by decide +kernel
theorem d_M_areOpen_14 : decode b_M_areOpen 14 = .ok (.iload_n 2, 1) := by decide +kernel
theorem d_M_areOpen_15 : decode b_M_areOpen 15 = .ok (.ifCond .eq 23, 3) := by decide +kernel
theorem d_M_areOpen_18 : decode b_M_areOpen 18 = .ok (.iload_n 1, 1) := by decide +kernel
theorem d_M_areOpen_19 : decode b_M_areOpen 19 = .ok (.iload_n 3, 1) := by decide +kernel
theorem d_M_areOpen_20 : decode b_M_areOpen 20 = .ok (.invokestatic 152, 3) := by decide +kernel
theorem d_M_areOpen_23 : decode b_M_areOpen 23 = .ok (.ifCond .eq 11, 3) := by decide +kernel
theorem d_M_areOpen_26 : decode b_M_areOpen 26 = .ok (.aload_n 0, 1) := by decide +kernel
theorem d_M_areOpen_27 : decode b_M_areOpen 27 = .ok (.iload_n 3, 1) := by decide +kernel
theorem d_M_areOpen_28 : decode b_M_areOpen 28 = .ok (.invokevirtual 156, 3) := by decide +kernel
theorem d_M_areOpen_31 : decode b_M_areOpen 31 = .ok (.ifCond .eq 7, 3) := by decide +kernel
theorem d_M_areOpen_34 : decode b_M_areOpen 34 = .ok (.iconst 1, 1) := by decide +kernel
theorem d_M_areOpen_35 : decode b_M_areOpen 35 = .ok (.goto 4, 3) := by decide +kernel
theorem d_M_areOpen_38 : decode b_M_areOpen 38 = .ok (.iconst 0, 1) := by decide +kernel
theorem d_M_areOpen_39 : decode b_M_areOpen 39 = .ok (.istore_n 2, 1) := by decide +kernel
theorem d_M_areOpen_40 : decode b_M_areOpen 40 = .ok (.iinc 3 1, 3) := by decide +kernel
theorem d_M_areOpen_43 : decode b_M_areOpen 43 = .ok (.goto (-39), 3) := by decide +kernel
theorem d_M_areOpen_46 : decode b_M_areOpen 46 = .ok (.iload_n 2, 1) := by decide +kernel
theorem d_M_areOpen_47 : decode b_M_areOpen 47 = .ok (.ireturn, 1) := by decide +kernel
theorem d_M_areRates_0 : decode b_M_areRates 0 = .ok (.iconst 1, 1) := by decide +kernel
theorem d_M_areRates_1 : decode b_M_areRates 1 = .ok (.istore_n 2, 1) := by decide +kernel
theorem d_M_areRates_2 : decode b_M_areRates 2 = .ok (.iconst 0, 1) := by decide +kernel
theorem d_M_areRates_3 : decode b_M_areRates 3 = .ok (.istore_n 3, 1) := by decide +kernel
theorem d_M_areRates_4 : decode b_M_areRates 4 = .ok (.iload_n 3, 1) := by decide +kernel
theorem d_M_areRates_5 : decode b_M_areRates 5 = .ok (.bipush 6, 2) := by decide +kernel
theorem d_M_areRates_7 : decode b_M_areRates 7 = .ok (.if_icmp .ge 41, 3) := by decide +kernel
theorem d_M_areRates_10 : decode b_M_areRates 10 = .ok (.iload_n 2, 1) := by decide +kernel
theorem d_M_areRates_11 : decode b_M_areRates 11 = .ok (.ifCond .eq 29, 3) := by decide +kernel
theorem d_M_areRates_14 : decode b_M_areRates 14 = .ok (.aload_n 0, 1) := by decide +kernel
theorem d_M_areRates_15 : decode b_M_areRates 15 = .ok (.getfield 19, 3) := by decide +kernel
theorem d_M_areRates_18 : decode b_M_areRates 18 = .ok (.bipush 40, 2) := by decide +kernel
theorem d_M_areRates_20 : decode b_M_areRates 20 = .ok (.iload_n 1, 1) := by decide +kernel
theorem d_M_areRates_21 : decode b_M_areRates 21 = .ok (.imul, 1) := by decide +kernel
theorem d_M_areRates_22 : decode b_M_areRates 22 = .ok (.iload_n 3, 1) := by decide +kernel
theorem d_M_areRates_23 : decode b_M_areRates 23 = .ok (.iadd, 1) := by decide +kernel
theorem d_M_areRates_24 : decode b_M_areRates 24 = .ok (.iaload, 1) := by decide +kernel
theorem d_M_areRates_25 : decode b_M_areRates 25 = .ok (.i2l, 1) := by decide +kernel
theorem d_M_areRates_26 : decode b_M_areRates 26 = .ok (.lconst 1, 1) := by decide +kernel
theorem d_M_areRates_27 : decode b_M_areRates 27 = .ok (.ldc2_w 292, 3) := by decide +kernel
theorem d_M_areRates_30 : decode b_M_areRates 30 = .ok (.invokestatic 65, 3) := by decide +kernel
theorem d_M_areRates_33 : decode b_M_areRates 33 = .ok (.ifCond .eq 7, 3) := by decide +kernel
theorem d_M_areRates_36 : decode b_M_areRates 36 = .ok (.iconst 1, 1) := by decide +kernel
theorem d_M_areRates_37 : decode b_M_areRates 37 = .ok (.goto 4, 3) := by decide +kernel
theorem d_M_areRates_40 : decode b_M_areRates 40 = .ok (.iconst 0, 1) := by decide +kernel
theorem d_M_areRates_41 : decode b_M_areRates 41 = .ok (.istore_n 2, 1) := by decide +kernel
theorem d_M_areRates_42 : decode b_M_areRates 42 = .ok (.iinc 3 1, 3) := by decide +kernel
theorem d_M_areRates_45 : decode b_M_areRates 45 = .ok (.goto (-41), 3) := by decide +kernel
theorem d_M_areRates_48 : decode b_M_areRates 48 = .ok (.iload_n 2, 1) := by decide +kernel
theorem d_M_areRates_49 : decode b_M_areRates 49 = .ok (.ireturn, 1) := by decide +kernel
theorem d_M_areTwo_0 : decode b_M_areTwo 0 = .ok (.aload_n 0, 1) := by decide +kernel
theorem d_M_areTwo_1 : decode b_M_areTwo 1 = .ok (.iload_n 1, 1) := by decide +kernel
theorem d_M_areTwo_2 : decode b_M_areTwo 2 = .ok (.invokevirtual 143, 3) := by decide +kernel
theorem d_M_areTwo_5 : decode b_M_areTwo 5 = .ok (.ifCond .eq 20, 3) := by decide +kernel
theorem d_M_areTwo_8 : decode b_M_areTwo 8 = .ok (.aload_n 0, 1) := by decide +kernel
theorem d_M_areTwo_9 : decode b_M_areTwo 9 = .ok (.iload_n 2, 1) := by decide +kernel
theorem d_M_areTwo_10 : decode b_M_areTwo 10 = .ok (.invokevirtual 143, 3) := by decide +kernel
theorem d_M_areTwo_13 : decode b_M_areTwo 13 = .ok (.ifCond .eq 12, 3) := by decide +kernel
theorem d_M_areTwo_16 : decode b_M_areTwo 16 = .ok (.iload_n 1, 1) := by decide +kernel
theorem d_M_areTwo_17 : decode b_M_areTwo 17 = .ok (.iload_n 2, 1) := by decide +kernel
theorem d_M_areTwo_18 : decode b_M_areTwo 18 = .ok (.if_icmp .eq 7, 3) := by decide +kernel
theorem d_M_areTwo_21 : decode b_M_areTwo 21 = .ok (.iconst 1, 1) := by decide +kernel
theorem d_M_areTwo_22 : decode b_M_areTwo 22 = .ok (.goto 4, 3) := by decide +kernel
theorem d_M_areTwo_25 : decode b_M_areTwo 25 = .ok (.iconst 0, 1) := by decide +kernel
theorem d_M_areTwo_26 : decode b_M_areTwo 26 = .ok (.ireturn, 1) := by decide +kernel
theorem d_M_asked_0 : decode b_M_asked 0 = .ok (.aload_n 0, 1) := by decide +kernel
theorem d_M_asked_1 : decode b_M_asked 1 = .ok (.getfield 60, 3) := by decide +kernel
theorem d_M_asked_4 : decode b_M_asked 4 = .ok (.ireturn, 1) := by decide +kernel
theorem d_M_at_0 : decode b_M_at 0 = .ok (.aload_n 0, 1) := by decide +kernel
theorem d_M_at_1 : decode b_M_at 1 = .ok (.iload_n 1, 1) := by decide +kernel
theorem d_M_at_2 : decode b_M_at 2 = .ok (.iload_n 2, 1) := by decide +kernel
theorem d_M_at_3 : decode b_M_at 3 = .ok (.invokevirtual 83, 3) := by decide +kernel
theorem d_M_at_6 : decode b_M_at 6 = .ok (.istore_n 3, 1) := by decide +kernel
theorem d_M_at_7 : decode b_M_at 7 = .ok (.iload_n 3, 1) := by decide +kernel
theorem d_M_at_8 : decode b_M_at 8 = .ok (.ifCond .eq 7, 3) := by decide +kernel
theorem d_M_at_11 : decode b_M_at 11 = .ok (.iload_n 3, 1) := by decide +kernel
theorem d_M_at_12 : decode b_M_at 12 = .ok (.goto 18, 3) := by decide +kernel
theorem d_M_at_15 : decode b_M_at 15 = .ok (.aload_n 0, 1) := by decide +kernel
theorem d_M_at_16 : decode b_M_at 16 = .ok (.aload_n 0, 1) := by decide +kernel
theorem d_M_at_17 : decode b_M_at 17 = .ok (.getfield 19, 3) := by decide +kernel
theorem d_M_at_20 : decode b_M_at 20 = .ok (.bipush 40, 2) := by decide +kernel
theorem d_M_at_22 : decode b_M_at 22 = .ok (.iload_n 1, 1) := by decide +kernel
theorem d_M_at_23 : decode b_M_at 23 = .ok (.imul, 1) := by decide +kernel
theorem d_M_at_24 : decode b_M_at 24 = .ok (.iload_n 2, 1) := by decide +kernel
theorem d_M_at_25 : decode b_M_at 25 = .ok (.iadd, 1) := by decide +kernel
theorem d_M_at_26 : decode b_M_at 26 = .ok (.iaload, 1) := by decide +kernel
theorem d_M_at_27 : decode b_M_at 27 = .ok (.invokevirtual 87, 3) := by decide +kernel
theorem d_M_at_30 : decode b_M_at 30 = .ok (.ireturn, 1) := by decide +kernel
theorem d_M_aunts_0 : decode b_M_aunts 0 = .ok (.iconst 0, 1) := by decide +kernel
theorem d_M_aunts_1 : decode b_M_aunts 1 = .ok (.istore_n 1, 1) := by decide +kernel
theorem d_M_aunts_2 : decode b_M_aunts 2 = .ok (.iconst 0, 1) := by decide +kernel
theorem d_M_aunts_3 : decode b_M_aunts 3 = .ok (.istore_n 2, 1) := by decide +kernel
theorem d_M_aunts_4 : decode b_M_aunts 4 = .ok (.iload_n 2, 1) := by decide +kernel
theorem d_M_aunts_5 : decode b_M_aunts 5 = .ok (.aload_n 0, 1) := by decide +kernel
theorem d_M_aunts_6 : decode b_M_aunts 6 = .ok (.getfield 136, 3) := by decide +kernel
theorem d_M_aunts_9 : decode b_M_aunts 9 = .ok (.if_icmp .ge 29, 3) := by decide +kernel
theorem d_M_aunts_12 : decode b_M_aunts 12 = .ok (.iload_n 1, 1) := by decide +kernel
theorem d_M_aunts_13 : decode b_M_aunts 13 = .ok (.aload_n 0, 1) := by decide +kernel
theorem d_M_aunts_14 : decode b_M_aunts 14 = .ok (.getfield 13, 3) := by decide +kernel
theorem d_M_aunts_17 : decode b_M_aunts 17 = .ok (.iload_n 2, 1) := by decide +kernel
theorem d_M_aunts_18 : decode b_M_aunts 18 = .ok (.iaload, 1) := by decide +kernel
theorem d_M_aunts_19 : decode b_M_aunts 19 = .ok (.invokestatic 339, 3) := by decide +kernel
theorem d_M_aunts_22 : decode b_M_aunts 22 = .ok (.ifCond .eq 7, 3) := by decide +kernel
theorem d_M_aunts_25 : decode b_M_aunts 25 = .ok (.iconst 1, 1) := by decide +kernel
theorem d_M_aunts_26 : decode b_M_aunts 26 = .ok (.goto 4, 3) := by decide +kernel
theorem d_M_aunts_29 : decode b_M_aunts 29 = .ok (.iconst 0, 1) := by decide +kernel
theorem d_M_aunts_30 : decode b_M_aunts 30 = .ok (.iadd, 1) := by decide +kernel
theorem d_M_aunts_31 : decode b_M_aunts 31 = .ok (.istore_n 1, 1) := by decide +kernel
theorem d_M_aunts_32 : decode b_M_aunts 32 = .ok (.iinc 2 1, 3) := by decide +kernel
theorem d_M_aunts_35 : decode b_M_aunts 35 = .ok (.goto (-31), 3) := by decide +kernel
theorem d_M_aunts_38 : decode b_M_aunts 38 = .ok (.iload_n 1, 1) := by decide +kernel
theorem d_M_aunts_39 : decode b_M_aunts 39 = .ok (.ireturn, 1) := by decide +kernel
theorem d_M_beginRings_0 : decode b_M_beginRings 0 = .ok (.iconst 0, 1) := by decide +kernel
theorem d_M_beginRings_1 : decode b_M_beginRings 1 = .ok (.istore_n 2, 1) := by decide +kernel
theorem d_M_beginRings_2 : decode b_M_beginRings 2 = .ok (.iload_n 2, 1) := by decide +kernel
theorem d_M_beginRings_3 : decode b_M_beginRings 3 = .ok (.bipush 12, 2) := by decide +kernel
theorem d_M_beginRings_5 : decode b_M_beginRings 5 = .ok (.if_icmp .ge 45, 3) := by decide +kernel
theorem d_M_beginRings_8 : decode b_M_beginRings 8 = .ok (.aload_n 0, 1) := by decide +kernel
theorem d_M_beginRings_9 : decode b_M_beginRings 9 = .ok (.getfield 41, 3) := by decide +kernel
theorem d_M_beginRings_12 : decode b_M_beginRings 12 = .ok (.iload_n 2, 1) := by decide +kernel
theorem d_M_beginRings_13 : decode b_M_beginRings 13 = .ok (.iload_n 2, 1) := by decide +kernel
theorem d_M_beginRings_14 : decode b_M_beginRings 14 = .ok (.aload_n 0, 1) := by decide +kernel
theorem d_M_beginRings_15 : decode b_M_beginRings 15 = .ok (.getfield 7, 3) := by decide +kernel
theorem d_M_beginRings_18 : decode b_M_beginRings 18 = .ok (.iconst 1, 1) := by decide +kernel
theorem d_M_beginRings_19 : decode b_M_beginRings 19 = .ok (.iaload, 1) := by decide +kernel
theorem d_M_beginRings_20 : decode b_M_beginRings 20 = .ok (.if_icmp .ge 22, 3) := by decide +kernel
theorem d_M_beginRings_23 : decode b_M_beginRings 23 = .ok (.aload_n 0, 1) := by decide +kernel
theorem d_M_beginRings_24 : decode b_M_beginRings 24 = .ok (.iload_n 2, 1) := by decide +kernel
theorem d_M_beginRings_25 : decode b_M_beginRings 25 = .ok (.iconst 2, 1) := by decide +kernel
theorem d_M_beginRings_26 : decode b_M_beginRings 26 = .ok (.invokevirtual 146, 3) := by decide +kernel
theorem d_M_beginRings_29 : decode b_M_beginRings 29 = .ok (.iload_n 1, 1) := by decide +kernel
theorem d_M_beginRings_30 : decode b_M_beginRings 30 = .ok (.if_icmp .ne 12, 3) := by decide +kernel
theorem d_M_beginRings_33 : decode b_M_beginRings 33 = .ok (.aload_n 0, 1) := by decide +kernel
theorem d_M_beginRings_34 : decode b_M_beginRings 34 = .ok (.iload_n 2, 1) := by decide +kernel
theorem d_M_beginRings_35 : decode b_M_beginRings 35 = .ok (.iconst 3, 1) := by decide +kernel
theorem d_M_beginRings_36 : decode b_M_beginRings 36 = .ok (.invokevirtual 146, 3) := by decide +kernel
theorem d_M_beginRings_39 : decode b_M_beginRings 39 = .ok (.goto 4, 3) := by decide +kernel
theorem d_M_beginRings_42 : decode b_M_beginRings 42 = .ok (.iconst 0, 1) := by decide +kernel
theorem d_M_beginRings_43 : decode b_M_beginRings 43 = .ok (.iastore, 1) := by decide +kernel
theorem d_M_beginRings_44 : decode b_M_beginRings 44 = .ok (.iinc 2 1, 3) := by decide +kernel
theorem d_M_beginRings_47 : decode b_M_beginRings 47 = .ok (.goto (-45), 3) := by decide +kernel
theorem d_M_beginRings_50 : decode b_M_beginRings 50 = .ok (.aload_n 0, 1) := by decide +kernel
theorem d_M_beginRings_51 : decode b_M_beginRings 51 = .ok (.iconst 0, 1) := by decide +kernel
theorem d_M_beginRings_52 : decode b_M_beginRings 52 = .ok (.putfield 243, 3) := by decide +kernel
theorem d_M_beginRings_55 : decode b_M_beginRings 55 = .ok (.return_, 1) := by decide +kernel
theorem d_M_between_0 : decode b_M_between 0 = .ok (.aload_n 0, 1) := by decide +kernel
theorem d_M_between_1 : decode b_M_between 1 = .ok (.iload_n 1, 1) := by decide +kernel
theorem d_M_between_2 : decode b_M_between 2 = .ok (.iload_n 2, 1) := by decide +kernel
theorem d_M_between_3 : decode b_M_between 3 = .ok (.invokevirtual 200, 3) := by decide +kernel
theorem d_M_between_6 : decode b_M_between 6 = .ok (.ifCond .eq 25, 3) := by decide +kernel
theorem d_M_between_9 : decode b_M_between 9 = .ok (.iload_n 3, 1) := by decide +kernel
theorem d_M_between_10 : decode b_M_between 10 = .ok (.i2l, 1) := by decide +kernel
theorem d_M_between_11 : decode b_M_between 11 = .ok (.lconst 0, 1) := by decide +kernel
theorem d_M_between_12 : decode b_M_between 12 = .ok (.ldc2_w 203, 3) := by decide +kernel
theorem d_M_between_15 : decode b_M_between 15 = .ok (.invokestatic 65, 3) := by decide +kernel
theorem d_M_between_18 : decode b_M_between 18 = .ok (.ifCond .eq 13, 3) := by decide +kernel
theorem d_M_between_21 : decode b_M_between 21 = .ok (.aload_n 0, 1) := by decide +kernel
theorem d_M_between_22 : decode b_M_between 22 = .ok (.iload_n 1, 1) := by decide +kernel
theorem d_M_between_23 : decode b_M_between 23 = .ok (.iload_n 2, 1) := by decide +kernel
theorem d_M_between_24 : decode b_M_between 24 = .ok (.iload_n 3, 1) := by decide +kernel
theorem d_M_between_25 : decode b_M_between 25 = .ok (.invokevirtual 216, 3) := by decide +kernel
theorem d_M_between_28 : decode b_M_between 28 = .ok (.goto 4, 3) := by decide +kernel
theorem d_M_between_31 : decode b_M_between 31 = .ok (.iconst (-1), 1) := by decide +kernel
theorem d_M_between_32 : decode b_M_between 32 = .ok (.ireturn, 1) := by decide +kernel
theorem d_M_bits_0 : decode b_M_bits 0 = .ok (.iconst 0, 1) := by decide +kernel
theorem d_M_bits_1 : decode b_M_bits 1 = .ok (.istore_n 1, 1) := by decide +kernel
theorem d_M_bits_2 : decode b_M_bits 2 = .ok (.iconst 0, 1) := by decide +kernel
theorem d_M_bits_3 : decode b_M_bits 3 = .ok (.istore_n 2, 1) := by decide +kernel
theorem d_M_bits_4 : decode b_M_bits 4 = .ok (.iload_n 2, 1) := by decide +kernel
theorem d_M_bits_5 : decode b_M_bits 5 = .ok (.bipush 12, 2) := by decide +kernel
theorem d_M_bits_7 : decode b_M_bits 7 = .ok (.if_icmp .ge 17, 3) := by decide +kernel
theorem d_M_bits_10 : decode b_M_bits 10 = .ok (.iload_n 1, 1) := by decide +kernel
theorem d_M_bits_11 : decode b_M_bits 11 = .ok (.iload_n 0, 1) := by decide +kernel
theorem d_M_bits_12 : decode b_M_bits 12 = .ok (.iload_n 2, 1) := by decide +kernel
theorem d_M_bits_13 : decode b_M_bits 13 = .ok (.ishr, 1) := by decide +kernel
theorem d_M_bits_14 : decode b_M_bits 14 = .ok (.iconst 1, 1) := by decide +kernel
theorem d_M_bits_15 : decode b_M_bits 15 = .ok (.iand, 1) := by decide +kernel
theorem d_M_bits_16 : decode b_M_bits 16 = .ok (.iadd, 1) := by decide +kernel
theorem d_M_bits_17 : decode b_M_bits 17 = .ok (.istore_n 1, 1) := by decide +kernel
theorem d_M_bits_18 : decode b_M_bits 18 = .ok (.iinc 2 1, 3) := by decide +kernel
theorem d_M_bits_21 : decode b_M_bits 21 = .ok (.goto (-17), 3) := by decide +kernel
theorem d_M_bits_24 : decode b_M_bits 24 = .ok (.iload_n 1, 1) := by decide +kernel
theorem d_M_bits_25 : decode b_M_bits 25 = .ok (.ireturn, 1) := by decide +kernel
theorem d_M_blushes_0 : decode b_M_blushes 0 = .ok (.aload_n 0, 1) := by decide +kernel
theorem d_M_blushes_1 : decode b_M_blushes 1 = .ok (.iload_n 1, 1) := by decide +kernel
theorem d_M_blushes_2 : decode b_M_blushes 2 = .ok (.invokevirtual 320, 3) := by decide +kernel
theorem d_M_blushes_5 : decode b_M_blushes 5 = .ok (.istore_n 2, 1) := by decide +kernel
theorem d_M_blushes_6 : decode b_M_blushes 6 = .ok (.iload_n 2, 1) := by decide +kernel
theorem d_M_blushes_7 : decode b_M_blushes 7 = .ok (.ifCond .eq 5, 3) := by decide +kernel
theorem d_M_blushes_10 : decode b_M_blushes 10 = .ok (.iload_n 2, 1) := by decide +kernel
theorem d_M_blushes_11 : decode b_M_blushes 11 = .ok (.ireturn, 1) := by decide +kernel
theorem d_M_blushes_12 : decode b_M_blushes 12 = .ok (.aload_n 0, 1) := by decide +kernel
theorem d_M_blushes_13 : decode b_M_blushes 13 = .ok (.aload_n 0, 1) := by decide +kernel
theorem d_M_blushes_14 : decode b_M_blushes 14 = .ok (.getfield 308, 3) := by decide +kernel
theorem d_M_blushes_17 : decode b_M_blushes 17 = .ok (.putfield 60, 3) := by decide +kernel
theorem d_M_blushes_20 : decode b_M_blushes 20 = .ok (.aload_n 0, 1) := by decide +kernel
theorem d_M_blushes_21 : decode b_M_blushes 21 = .ok (.getfield 305, 3) := by decide +kernel
theorem d_M_blushes_24 : decode b_M_blushes 24 = .ok (.ireturn, 1) := by decide +kernel
theorem d_M_canMeet_0 : decode b_M_canMeet 0 = .ok (.iconst 0, 1) := by decide +kernel
theorem d_M_canMeet_1 : decode b_M_canMeet 1 = .ok (.istore_n 2, 1) := by decide +kernel
theorem d_M_canMeet_2 : decode b_M_canMeet 2 = .ok (.iconst 0, 1) := by decide +kernel
theorem d_M_canMeet_3 : decode b_M_canMeet 3 = .ok (.istore_n 3, 1) := by decide +kernel
theorem d_M_canMeet_4 : decode b_M_canMeet 4 = .ok (.iload_n 3, 1) := by decide +kernel
theorem d_M_canMeet_5 : decode b_M_canMeet 5 = .ok (.bipush 16, 2) := by decide +kernel
theorem d_M_canMeet_7 : decode b_M_canMeet 7 = .ok (.if_icmp .ge 16, 3) := by decide +kernel
theorem d_M_canMeet_10 : decode b_M_canMeet 10 = .ok (.aload_n 0, 1) := by decide +kernel
theorem d_M_canMeet_11 : decode b_M_canMeet 11 = .ok (.getfield 53, 3) := by decide +kernel
theorem d_M_canMeet_14 : decode b_M_canMeet 14 = .ok (.iload_n 3, 1) := by decide +kernel
theorem d_M_canMeet_15 : decode b_M_canMeet 15 = .ok (.iconst (-1), 1) := by decide +kernel
theorem d_M_canMeet_16 : decode b_M_canMeet 16 = .ok (.iastore, 1) := by decide +kernel
theorem d_M_canMeet_17 : decode b_M_canMeet 17 = .ok (.iinc 3 1, 3) := by decide +kernel
theorem d_M_canMeet_20 : decode b_M_canMeet 20 = .ok (.goto (-16), 3) := by decide +kernel
theorem d_M_canMeet_23 : decode b_M_canMeet 23 = .ok (.iload_n 2, 1) := by decide +kernel
theorem d_M_canMeet_24 : decode b_M_canMeet 24 = .ok (.ifCond .lt 81, 3) := by decide +kernel
theorem d_M_canMeet_27 : decode b_M_canMeet 27 = .ok (.iload_n 2, 1) := by decide +kernel
theorem d_M_canMeet_28 : decode b_M_canMeet 28 = .ok (.aload_n 0, 1) := by decide +kernel
theorem d_M_canMeet_29 : decode b_M_canMeet 29 = .ok (.getfield 277, 3) := by decide +kernel
theorem d_M_canMeet_32 : decode b_M_canMeet 32 = .ok (.if_icmp .ge 73, 3) := by decide +kernel
theorem d_M_canMeet_35 : decode b_M_canMeet 35 = .ok (.aload_n 0, 1) := by decide +kernel
theorem d_M_canMeet_36 : decode b_M_canMeet 36 = .ok (.getfield 53, 3) := by decide +kernel
theorem d_M_canMeet_39 : decode b_M_canMeet 39 = .ok (.iload_n 2, 1) := by decide +kernel
theorem d_M_canMeet_40 : decode b_M_canMeet 40 = .ok (.dup2, 1) := by decide +kernel
theorem d_M_canMeet_41 : decode b_M_canMeet 41 = .ok (.iaload, 1) := by decide +kernel
theorem d_M_canMeet_42 : decode b_M_canMeet 42 = .ok (.iconst 1, 1) := by decide +kernel
theorem d_M_canMeet_43 : decode b_M_canMeet 43 = .ok (.iadd, 1) := by decide +kernel
theorem d_M_canMeet_44 : decode b_M_canMeet 44 = .ok (.iastore, 1) := by decide +kernel
theorem d_M_canMeet_45 : decode b_M_canMeet 45 = .ok (.aload_n 0, 1) := by decide +kernel
theorem d_M_canMeet_46 : decode b_M_canMeet 46 = .ok (.getfield 53, 3) := by decide +kernel
theorem d_M_canMeet_49 : decode b_M_canMeet 49 = .ok (.iload_n 2, 1) := by decide +kernel
theorem d_M_canMeet_50 : decode b_M_canMeet 50 = .ok (.iaload, 1) := by decide +kernel
theorem d_M_canMeet_51 : decode b_M_canMeet 51 = .ok (.iload_n 1, 1) := by decide +kernel
theorem d_M_canMeet_52 : decode b_M_canMeet 52 = .ok (.if_icmp .ge 24, 3) := by decide +kernel
theorem d_M_canMeet_55 : decode b_M_canMeet 55 = .ok (.aload_n 0, 1) := by decide +kernel
theorem d_M_canMeet_56 : decode b_M_canMeet 56 = .ok (.iload_n 2, 1) := by decide +kernel
theorem d_M_canMeet_57 : decode b_M_canMeet 57 = .ok (.invokevirtual 286, 3) := by decide +kernel
theorem d_M_canMeet_60 : decode b_M_canMeet 60 = .ok (.ifCond .eq 16, 3) := by decide +kernel
theorem d_M_canMeet_63 : decode b_M_canMeet 63 = .ok (.aload_n 0, 1) := by decide +kernel
theorem d_M_canMeet_64 : decode b_M_canMeet 64 = .ok (.getfield 53, 3) := by decide +kernel
theorem d_M_canMeet_67 : decode b_M_canMeet 67 = .ok (.iload_n 2, 1) := by decide +kernel
theorem d_M_canMeet_68 : decode b_M_canMeet 68 = .ok (.dup2, 1) := by decide +kernel
theorem d_M_canMeet_69 : decode b_M_canMeet 69 = .ok (.iaload, 1) := by decide +kernel
theorem d_M_canMeet_70 : decode b_M_canMeet 70 = .ok (.iconst 1, 1) := by decide +kernel
theorem d_M_canMeet_71 : decode b_M_canMeet 71 = .ok (.iadd, 1) := by decide +kernel
theorem d_M_canMeet_72 : decode b_M_canMeet 72 = .ok (.iastore, 1) := by decide +kernel
theorem d_M_canMeet_73 : decode b_M_canMeet 73 = .ok (.goto (-28), 3) := by decide +kernel
theorem d_M_canMeet_76 : decode b_M_canMeet 76 = .ok (.aload_n 0, 1) := by decide +kernel
theorem d_M_canMeet_77 : decode b_M_canMeet 77 = .ok (.getfield 53, 3) := by decide +kernel
theorem d_M_canMeet_80 : decode b_M_canMeet 80 = .ok (.iload_n 2, 1) := by decide +kernel
theorem d_M_canMeet_81 : decode b_M_canMeet 81 = .ok (.iaload, 1) := by decide +kernel
theorem d_M_canMeet_82 : decode b_M_canMeet 82 = .ok (.iload_n 1, 1) := by decide +kernel
theorem d_M_canMeet_83 : decode b_M_canMeet 83 = .ok (.if_icmp .ge 9, 3) := by decide +kernel
theorem d_M_canMeet_86 : decode b_M_canMeet 86 = .ok (.iinc 2 1, 3) := by decide +kernel
theorem d_M_canMeet_89 : decode b_M_canMeet 89 = .ok (.goto (-66), 3) := by decide +kernel
theorem d_M_canMeet_92 : decode b_M_canMeet 92 = .ok (.aload_n 0, 1) := by decide +kernel
theorem d_M_canMeet_93 : decode b_M_canMeet 93 = .ok (.getfield 53, 3) := by decide +kernel
theorem d_M_canMeet_96 : decode b_M_canMeet 96 = .ok (.iload_n 2, 1) := by decide +kernel
theorem d_M_canMeet_97 : decode b_M_canMeet 97 = .ok (.iconst (-1), 1) := by decide +kernel
theorem d_M_canMeet_98 : decode b_M_canMeet 98 = .ok (.iastore, 1) := by decide +kernel
theorem d_M_canMeet_99 : decode b_M_canMeet 99 = .ok (.iinc 2 (-1), 3) := by decide +kernel
theorem d_M_canMeet_102 : decode b_M_canMeet 102 = .ok (.goto (-79), 3) := by decide +kernel
theorem d_M_canMeet_105 : decode b_M_canMeet 105 = .ok (.iload_n 2, 1) := by decide +kernel
theorem d_M_canMeet_106 : decode b_M_canMeet 106 = .ok (.aload_n 0, 1) := by decide +kernel
theorem d_M_canMeet_107 : decode b_M_canMeet 107 = .ok (.getfield 277, 3) := by decide +kernel
theorem d_M_canMeet_110 : decode b_M_canMeet 110 = .ok (.if_icmp .ne 7, 3) := by decide +kernel
theorem d_M_canMeet_113 : decode b_M_canMeet 113 = .ok (.iconst 1, 1) := by decide +kernel
theorem d_M_canMeet_114 : decode b_M_canMeet 114 = .ok (.goto 4, 3) := by decide +kernel
theorem d_M_canMeet_117 : decode b_M_canMeet 117 = .ok (.iconst 0, 1) := by decide +kernel
theorem d_M_canMeet_118 : decode b_M_canMeet 118 = .ok (.ireturn, 1) := by decide +kernel
theorem d_M_clear_0 : decode b_M_clear 0 = .ok (.iload_n 1, 1) := by decide +kernel
theorem d_M_clear_1 : decode b_M_clear 1 = .ok (.invokestatic 71, 3) := by decide +kernel
theorem d_M_clear_4 : decode b_M_clear 4 = .ok (.ifCond .ne 5, 3) := by decide +kernel
theorem d_M_clear_7 : decode b_M_clear 7 = .ok (.iconst (-1), 1) := by decide +kernel
theorem d_M_clear_8 : decode b_M_clear 8 = .ok (.ireturn, 1) := by decide +kernel
theorem d_M_clear_9 : decode b_M_clear 9 = .ok (.aload_n 0, 1) := by decide +kernel
theorem d_M_clear_10 : decode b_M_clear 10 = .ok (.getfield 16, 3) := by decide +kernel
theorem d_M_clear_13 : decode b_M_clear 13 = .ok (.iload_n 1, 1) := by decide +kernel
theorem d_M_clear_14 : decode b_M_clear 14 = .ok (.iaload, 1) := by decide +kernel
theorem d_M_clear_15 : decode b_M_clear 15 = .ok (.ifCond .ge 9, 3) := by decide +kernel
theorem d_M_clear_18 : decode b_M_clear 18 = .ok (.aload_n 0, 1) := by decide +kernel
theorem d_M_clear_19 : decode b_M_clear 19 = .ok (.iconst 1, 1) := by decide +kernel
theorem d_M_clear_20 : decode b_M_clear 20 = .ok (.invokevirtual 75, 3) := by decide +kernel
theorem d_M_clear_23 : decode b_M_clear 23 = .ok (.ireturn, 1) := by decide +kernel
theorem d_M_clear_24 : decode b_M_clear 24 = .ok (.aload_n 0, 1) := by decide +kernel
theorem d_M_clear_25 : decode b_M_clear 25 = .ok (.iload_n 1, 1) := by decide +kernel
theorem d_M_clear_26 : decode b_M_clear 26 = .ok (.invokevirtual 234, 3) := by decide +kernel
theorem d_M_clear_29 : decode b_M_clear 29 = .ok (.ifCond .ne 9, 3) := by decide +kernel
theorem d_M_clear_32 : decode b_M_clear 32 = .ok (.aload_n 0, 1) := by decide +kernel
theorem d_M_clear_33 : decode b_M_clear 33 = .ok (.iconst 3, 1) := by decide +kernel
theorem d_M_clear_34 : decode b_M_clear 34 = .ok (.invokevirtual 75, 3) := by decide +kernel
theorem d_M_clear_37 : decode b_M_clear 37 = .ok (.ireturn, 1) := by decide +kernel
theorem d_M_clear_38 : decode b_M_clear 38 = .ok (.aload_n 0, 1) := by decide +kernel
theorem d_M_clear_39 : decode b_M_clear 39 = .ok (.iload_n 1, 1) := by decide +kernel
theorem d_M_clear_40 : decode b_M_clear 40 = .ok (.invokevirtual 237, 3) := by decide +kernel
theorem d_M_clear_43 : decode b_M_clear 43 = .ok (.ifCond .ne 6, 3) := by decide +kernel
theorem d_M_clear_46 : decode b_M_clear 46 = .ok (.bipush (-4), 2) := by decide +kernel
theorem d_M_clear_48 : decode b_M_clear 48 = .ok (.ireturn, 1) := by decide +kernel
theorem d_M_clear_49 : decode b_M_clear 49 = .ok (.aload_n 0, 1) := by decide +kernel
theorem d_M_clear_50 : decode b_M_clear 50 = .ok (.invokevirtual 207, 3) := by decide +kernel
theorem d_M_clear_53 : decode b_M_clear 53 = .ok (.ifCond .eq 6, 3) := by decide +kernel
theorem d_M_clear_56 : decode b_M_clear 56 = .ok (.bipush (-2), 2) := by decide +kernel
theorem d_M_clear_58 : decode b_M_clear 58 = .ok (.ireturn, 1) := by decide +kernel
theorem d_M_clear_59 : decode b_M_clear 59 = .ok (.aload_n 0, 1) := by decide +kernel
theorem d_M_clear_60 : decode b_M_clear 60 = .ok (.invokevirtual 210, 3) := by decide +kernel
theorem d_M_clear_63 : decode b_M_clear 63 = .ok (.bipush 99, 2) := by decide +kernel
theorem d_M_clear_65 : decode b_M_clear 65 = .ok (.istore_n 2, 1) := by decide +kernel
theorem d_M_clear_66 : decode b_M_clear 66 = .ok (.iconst 0, 1) := by decide +kernel
theorem d_M_clear_67 : decode b_M_clear 67 = .ok (.istore_n 3, 1) := by decide +kernel
theorem d_M_clear_68 : decode b_M_clear 68 = .ok (.iload_n 3, 1) := by decide +kernel
theorem d_M_clear_69 : decode b_M_clear 69 = .ok (.aload_n 0, 1) := by decide +kernel
theorem d_M_clear_70 : decode b_M_clear 70 = .ok (.getfield 16, 3) := by decide +kernel
theorem d_M_clear_73 : decode b_M_clear 73 = .ok (.iload_n 1, 1) := by decide +kernel
theorem d_M_clear_74 : decode b_M_clear 74 = .ok (.iaload, 1) := by decide +kernel
theorem d_M_clear_75 : decode b_M_clear 75 = .ok (.if_icmp .ge 40, 3) := by decide +kernel
theorem d_M_clear_78 : decode b_M_clear 78 = .ok (.aload_n 0, 1) := by decide +kernel
theorem d_M_clear_79 : decode b_M_clear 79 = .ok (.aload_n 0, 1) := by decide +kernel
theorem d_M_clear_80 : decode b_M_clear 80 = .ok (.getfield 19, 3) := by decide +kernel
theorem d_M_clear_83 : decode b_M_clear 83 = .ok (.bipush 40, 2) := by decide +kernel
theorem d_M_clear_85 : decode b_M_clear 85 = .ok (.iload_n 1, 1) := by decide +kernel
theorem d_M_clear_86 : decode b_M_clear 86 = .ok (.imul, 1) := by decide +kernel
theorem d_M_clear_87 : decode b_M_clear 87 = .ok (.iload_n 3, 1) := by decide +kernel
theorem d_M_clear_88 : decode b_M_clear 88 = .ok (.iadd, 1) := by decide +kernel
theorem d_M_clear_89 : decode b_M_clear 89 = .ok (.iaload, 1) := by decide +kernel
theorem d_M_clear_90 : decode b_M_clear 90 = .ok (.iconst 3, 1) := by decide +kernel
theorem d_M_clear_91 : decode b_M_clear 91 = .ok (.invokevirtual 146, 3) := by decide +kernel
theorem d_M_clear_94 : decode b_M_clear 94 = .ok (.istore 4, 2) := by decide +kernel
theorem d_M_clear_96 : decode b_M_clear 96 = .ok (.iload 4, 2) := by decide +kernel
theorem d_M_clear_98 : decode b_M_clear 98 = .ok (.iload_n 2, 1) := by decide +kernel
theorem d_M_clear_99 : decode b_M_clear 99 = .ok (.if_icmp .ge 8, 3) := by decide +kernel
theorem d_M_clear_102 : decode b_M_clear 102 = .ok (.iload 4, 2) := by decide +kernel
theorem d_M_clear_104 : decode b_M_clear 104 = .ok (.goto 4, 3) := by decide +kernel
theorem d_M_clear_107 : decode b_M_clear 107 = .ok (.iload_n 2, 1) := by decide +kernel
theorem d_M_clear_108 : decode b_M_clear 108 = .ok (.istore_n 2, 1) := by decide +kernel
theorem d_M_clear_109 : decode b_M_clear 109 = .ok (.iinc 3 1, 3) := by decide +kernel
theorem d_M_clear_112 : decode b_M_clear 112 = .ok (.goto (-44), 3) := by decide +kernel
theorem d_M_clear_115 : decode b_M_clear 115 = .ok (.iconst 0, 1) := by decide +kernel
theorem d_M_clear_116 : decode b_M_clear 116 = .ok (.istore_n 3, 1) := by decide +kernel
theorem d_M_clear_117 : decode b_M_clear 117 = .ok (.iload_n 3, 1) := by decide +kernel
theorem d_M_clear_118 : decode b_M_clear 118 = .ok (.aload_n 0, 1) := by decide +kernel
theorem d_M_clear_119 : decode b_M_clear 119 = .ok (.getfield 16, 3) := by decide +kernel
theorem d_M_clear_122 : decode b_M_clear 122 = .ok (.iload_n 1, 1) := by decide +kernel
theorem d_M_clear_123 : decode b_M_clear 123 = .ok (.iaload, 1) := by decide +kernel
theorem d_M_clear_124 : decode b_M_clear 124 = .ok (.if_icmp .ge 42, 3) := by decide +kernel
theorem d_M_clear_127 : decode b_M_clear 127 = .ok (.aload_n 0, 1) := by decide +kernel
theorem d_M_clear_128 : decode b_M_clear 128 = .ok (.aload_n 0, 1) := by decide +kernel
theorem d_M_clear_129 : decode b_M_clear 129 = .ok (.getfield 19, 3) := by decide +kernel
theorem d_M_clear_132 : decode b_M_clear 132 = .ok (.bipush 40, 2) := by decide +kernel
theorem d_M_clear_134 : decode b_M_clear 134 = .ok (.iload_n 1, 1) := by decide +kernel
theorem d_M_clear_135 : decode b_M_clear 135 = .ok (.imul, 1) := by decide +kernel
theorem d_M_clear_136 : decode b_M_clear 136 = .ok (.iload_n 3, 1) := by decide +kernel
theorem d_M_clear_137 : decode b_M_clear 137 = .ok (.iadd, 1) := by decide +kernel
theorem d_M_clear_138 : decode b_M_clear 138 = .ok (.iaload, 1) := by decide +kernel
theorem d_M_clear_139 : decode b_M_clear 139 = .ok (.aload_n 0, 1) := by decide +kernel
theorem d_M_clear_140 : decode b_M_clear 140 = .ok (.aload_n 0, 1) := by decide +kernel
theorem d_M_clear_141 : decode b_M_clear 141 = .ok (.getfield 19, 3) := by decide +kernel
theorem d_M_clear_144 : decode b_M_clear 144 = .ok (.bipush 40, 2) := by decide +kernel
theorem d_M_clear_146 : decode b_M_clear 146 = .ok (.iload_n 1, 1) := by decide +kernel
theorem d_M_clear_147 : decode b_M_clear 147 = .ok (.imul, 1) := by decide +kernel
theorem d_M_clear_148 : decode b_M_clear 148 = .ok (.iload_n 3, 1) := by decide +kernel
theorem d_M_clear_149 : decode b_M_clear 149 = .ok (.iadd, 1) := by decide +kernel
theorem d_M_clear_150 : decode b_M_clear 150 = .ok (.iaload, 1) := by decide +kernel
theorem d_M_clear_151 : decode b_M_clear 151 = .ok (.iconst 3, 1) := by decide +kernel
theorem d_M_clear_152 : decode b_M_clear 152 = .ok (.invokevirtual 146, 3) := by decide +kernel
theorem d_M_clear_155 : decode b_M_clear 155 = .ok (.iload_n 2, 1) := by decide +kernel
theorem d_M_clear_156 : decode b_M_clear 156 = .ok (.isub, 1) := by decide +kernel
theorem d_M_clear_157 : decode b_M_clear 157 = .ok (.invokevirtual 219, 3) := by decide +kernel
theorem d_M_clear_160 : decode b_M_clear 160 = .ok (.iinc 3 1, 3) := by decide +kernel
theorem d_M_clear_163 : decode b_M_clear 163 = .ok (.goto (-46), 3) := by decide +kernel
theorem d_M_clear_166 : decode b_M_clear 166 = .ok (.iload_n 2, 1) := by decide +kernel
theorem d_M_clear_167 : decode b_M_clear 167 = .ok (.ireturn, 1) := by decide +kernel
theorem d_M_closes_0 : decode b_M_closes 0 = .ok (.aload_n 0, 1) := by decide +kernel
theorem d_M_closes_1 : decode b_M_closes 1 = .ok (.aload_n 0, 1) := by decide +kernel
theorem d_M_closes_2 : decode b_M_closes 2 = .ok (.getfield 44, 3) := by decide +kernel
theorem d_M_closes_5 : decode b_M_closes 5 = .ok (.aload_n 0, 1) := by decide +kernel
theorem d_M_closes_6 : decode b_M_closes 6 = .ok (.getfield 243, 3) := by decide +kernel
theorem d_M_closes_9 : decode b_M_closes 9 = .ok (.iconst 1, 1) := by decide +kernel
theorem d_M_closes_10 : decode b_M_closes 10 = .ok (.isub, 1) := by decide +kernel
theorem d_M_closes_11 : decode b_M_closes 11 = .ok (.iaload, 1) := by decide +kernel
theorem d_M_closes_12 : decode b_M_closes 12 = .ok (.iconst 1, 1) := by decide +kernel
theorem d_M_closes_13 : decode b_M_closes 13 = .ok (.invokevirtual 146, 3) := by decide +kernel
theorem d_M_closes_16 : decode b_M_closes 16 = .ok (.aload_n 0, 1) := by decide +kernel
theorem d_M_closes_17 : decode b_M_closes 17 = .ok (.aload_n 0, 1) := by decide +kernel
theorem d_M_closes_18 : decode b_M_closes 18 = .ok (.getfield 44, 3) := by decide +kernel
theorem d_M_closes_21 : decode b_M_closes 21 = .ok (.iconst 0, 1) := by decide +kernel
theorem d_M_closes_22 : decode b_M_closes 22 = .ok (.iaload, 1) := by decide +kernel
theorem d_M_closes_23 : decode b_M_closes 23 = .ok (.iconst 0, 1) := by decide +kernel
theorem d_M_closes_24 : decode b_M_closes 24 = .ok (.invokevirtual 146, 3) := by decide +kernel
theorem d_M_closes_27 : decode b_M_closes 27 = .ok (.if_icmp .ne 7, 3) := by decide +kernel
theorem d_M_closes_30 : decode b_M_closes 30 = .ok (.iconst 1, 1) := by decide +kernel
theorem d_M_closes_31 : decode b_M_closes 31 = .ok (.goto 4, 3) := by decide +kernel
theorem d_M_closes_34 : decode b_M_closes 34 = .ok (.iconst 0, 1) := by decide +kernel
theorem d_M_closes_35 : decode b_M_closes 35 = .ok (.ireturn, 1) := by decide +kernel
theorem d_M_copy_0 : decode b_M_copy 0 = .ok (.iload_n 1, 1) := by decide +kernel
theorem d_M_copy_1 : decode b_M_copy 1 = .ok (.invokestatic 71, 3) := by decide +kernel
theorem d_M_copy_4 : decode b_M_copy 4 = .ok (.ifCond .eq 10, 3) := by decide +kernel
theorem d_M_copy_7 : decode b_M_copy 7 = .ok (.iload_n 3, 1) := by decide +kernel
theorem d_M_copy_8 : decode b_M_copy 8 = .ok (.invokestatic 71, 3) := by decide +kernel
theorem d_M_copy_11 : decode b_M_copy 11 = .ok (.ifCond .ne 5, 3) := by decide +kernel
theorem d_M_copy_14 : decode b_M_copy 14 = .ok (.iconst (-1), 1) := by decide +kernel
theorem d_M_copy_15 : decode b_M_copy 15 = .ok (.ireturn, 1) := by decide +kernel
theorem d_M_copy_16 : decode b_M_copy 16 = .ok (.iload 5, 2) := by decide +kernel
theorem d_M_copy_18 : decode b_M_copy 18 = .ok (.ifCond .ge 9, 3) := by decide +kernel
theorem d_M_copy_21 : decode b_M_copy 21 = .ok (.aload_n 0, 1) := by decide +kernel
theorem d_M_copy_22 : decode b_M_copy 22 = .ok (.iconst 5, 1) := by decide +kernel
theorem d_M_copy_23 : decode b_M_copy 23 = .ok (.invokevirtual 75, 3) := by decide +kernel
theorem d_M_copy_26 : decode b_M_copy 26 = .ok (.ireturn, 1) := by decide +kernel
theorem d_M_copy_27 : decode b_M_copy 27 = .ok (.aload_n 0, 1) := by decide +kernel
theorem d_M_copy_28 : decode b_M_copy 28 = .ok (.getfield 16, 3) := by decide +kernel
theorem d_M_copy_31 : decode b_M_copy 31 = .ok (.iload_n 1, 1) := by decide +kernel
theorem d_M_copy_32 : decode b_M_copy 32 = .ok (.iaload, 1) := by decide +kernel
theorem d_M_copy_33 : decode b_M_copy 33 = .ok (.ifCond .lt 12, 3) := by decide +kernel
theorem d_M_copy_36 : decode b_M_copy 36 = .ok (.aload_n 0, 1) := by decide +kernel
theorem d_M_copy_37 : decode b_M_copy 37 = .ok (.getfield 16, 3) := by decide +kernel
theorem d_M_copy_40 : decode b_M_copy 40 = .ok (.iload_n 3, 1) := by decide +kernel
theorem d_M_copy_41 : decode b_M_copy 41 = .ok (.iaload, 1) := by decide +kernel
theorem d_M_copy_42 : decode b_M_copy 42 = .ok (.ifCond .ge 9, 3) := by decide +kernel
theorem d_M_copy_45 : decode b_M_copy 45 = .ok (.aload_n 0, 1) := by decide +kernel
theorem d_M_copy_46 : decode b_M_copy 46 = .ok (.iconst 1, 1) := by decide +kernel
theorem d_M_copy_47 : decode b_M_copy 47 = .ok (.invokevirtual 75, 3) := by decide +kernel
theorem d_M_copy_50 : decode b_M_copy 50 = .ok (.ireturn, 1) := by decide +kernel
theorem d_M_copy_51 : decode b_M_copy 51 = .ok (.aload_n 0, 1) := by decide +kernel
theorem d_M_copy_52 : decode b_M_copy 52 = .ok (.iload_n 1, 1) := by decide +kernel
theorem d_M_copy_53 : decode b_M_copy 53 = .ok (.iload_n 2, 1) := by decide +kernel
theorem d_M_copy_54 : decode b_M_copy 54 = .ok (.iload 5, 2) := by decide +kernel
theorem d_M_copy_56 : decode b_M_copy 56 = .ok (.invokevirtual 90, 3) := by decide +kernel
theorem d_M_copy_59 : decode b_M_copy 59 = .ok (.ifCond .eq 15, 3) := by decide +kernel
theorem d_M_copy_62 : decode b_M_copy 62 = .ok (.aload_n 0, 1) := by decide +kernel
theorem d_M_copy_63 : decode b_M_copy 63 = .ok (.iload_n 3, 1) := by decide +kernel
theorem d_M_copy_64 : decode b_M_copy 64 = .ok (.iload 4, 2) := by decide +kernel
theorem d_M_copy_66 : decode b_M_copy 66 = .ok (.iload 5, 2) := by decide +kernel
theorem d_M_copy_68 : decode b_M_copy 68 = .ok (.invokevirtual 90, 3) := by decide +kernel
theorem d_M_copy_71 : decode b_M_copy 71 = .ok (.ifCond .ne 9, 3) := by decide +kernel
theorem d_M_copy_74 : decode b_M_copy 74 = .ok (.aload_n 0, 1) := by decide +kernel
theorem d_M_copy_75 : decode b_M_copy 75 = .ok (.iconst 2, 1) := by decide +kernel
theorem d_M_copy_76 : decode b_M_copy 76 = .ok (.invokevirtual 75, 3) := by decide +kernel
theorem d_M_copy_79 : decode b_M_copy 79 = .ok (.ireturn, 1) := by decide +kernel
theorem d_M_copy_80 : decode b_M_copy 80 = .ok (.iload_n 2, 1) := by decide +kernel
theorem d_M_copy_81 : decode b_M_copy 81 = .ok (.iload 4, 2) := by decide +kernel
theorem d_M_copy_83 : decode b_M_copy 83 = .ok (.if_icmp .ge 7, 3) := by decide +kernel
theorem d_M_copy_86 : decode b_M_copy 86 = .ok (.iconst 1, 1) := by decide +kernel
theorem d_M_copy_87 : decode b_M_copy 87 = .ok (.goto 4, 3) := by decide +kernel
theorem d_M_copy_90 : decode b_M_copy 90 = .ok (.iconst 0, 1) := by decide +kernel
theorem d_M_copy_91 : decode b_M_copy 91 = .ok (.istore 6, 2) := by decide +kernel
theorem d_M_copy_93 : decode b_M_copy 93 = .ok (.iconst 0, 1) := by decide +kernel
theorem d_M_copy_94 : decode b_M_copy 94 = .ok (.istore 7, 2) := by decide +kernel
theorem d_M_copy_96 : decode b_M_copy 96 = .ok (.iload 7, 2) := by decide +kernel
theorem d_M_copy_98 : decode b_M_copy 98 = .ok (.iload 5, 2) := by decide +kernel
theorem d_M_copy_100 : decode b_M_copy 100 = .ok (.if_icmp .ge 57, 3) := by decide +kernel
theorem d_M_copy_103 : decode b_M_copy 103 = .ok (.iload 6, 2) := by decide +kernel
theorem d_M_copy_105 : decode b_M_copy 105 = .ok (.ifCond .eq 13, 3) := by decide +kernel
theorem d_M_copy_108 : decode b_M_copy 108 = .ok (.iload 5, 2) := by decide +kernel
theorem d_M_copy_110 : decode b_M_copy 110 = .ok (.iconst 1, 1) := by decide +kernel
theorem d_M_copy_111 : decode b_M_copy 111 = .ok (.isub, 1) := by decide +kernel
theorem d_M_copy_112 : decode b_M_copy 112 = .ok (.iload 7, 2) := by decide +kernel
theorem d_M_copy_114 : decode b_M_copy 114 = .ok (.isub, 1) := by decide +kernel
theorem d_M_copy_115 : decode b_M_copy 115 = .ok (.goto 5, 3) := by decide +kernel
theorem d_M_copy_118 : decode b_M_copy 118 = .ok (.iload 7, 2) := by decide +kernel
theorem d_M_copy_120 : decode b_M_copy 120 = .ok (.istore 8, 2) := by decide +kernel
theorem d_M_copy_122 : decode b_M_copy 122 = .ok (.aload_n 0, 1) := by decide +kernel
theorem d_M_copy_123 : decode b_M_copy 123 = .ok (.getfield 19, 3) := by decide +kernel
theorem d_M_copy_126 : decode b_M_copy 126 = .ok (.bipush 40, 2) := by decide +kernel
theorem d_M_copy_128 : decode b_M_copy 128 = .ok (.iload_n 3, 1) := by decide +kernel
theorem d_M_copy_129 : decode b_M_copy 129 = .ok (.imul, 1) := by decide +kernel
theorem d_M_copy_130 : decode b_M_copy 130 = .ok (.iload 4, 2) := by decide +kernel
theorem d_M_copy_132 : decode b_M_copy 132 = .ok (.iadd, 1) := by decide +kernel
theorem d_M_copy_133 : decode b_M_copy 133 = .ok (.iload 8, 2) := by decide +kernel
theorem d_M_copy_135 : decode b_M_copy 135 = .ok (.iadd, 1) := by decide +kernel
theorem d_M_copy_136 : decode b_M_copy 136 = .ok (.aload_n 0, 1) := by decide +kernel
theorem d_M_copy_137 : decode b_M_copy 137 = .ok (.getfield 19, 3) := by decide +kernel
theorem d_M_copy_140 : decode b_M_copy 140 = .ok (.bipush 40, 2) := by decide +kernel
theorem d_M_copy_142 : decode b_M_copy 142 = .ok (.iload_n 1, 1) := by decide +kernel
theorem d_M_copy_143 : decode b_M_copy 143 = .ok (.imul, 1) := by decide +kernel
theorem d_M_copy_144 : decode b_M_copy 144 = .ok (.iload_n 2, 1) := by decide +kernel
theorem d_M_copy_145 : decode b_M_copy 145 = .ok (.iadd, 1) := by decide +kernel
theorem d_M_copy_146 : decode b_M_copy 146 = .ok (.iload 8, 2) := by decide +kernel
theorem d_M_copy_148 : decode b_M_copy 148 = .ok (.iadd, 1) := by decide +kernel
theorem d_M_copy_149 : decode b_M_copy 149 = .ok (.iaload, 1) := by decide +kernel
theorem d_M_copy_150 : decode b_M_copy 150 = .ok (.iastore, 1) := by decide +kernel
theorem d_M_copy_151 : decode b_M_copy 151 = .ok (.iinc 7 1, 3) := by decide +kernel
theorem d_M_copy_154 : decode b_M_copy 154 = .ok (.goto (-58), 3) := by decide +kernel
theorem d_M_copy_157 : decode b_M_copy 157 = .ok (.iconst 1, 1) := by decide +kernel
theorem d_M_copy_158 : decode b_M_copy 158 = .ok (.ireturn, 1) := by decide +kernel
theorem d_M_copyVillage_0 : decode b_M_copyVillage 0 = .ok (.iconst 0, 1) := by decide +kernel
theorem d_M_copyVillage_1 : decode b_M_copyVillage 1 = .ok (.istore_n 3, 1) := by decide +kernel
theorem d_M_copyVillage_2 : decode b_M_copyVillage 2 = .ok (.iload_n 3, 1) := by decide +kernel
theorem d_M_copyVillage_3 : decode b_M_copyVillage 3 = .ok (.sipush 2994, 3) := by decide +kernel
theorem d_M_copyVillage_6 : decode b_M_copyVillage 6 = .ok (.if_icmp .ge 25, 3) := by decide +kernel
theorem d_M_copyVillage_9 : decode b_M_copyVillage 9 = .ok (.aload_n 0, 1) := by decide +kernel
theorem d_M_copyVillage_10 : decode b_M_copyVillage 10 = .ok (.getfield 7, 3) := by decide +kernel
theorem d_M_copyVillage_13 : decode b_M_copyVillage 13 = .ok (.iload_n 2, 1) := by decide +kernel
theorem d_M_copyVillage_14 : decode b_M_copyVillage 14 = .ok (.iload_n 3, 1) := by decide +kernel
theorem d_M_copyVillage_15 : decode b_M_copyVillage 15 = .ok (.iadd, 1) := by decide +kernel
theorem d_M_copyVillage_16 : decode b_M_copyVillage 16 = .ok (.aload_n 0, 1) := by decide +kernel
theorem d_M_copyVillage_17 : decode b_M_copyVillage 17 = .ok (.getfield 7, 3) := by decide +kernel
theorem d_M_copyVillage_20 : decode b_M_copyVillage 20 = .ok (.iload_n 1, 1) := by decide +kernel
theorem d_M_copyVillage_21 : decode b_M_copyVillage 21 = .ok (.iload_n 3, 1) := by decide +kernel
theorem d_M_copyVillage_22 : decode b_M_copyVillage 22 = .ok (.iadd, 1) := by decide +kernel
theorem d_M_copyVillage_23 : decode b_M_copyVillage 23 = .ok (.iaload, 1) := by decide +kernel
theorem d_M_copyVillage_24 : decode b_M_copyVillage 24 = .ok (.iastore, 1) := by decide +kernel
theorem d_M_copyVillage_25 : decode b_M_copyVillage 25 = .ok (.iinc 3 1, 3) := by decide +kernel
theorem d_M_copyVillage_28 : decode b_M_copyVillage 28 = .ok (.goto (-26), 3) := by decide +kernel
theorem d_M_copyVillage_31 : decode b_M_copyVillage 31 = .ok (.return_, 1) := by decide +kernel
theorem d_M_count_0 : decode b_M_count 0 = .ok (.iload_n 1, 1) := by decide +kernel
theorem d_M_count_1 : decode b_M_count 1 = .ok (.i2l, 1) := by decide +kernel
theorem d_M_count_2 : decode b_M_count 2 = .ok (.lconst 0, 1) := by decide +kernel
theorem d_M_count_3 : decode b_M_count 3 = .ok (.ldc2_w 354, 3) := by decide +kernel
theorem d_M_count_6 : decode b_M_count 6 = .ok (.invokestatic 65, 3) := by decide +kernel
theorem d_M_count_9 : decode b_M_count 9 = .ok (.ifCond .eq 11, 3) := by decide +kernel
theorem d_M_count_12 : decode b_M_count 12 = .ok (.aload_n 0, 1) := by decide +kernel
theorem d_M_count_13 : decode b_M_count 13 = .ok (.iload_n 1, 1) := by decide +kernel
theorem d_M_count_14 : decode b_M_count 14 = .ok (.invokevirtual 356, 3) := by decide +kernel
theorem d_M_count_17 : decode b_M_count 17 = .ok (.goto 4, 3) := by decide +kernel
theorem d_M_count_20 : decode b_M_count 20 = .ok (.iconst (-1), 1) := by decide +kernel
theorem d_M_count_21 : decode b_M_count 21 = .ok (.ireturn, 1) := by decide +kernel
theorem d_M_countOf_0 : decode b_M_countOf 0 = .ok (.iload_n 1, 1) := by decide +kernel
theorem d_M_countOf_1 : decode b_M_countOf 1 = .ok (.tableswitch 73 0 5 #[39, 44, 51, 58, 63, 68], 39) := by decide +kernel
theorem d_M_countOf_40 : decode b_M_countOf 40 = .ok (.aload_n 0, 1) := by decide +kernel
theorem d_M_countOf_41 : decode b_M_countOf 41 = .ok (.getfield 136, 3) := by decide +kernel
theorem d_M_countOf_44 : decode b_M_countOf 44 = .ok (.ireturn, 1) := by decide +kernel
theorem d_M_countOf_45 : decode b_M_countOf 45 = .ok (.aload_n 0, 1) := by decide +kernel
theorem d_M_countOf_46 : decode b_M_countOf 46 = .ok (.getfield 7, 3) := by decide +kernel
theorem d_M_countOf_49 : decode b_M_countOf 49 = .ok (.iconst 1, 1) := by decide +kernel
theorem d_M_countOf_50 : decode b_M_countOf 50 = .ok (.iaload, 1) := by decide +kernel
theorem d_M_countOf_51 : decode b_M_countOf 51 = .ok (.ireturn, 1) := by decide +kernel
theorem d_M_countOf_52 : decode b_M_countOf 52 = .ok (.aload_n 0, 1) := by decide +kernel
theorem d_M_countOf_53 : decode b_M_countOf 53 = .ok (.getfield 7, 3) := by decide +kernel
theorem d_M_countOf_56 : decode b_M_countOf 56 = .ok (.iconst 0, 1) := by decide +kernel
theorem d_M_countOf_57 : decode b_M_countOf 57 = .ok (.iaload, 1) := by decide +kernel
theorem d_M_countOf_58 : decode b_M_countOf 58 = .ok (.ireturn, 1) := by decide +kernel
theorem d_M_countOf_59 : decode b_M_countOf 59 = .ok (.aload_n 0, 1) := by decide +kernel
theorem d_M_countOf_60 : decode b_M_countOf 60 = .ok (.invokevirtual 342, 3) := by decide +kernel
theorem d_M_countOf_63 : decode b_M_countOf 63 = .ok (.ireturn, 1) := by decide +kernel
theorem d_M_countOf_64 : decode b_M_countOf 64 = .ok (.aload_n 0, 1) := by decide +kernel
theorem d_M_countOf_65 : decode b_M_countOf 65 = .ok (.invokevirtual 345, 3) := by decide +kernel
theorem d_M_countOf_68 : decode b_M_countOf 68 = .ok (.ireturn, 1) := by decide +kernel
theorem d_M_countOf_69 : decode b_M_countOf 69 = .ok (.aload_n 0, 1) := by decide +kernel
theorem d_M_countOf_70 : decode b_M_countOf 70 = .ok (.invokevirtual 348, 3) := by decide +kernel
theorem d_M_countOf_73 : decode b_M_countOf 73 = .ok (.ireturn, 1) := by decide +kernel
theorem d_M_countOf_74 : decode b_M_countOf 74 = .ok (.aload_n 0, 1) := by decide +kernel
theorem d_M_countOf_75 : decode b_M_countOf 75 = .ok (.iload_n 1, 1) := by decide +kernel
theorem d_M_countOf_76 : decode b_M_countOf 76 = .ok (.invokevirtual 351, 3) := by decide +kernel
theorem d_M_countOf_79 : decode b_M_countOf 79 = .ok (.ireturn, 1) := by decide +kernel
theorem d_M_digest_0 : decode b_M_digest 0 = .ok (.ldc2_w 359, 3) := by decide +kernel
theorem d_M_digest_3 : decode b_M_digest 3 = .ok (.lstore_n 1, 1) := by decide +kernel
theorem d_M_digest_4 : decode b_M_digest 4 = .ok (.iconst 0, 1) := by decide +kernel
theorem d_M_digest_5 : decode b_M_digest 5 = .ok (.istore_n 3, 1) := by decide +kernel
theorem d_M_digest_6 : decode b_M_digest 6 = .ok (.iload_n 3, 1) := by decide +kernel
theorem d_M_digest_7 : decode b_M_digest 7 = .ok (.bipush 9, 2) := by decide +kernel
theorem d_M_digest_9 : decode b_M_digest 9 = .ok (.if_icmp .ge 22, 3) := by decide +kernel
theorem d_M_digest_12 : decode b_M_digest 12 = .ok (.ldc2_w 361, 3) := by decide +kernel
theorem d_M_digest_15 : decode b_M_digest 15 = .ok (.lload_n 1, 1) := by decide +kernel
theorem d_M_digest_16 : decode b_M_digest 16 = .ok (.lmul, 1) := by decide +kernel
theorem d_M_digest_17 : decode b_M_digest 17 = .ok (.aload_n 0, 1) := by decide +kernel
theorem d_M_digest_18 : decode b_M_digest 18 = .ok (.iload_n 3, 1) := by decide +kernel
theorem d_M_digest_19 : decode b_M_digest 19 = .ok (.invokevirtual 356, 3) := by decide +kernel
theorem d_M_digest_22 : decode b_M_digest 22 = .ok (.i2l, 1) := by decide +kernel
theorem d_M_digest_23 : decode b_M_digest 23 = .ok (.ladd, 1) := by decide +kernel
theorem d_M_digest_24 : decode b_M_digest 24 = .ok (.lstore_n 1, 1) := by decide +kernel
theorem d_M_digest_25 : decode b_M_digest 25 = .ok (.iinc 3 1, 3) := by decide +kernel
theorem d_M_digest_28 : decode b_M_digest 28 = .ok (.goto (-22), 3) := by decide +kernel
theorem d_M_digest_31 : decode b_M_digest 31 = .ok (.iconst 0, 1) := by decide +kernel
theorem d_M_digest_32 : decode b_M_digest 32 = .ok (.istore_n 3, 1) := by decide +kernel
theorem d_M_digest_33 : decode b_M_digest 33 = .ok (.iload_n 3, 1) := by decide +kernel
theorem d_M_digest_34 : decode b_M_digest 34 = .ok (.iconst 5, 1) := by decide +kernel
theorem d_M_digest_35 : decode b_M_digest 35 = .ok (.aload_n 0, 1) := by decide +kernel
theorem d_M_digest_36 : decode b_M_digest 36 = .ok (.getfield 136, 3) := by decide +kernel
theorem d_M_digest_39 : decode b_M_digest 39 = .ok (.imul, 1) := by decide +kernel
theorem d_M_digest_40 : decode b_M_digest 40 = .ok (.if_icmp .ge 27, 3) := by decide +kernel
theorem d_M_digest_43 : decode b_M_digest 43 = .ok (.ldc2_w 361, 3) := by decide +kernel
theorem d_M_digest_46 : decode b_M_digest 46 = .ok (.lload_n 1, 1) := by decide +kernel
theorem d_M_digest_47 : decode b_M_digest 47 = .ok (.lmul, 1) := by decide +kernel
theorem d_M_digest_48 : decode b_M_digest 48 = .ok (.aload_n 0, 1) := by decide +kernel
theorem d_M_digest_49 : decode b_M_digest 49 = .ok (.iload_n 3, 1) := by decide +kernel
theorem d_M_digest_50 : decode b_M_digest 50 = .ok (.iconst 5, 1) := by decide +kernel
theorem d_M_digest_51 : decode b_M_digest 51 = .ok (.idiv, 1) := by decide +kernel
theorem d_M_digest_52 : decode b_M_digest 52 = .ok (.iload_n 3, 1) := by decide +kernel
theorem d_M_digest_53 : decode b_M_digest 53 = .ok (.iconst 5, 1) := by decide +kernel
theorem d_M_digest_54 : decode b_M_digest 54 = .ok (.irem, 1) := by decide +kernel
theorem d_M_digest_55 : decode b_M_digest 55 = .ok (.invokevirtual 176, 3) := by decide +kernel
theorem d_M_digest_58 : decode b_M_digest 58 = .ok (.i2l, 1) := by decide +kernel
theorem d_M_digest_59 : decode b_M_digest 59 = .ok (.ladd, 1) := by decide +kernel
theorem d_M_digest_60 : decode b_M_digest 60 = .ok (.lstore_n 1, 1) := by decide +kernel
theorem d_M_digest_61 : decode b_M_digest 61 = .ok (.iinc 3 1, 3) := by decide +kernel
theorem d_M_digest_64 : decode b_M_digest 64 = .ok (.goto (-31), 3) := by decide +kernel
theorem d_M_digest_67 : decode b_M_digest 67 = .ok (.iconst 0, 1) := by decide +kernel
theorem d_M_digest_68 : decode b_M_digest 68 = .ok (.istore_n 3, 1) := by decide +kernel
theorem d_M_digest_69 : decode b_M_digest 69 = .ok (.iload_n 3, 1) := by decide +kernel
theorem d_M_digest_70 : decode b_M_digest 70 = .ok (.bipush 6, 2) := by decide +kernel
theorem d_M_digest_72 : decode b_M_digest 72 = .ok (.aload_n 0, 1) := by decide +kernel
theorem d_M_digest_73 : decode b_M_digest 73 = .ok (.getfield 7, 3) := by decide +kernel
theorem d_M_digest_76 : decode b_M_digest 76 = .ok (.iconst 1, 1) := by decide +kernel
theorem d_M_digest_77 : decode b_M_digest 77 = .ok (.iaload, 1) := by decide +kernel
theorem d_M_digest_78 : decode b_M_digest 78 = .ok (.imul, 1) := by decide +kernel
theorem d_M_digest_79 : decode b_M_digest 79 = .ok (.if_icmp .ge 25, 3) := by decide +kernel
theorem d_M_digest_82 : decode b_M_digest 82 = .ok (.ldc2_w 361, 3) := by decide +kernel
theorem d_M_digest_85 : decode b_M_digest 85 = .ok (.lload_n 1, 1) := by decide +kernel
theorem d_M_digest_86 : decode b_M_digest 86 = .ok (.lmul, 1) := by decide +kernel
theorem d_M_digest_87 : decode b_M_digest 87 = .ok (.aload_n 0, 1) := by decide +kernel
theorem d_M_digest_88 : decode b_M_digest 88 = .ok (.getfield 7, 3) := by decide +kernel
theorem d_M_digest_91 : decode b_M_digest 91 = .ok (.iconst 2, 1) := by decide +kernel
theorem d_M_digest_92 : decode b_M_digest 92 = .ok (.iload_n 3, 1) := by decide +kernel
theorem d_M_digest_93 : decode b_M_digest 93 = .ok (.iadd, 1) := by decide +kernel
theorem d_M_digest_94 : decode b_M_digest 94 = .ok (.iaload, 1) := by decide +kernel
theorem d_M_digest_95 : decode b_M_digest 95 = .ok (.i2l, 1) := by decide +kernel
theorem d_M_digest_96 : decode b_M_digest 96 = .ok (.ladd, 1) := by decide +kernel
theorem d_M_digest_97 : decode b_M_digest 97 = .ok (.lstore_n 1, 1) := by decide +kernel
theorem d_M_digest_98 : decode b_M_digest 98 = .ok (.iinc 3 1, 3) := by decide +kernel
theorem d_M_digest_101 : decode b_M_digest 101 = .ok (.goto (-32), 3) := by decide +kernel
theorem d_M_digest_104 : decode b_M_digest 104 = .ok (.iconst 1, 1) := by decide +kernel
theorem d_M_digest_105 : decode b_M_digest 105 = .ok (.istore_n 3, 1) := by decide +kernel
theorem d_M_digest_106 : decode b_M_digest 106 = .ok (.iload_n 3, 1) := by decide +kernel
theorem d_M_digest_107 : decode b_M_digest 107 = .ok (.iconst 4, 1) := by decide +kernel
theorem d_M_digest_108 : decode b_M_digest 108 = .ok (.if_icmp .ge 29, 3) := by decide +kernel
theorem d_M_digest_111 : decode b_M_digest 111 = .ok (.ldc2_w 361, 3) := by decide +kernel
theorem d_M_digest_114 : decode b_M_digest 114 = .ok (.lload_n 1, 1) := by decide +kernel
theorem d_M_digest_115 : decode b_M_digest 115 = .ok (.lmul, 1) := by decide +kernel
theorem d_M_digest_116 : decode b_M_digest 116 = .ok (.aload_n 0, 1) := by decide +kernel
theorem d_M_digest_117 : decode b_M_digest 117 = .ok (.getfield 7, 3) := by decide +kernel
theorem d_M_digest_120 : decode b_M_digest 120 = .ok (.sipush 2994, 3) := by decide +kernel
theorem d_M_digest_123 : decode b_M_digest 123 = .ok (.iload_n 3, 1) := by decide +kernel
theorem d_M_digest_124 : decode b_M_digest 124 = .ok (.imul, 1) := by decide +kernel
theorem d_M_digest_125 : decode b_M_digest 125 = .ok (.iconst 0, 1) := by decide +kernel
theorem d_M_digest_126 : decode b_M_digest 126 = .ok (.iadd, 1) := by decide +kernel
theorem d_M_digest_127 : decode b_M_digest 127 = .ok (.iaload, 1) := by decide +kernel
theorem d_M_digest_128 : decode b_M_digest 128 = .ok (.i2l, 1) := by decide +kernel
theorem d_M_digest_129 : decode b_M_digest 129 = .ok (.ladd, 1) := by decide +kernel
theorem d_M_digest_130 : decode b_M_digest 130 = .ok (.lstore_n 1, 1) := by decide +kernel
theorem d_M_digest_131 : decode b_M_digest 131 = .ok (.iinc 3 1, 3) := by decide +kernel
theorem d_M_digest_134 : decode b_M_digest 134 = .ok (.goto (-28), 3) := by decide +kernel
theorem d_M_digest_137 : decode b_M_digest 137 = .ok (.iconst 0, 1) := by decide +kernel
theorem d_M_digest_138 : decode b_M_digest 138 = .ok (.istore_n 3, 1) := by decide +kernel
theorem d_M_digest_139 : decode b_M_digest 139 = .ok (.iload_n 3, 1) := by decide +kernel
theorem d_M_digest_140 : decode b_M_digest 140 = .ok (.bipush 6, 2) := by decide +kernel
theorem d_M_digest_142 : decode b_M_digest 142 = .ok (.if_icmp .ge 63, 3) := by decide +kernel
theorem d_M_digest_145 : decode b_M_digest 145 = .ok (.ldc2_w 361, 3) := by decide +kernel
theorem d_M_digest_148 : decode b_M_digest 148 = .ok (.lload_n 1, 1) := by decide +kernel
theorem d_M_digest_149 : decode b_M_digest 149 = .ok (.lmul, 1) := by decide +kernel
theorem d_M_digest_150 : decode b_M_digest 150 = .ok (.aload_n 0, 1) := by decide +kernel
theorem d_M_digest_151 : decode b_M_digest 151 = .ok (.getfield 16, 3) := by decide +kernel
theorem d_M_digest_154 : decode b_M_digest 154 = .ok (.iload_n 3, 1) := by decide +kernel
theorem d_M_digest_155 : decode b_M_digest 155 = .ok (.iaload, 1) := by decide +kernel
theorem d_M_digest_156 : decode b_M_digest 156 = .ok (.i2l, 1) := by decide +kernel
theorem d_M_digest_157 : decode b_M_digest 157 = .ok (.ladd, 1) := by decide +kernel
theorem d_M_digest_158 : decode b_M_digest 158 = .ok (.lstore_n 1, 1) := by decide +kernel
theorem d_M_digest_159 : decode b_M_digest 159 = .ok (.iconst 0, 1) := by decide +kernel
theorem d_M_digest_160 : decode b_M_digest 160 = .ok (.istore 4, 2) := by decide +kernel
theorem d_M_digest_162 : decode b_M_digest 162 = .ok (.iload 4, 2) := by decide +kernel
theorem d_M_digest_164 : decode b_M_digest 164 = .ok (.aload_n 0, 1) := by decide +kernel
theorem d_M_digest_165 : decode b_M_digest 165 = .ok (.getfield 16, 3) := by decide +kernel
theorem d_M_digest_168 : decode b_M_digest 168 = .ok (.iload_n 3, 1) := by decide +kernel
theorem d_M_digest_169 : decode b_M_digest 169 = .ok (.iaload, 1) := by decide +kernel
theorem d_M_digest_170 : decode b_M_digest 170 = .ok (.if_icmp .ge 29, 3) := by decide +kernel
theorem d_M_digest_173 : decode b_M_digest 173 = .ok (.ldc2_w 361, 3) := by decide +kernel
theorem d_M_digest_176 : decode b_M_digest 176 = .ok (.lload_n 1, 1) := by decide +kernel
theorem d_M_digest_177 : decode b_M_digest 177 = .ok (.lmul, 1) := by decide +kernel
theorem d_M_digest_178 : decode b_M_digest 178 = .ok (.aload_n 0, 1) := by decide +kernel
theorem d_M_digest_179 : decode b_M_digest 179 = .ok (.getfield 19, 3) := by decide +kernel
theorem d_M_digest_182 : decode b_M_digest 182 = .ok (.bipush 40, 2) := by decide +kernel
theorem d_M_digest_184 : decode b_M_digest 184 = .ok (.iload_n 3, 1) := by decide +kernel
theorem d_M_digest_185 : decode b_M_digest 185 = .ok (.imul, 1) := by decide +kernel
theorem d_M_digest_186 : decode b_M_digest 186 = .ok (.iload 4, 2) := by decide +kernel
theorem d_M_digest_188 : decode b_M_digest 188 = .ok (.iadd, 1) := by decide +kernel
theorem d_M_digest_189 : decode b_M_digest 189 = .ok (.iaload, 1) := by decide +kernel
theorem d_M_digest_190 : decode b_M_digest 190 = .ok (.i2l, 1) := by decide +kernel
theorem d_M_digest_191 : decode b_M_digest 191 = .ok (.ladd, 1) := by decide +kernel
theorem d_M_digest_192 : decode b_M_digest 192 = .ok (.lstore_n 1, 1) := by decide +kernel
theorem d_M_digest_193 : decode b_M_digest 193 = .ok (.iinc 4 1, 3) := by decide +kernel
theorem d_M_digest_196 : decode b_M_digest 196 = .ok (.goto (-34), 3) := by decide +kernel
theorem d_M_digest_199 : decode b_M_digest 199 = .ok (.iinc 3 1, 3) := by decide +kernel
theorem d_M_digest_202 : decode b_M_digest 202 = .ok (.goto (-63), 3) := by decide +kernel
theorem d_M_digest_205 : decode b_M_digest 205 = .ok (.iconst 0, 1) := by decide +kernel
theorem d_M_digest_206 : decode b_M_digest 206 = .ok (.istore_n 3, 1) := by decide +kernel
theorem d_M_digest_207 : decode b_M_digest 207 = .ok (.iload_n 3, 1) := by decide +kernel
theorem d_M_digest_208 : decode b_M_digest 208 = .ok (.iconst 4, 1) := by decide +kernel
theorem d_M_digest_209 : decode b_M_digest 209 = .ok (.if_icmp .ge 63, 3) := by decide +kernel
theorem d_M_digest_212 : decode b_M_digest 212 = .ok (.ldc2_w 361, 3) := by decide +kernel
theorem d_M_digest_215 : decode b_M_digest 215 = .ok (.lload_n 1, 1) := by decide +kernel
theorem d_M_digest_216 : decode b_M_digest 216 = .ok (.lmul, 1) := by decide +kernel
theorem d_M_digest_217 : decode b_M_digest 217 = .ok (.aload_n 0, 1) := by decide +kernel
theorem d_M_digest_218 : decode b_M_digest 218 = .ok (.getfield 22, 3) := by decide +kernel
theorem d_M_digest_221 : decode b_M_digest 221 = .ok (.iload_n 3, 1) := by decide +kernel
theorem d_M_digest_222 : decode b_M_digest 222 = .ok (.iaload, 1) := by decide +kernel
theorem d_M_digest_223 : decode b_M_digest 223 = .ok (.i2l, 1) := by decide +kernel
theorem d_M_digest_224 : decode b_M_digest 224 = .ok (.ladd, 1) := by decide +kernel
theorem d_M_digest_225 : decode b_M_digest 225 = .ok (.lstore_n 1, 1) := by decide +kernel
theorem d_M_digest_226 : decode b_M_digest 226 = .ok (.iconst 0, 1) := by decide +kernel
theorem d_M_digest_227 : decode b_M_digest 227 = .ok (.istore 4, 2) := by decide +kernel
theorem d_M_digest_229 : decode b_M_digest 229 = .ok (.iload 4, 2) := by decide +kernel
theorem d_M_digest_231 : decode b_M_digest 231 = .ok (.aload_n 0, 1) := by decide +kernel
theorem d_M_digest_232 : decode b_M_digest 232 = .ok (.getfield 22, 3) := by decide +kernel
theorem d_M_digest_235 : decode b_M_digest 235 = .ok (.iload_n 3, 1) := by decide +kernel
theorem d_M_digest_236 : decode b_M_digest 236 = .ok (.iaload, 1) := by decide +kernel
theorem d_M_digest_237 : decode b_M_digest 237 = .ok (.if_icmp .ge 29, 3) := by decide +kernel
theorem d_M_digest_240 : decode b_M_digest 240 = .ok (.ldc2_w 361, 3) := by decide +kernel
theorem d_M_digest_243 : decode b_M_digest 243 = .ok (.lload_n 1, 1) := by decide +kernel
theorem d_M_digest_244 : decode b_M_digest 244 = .ok (.lmul, 1) := by decide +kernel
theorem d_M_digest_245 : decode b_M_digest 245 = .ok (.aload_n 0, 1) := by decide +kernel
theorem d_M_digest_246 : decode b_M_digest 246 = .ok (.getfield 25, 3) := by decide +kernel
theorem d_M_digest_249 : decode b_M_digest 249 = .ok (.bipush 80, 2) := by decide +kernel
theorem d_M_digest_251 : decode b_M_digest 251 = .ok (.iload_n 3, 1) := by decide +kernel
theorem d_M_digest_252 : decode b_M_digest 252 = .ok (.imul, 1) := by decide +kernel
theorem d_M_digest_253 : decode b_M_digest 253 = .ok (.iload 4, 2) := by decide +kernel
theorem d_M_digest_255 : decode b_M_digest 255 = .ok (.iadd, 1) := by decide +kernel
theorem d_M_digest_256 : decode b_M_digest 256 = .ok (.iaload, 1) := by decide +kernel
theorem d_M_digest_257 : decode b_M_digest 257 = .ok (.i2l, 1) := by decide +kernel
theorem d_M_digest_258 : decode b_M_digest 258 = .ok (.ladd, 1) := by decide +kernel
theorem d_M_digest_259 : decode b_M_digest 259 = .ok (.lstore_n 1, 1) := by decide +kernel
theorem d_M_digest_260 : decode b_M_digest 260 = .ok (.iinc 4 1, 3) := by decide +kernel
theorem d_M_digest_263 : decode b_M_digest 263 = .ok (.goto (-34), 3) := by decide +kernel
theorem d_M_digest_266 : decode b_M_digest 266 = .ok (.iinc 3 1, 3) := by decide +kernel
theorem d_M_digest_269 : decode b_M_digest 269 = .ok (.goto (-62), 3) := by decide +kernel
theorem d_M_digest_272 : decode b_M_digest 272 = .ok (.lload_n 1, 1) := by decide +kernel
theorem d_M_digest_273 : decode b_M_digest 273 = .ok (.lreturn, 1) := by decide +kernel
theorem d_M_divisor_0 : decode b_M_divisor 0 = .ok (.iload_n 0, 1) := by decide +kernel
theorem d_M_divisor_1 : decode b_M_divisor 1 = .ok (.istore_n 2, 1) := by decide +kernel
theorem d_M_divisor_2 : decode b_M_divisor 2 = .ok (.iload_n 1, 1) := by decide +kernel
theorem d_M_divisor_3 : decode b_M_divisor 3 = .ok (.istore_n 3, 1) := by decide +kernel
theorem d_M_divisor_4 : decode b_M_divisor 4 = .ok (.iload_n 3, 1) := by decide +kernel
theorem d_M_divisor_5 : decode b_M_divisor 5 = .ok (.ifCond .eq 16, 3) := by decide +kernel
theorem d_M_divisor_8 : decode b_M_divisor 8 = .ok (.iload_n 2, 1) := by decide +kernel
theorem d_M_divisor_9 : decode b_M_divisor 9 = .ok (.iload_n 3, 1) := by decide +kernel
theorem d_M_divisor_10 : decode b_M_divisor 10 = .ok (.irem, 1) := by decide +kernel
theorem d_M_divisor_11 : decode b_M_divisor 11 = .ok (.istore 4, 2) := by decide +kernel
theorem d_M_divisor_13 : decode b_M_divisor 13 = .ok (.iload_n 3, 1) := by decide +kernel
theorem d_M_divisor_14 : decode b_M_divisor 14 = .ok (.istore_n 2, 1) := by decide +kernel
theorem d_M_divisor_15 : decode b_M_divisor 15 = .ok (.iload 4, 2) := by decide +kernel
theorem d_M_divisor_17 : decode b_M_divisor 17 = .ok (.istore_n 3, 1) := by decide +kernel
theorem d_M_divisor_18 : decode b_M_divisor 18 = .ok (.goto (-14), 3) := by decide +kernel
theorem d_M_divisor_21 : decode b_M_divisor 21 = .ok (.iload_n 2, 1) := by decide +kernel
theorem d_M_divisor_22 : decode b_M_divisor 22 = .ok (.ireturn, 1) := by decide +kernel
theorem d_M_doMeet_0 : decode b_M_doMeet 0 = .ok (.aload_n 0, 1) := by decide +kernel
theorem d_M_doMeet_1 : decode b_M_doMeet 1 = .ok (.invokevirtual 210, 3) := by decide +kernel
theorem d_M_doMeet_4 : decode b_M_doMeet 4 = .ok (.aload_n 0, 1) := by decide +kernel
theorem d_M_doMeet_5 : decode b_M_doMeet 5 = .ok (.iload_n 1, 1) := by decide +kernel
theorem d_M_doMeet_6 : decode b_M_doMeet 6 = .ok (.iload_n 2, 1) := by decide +kernel
theorem d_M_doMeet_7 : decode b_M_doMeet 7 = .ok (.invokevirtual 225, 3) := by decide +kernel
theorem d_M_doMeet_10 : decode b_M_doMeet 10 = .ok (.istore_n 3, 1) := by decide +kernel
theorem d_M_doMeet_11 : decode b_M_doMeet 11 = .ok (.iconst 0, 1) := by decide +kernel
theorem d_M_doMeet_12 : decode b_M_doMeet 12 = .ok (.istore 4, 2) := by decide +kernel
theorem d_M_doMeet_14 : decode b_M_doMeet 14 = .ok (.iload 4, 2) := by decide +kernel
theorem d_M_doMeet_16 : decode b_M_doMeet 16 = .ok (.iconst 2, 1) := by decide +kernel
theorem d_M_doMeet_17 : decode b_M_doMeet 17 = .ok (.if_icmp .ge 39, 3) := by decide +kernel
theorem d_M_doMeet_20 : decode b_M_doMeet 20 = .ok (.aload_n 0, 1) := by decide +kernel
theorem d_M_doMeet_21 : decode b_M_doMeet 21 = .ok (.iload_n 1, 1) := by decide +kernel
theorem d_M_doMeet_22 : decode b_M_doMeet 22 = .ok (.iload_n 2, 1) := by decide +kernel
theorem d_M_doMeet_23 : decode b_M_doMeet 23 = .ok (.iload 4, 2) := by decide +kernel
theorem d_M_doMeet_25 : decode b_M_doMeet 25 = .ok (.invokevirtual 222, 3) := by decide +kernel
theorem d_M_doMeet_28 : decode b_M_doMeet 28 = .ok (.istore 5, 2) := by decide +kernel
theorem d_M_doMeet_30 : decode b_M_doMeet 30 = .ok (.aload_n 0, 1) := by decide +kernel
theorem d_M_doMeet_31 : decode b_M_doMeet 31 = .ok (.iload_n 1, 1) := by decide +kernel
theorem d_M_doMeet_32 : decode b_M_doMeet 32 = .ok (.iload_n 2, 1) := by decide +kernel
theorem d_M_doMeet_33 : decode b_M_doMeet 33 = .ok (.iload 4, 2) := by decide +kernel
theorem d_M_doMeet_35 : decode b_M_doMeet 35 = .ok (.iload 5, 2) := by decide +kernel
theorem d_M_doMeet_37 : decode b_M_doMeet 37 = .ok (.invokevirtual 228, 3) := by decide +kernel
theorem d_M_doMeet_40 : decode b_M_doMeet 40 = .ok (.aload_n 0, 1) := by decide +kernel
theorem d_M_doMeet_41 : decode b_M_doMeet 41 = .ok (.iload_n 2, 1) := by decide +kernel
theorem d_M_doMeet_42 : decode b_M_doMeet 42 = .ok (.iload_n 1, 1) := by decide +kernel
theorem d_M_doMeet_43 : decode b_M_doMeet 43 = .ok (.iload 4, 2) := by decide +kernel
theorem d_M_doMeet_45 : decode b_M_doMeet 45 = .ok (.iload 5, 2) := by decide +kernel
theorem d_M_doMeet_47 : decode b_M_doMeet 47 = .ok (.invokevirtual 228, 3) := by decide +kernel
theorem d_M_doMeet_50 : decode b_M_doMeet 50 = .ok (.iinc 4 1, 3) := by decide +kernel
theorem d_M_doMeet_53 : decode b_M_doMeet 53 = .ok (.goto (-39), 3) := by decide +kernel
theorem d_M_doMeet_56 : decode b_M_doMeet 56 = .ok (.iconst 0, 1) := by decide +kernel
theorem d_M_doMeet_57 : decode b_M_doMeet 57 = .ok (.istore 4, 2) := by decide +kernel
theorem d_M_doMeet_59 : decode b_M_doMeet 59 = .ok (.iload 4, 2) := by decide +kernel
theorem d_M_doMeet_61 : decode b_M_doMeet 61 = .ok (.aload_n 0, 1) := by decide +kernel
theorem d_M_doMeet_62 : decode b_M_doMeet 62 = .ok (.getfield 7, 3) := by decide +kernel
theorem d_M_doMeet_65 : decode b_M_doMeet 65 = .ok (.iconst 1, 1) := by decide +kernel
theorem d_M_doMeet_66 : decode b_M_doMeet 66 = .ok (.iaload, 1) := by decide +kernel
theorem d_M_doMeet_67 : decode b_M_doMeet 67 = .ok (.if_icmp .ge 54, 3) := by decide +kernel
theorem d_M_doMeet_70 : decode b_M_doMeet 70 = .ok (.aload_n 0, 1) := by decide +kernel
theorem d_M_doMeet_71 : decode b_M_doMeet 71 = .ok (.iload 4, 2) := by decide +kernel
theorem d_M_doMeet_73 : decode b_M_doMeet 73 = .ok (.iload_n 1, 1) := by decide +kernel
theorem d_M_doMeet_74 : decode b_M_doMeet 74 = .ok (.iload_n 2, 1) := by decide +kernel
theorem d_M_doMeet_75 : decode b_M_doMeet 75 = .ok (.invokevirtual 213, 3) := by decide +kernel
theorem d_M_doMeet_78 : decode b_M_doMeet 78 = .ok (.ifCond .ne 14, 3) := by decide +kernel
theorem d_M_doMeet_81 : decode b_M_doMeet 81 = .ok (.aload_n 0, 1) := by decide +kernel
theorem d_M_doMeet_82 : decode b_M_doMeet 82 = .ok (.iload 4, 2) := by decide +kernel
theorem d_M_doMeet_84 : decode b_M_doMeet 84 = .ok (.iload_n 2, 1) := by decide +kernel
theorem d_M_doMeet_85 : decode b_M_doMeet 85 = .ok (.iload_n 1, 1) := by decide +kernel
theorem d_M_doMeet_86 : decode b_M_doMeet 86 = .ok (.invokevirtual 213, 3) := by decide +kernel
theorem d_M_doMeet_89 : decode b_M_doMeet 89 = .ok (.ifCond .eq 26, 3) := by decide +kernel
theorem d_M_doMeet_92 : decode b_M_doMeet 92 = .ok (.aload_n 0, 1) := by decide +kernel
theorem d_M_doMeet_93 : decode b_M_doMeet 93 = .ok (.getfield 13, 3) := by decide +kernel
theorem d_M_doMeet_96 : decode b_M_doMeet 96 = .ok (.aload_n 0, 1) := by decide +kernel
theorem d_M_doMeet_97 : decode b_M_doMeet 97 = .ok (.iload 4, 2) := by decide +kernel
theorem d_M_doMeet_99 : decode b_M_doMeet 99 = .ok (.iconst 0, 1) := by decide +kernel
theorem d_M_doMeet_100 : decode b_M_doMeet 100 = .ok (.invokevirtual 146, 3) := by decide +kernel
theorem d_M_doMeet_103 : decode b_M_doMeet 103 = .ok (.iaload, 1) := by decide +kernel
theorem d_M_doMeet_104 : decode b_M_doMeet 104 = .ok (.iconst 2, 1) := by decide +kernel
theorem d_M_doMeet_105 : decode b_M_doMeet 105 = .ok (.if_icmp .eq 10, 3) := by decide +kernel
theorem d_M_doMeet_108 : decode b_M_doMeet 108 = .ok (.aload_n 0, 1) := by decide +kernel
theorem d_M_doMeet_109 : decode b_M_doMeet 109 = .ok (.iload 4, 2) := by decide +kernel
theorem d_M_doMeet_111 : decode b_M_doMeet 111 = .ok (.iconst 0, 1) := by decide +kernel
theorem d_M_doMeet_112 : decode b_M_doMeet 112 = .ok (.invokevirtual 219, 3) := by decide +kernel
theorem d_M_doMeet_115 : decode b_M_doMeet 115 = .ok (.iinc 4 1, 3) := by decide +kernel
theorem d_M_doMeet_118 : decode b_M_doMeet 118 = .ok (.goto (-59), 3) := by decide +kernel
theorem d_M_doMeet_121 : decode b_M_doMeet 121 = .ok (.iload_n 3, 1) := by decide +kernel
theorem d_M_doMeet_122 : decode b_M_doMeet 122 = .ok (.ireturn, 1) := by decide +kernel
theorem d_M_draft_0 : decode b_M_draft 0 = .ok (.aload_n 0, 1) := by decide +kernel
theorem d_M_draft_1 : decode b_M_draft 1 = .ok (.iload_n 1, 1) := by decide +kernel
theorem d_M_draft_2 : decode b_M_draft 2 = .ok (.invokevirtual 179, 3) := by decide +kernel
theorem d_M_draft_5 : decode b_M_draft 5 = .ok (.ifCond .eq 28, 3) := by decide +kernel
theorem d_M_draft_8 : decode b_M_draft 8 = .ok (.iload_n 2, 1) := by decide +kernel
theorem d_M_draft_9 : decode b_M_draft 9 = .ok (.i2l, 1) := by decide +kernel
theorem d_M_draft_10 : decode b_M_draft 10 = .ok (.lconst 0, 1) := by decide +kernel
theorem d_M_draft_11 : decode b_M_draft 11 = .ok (.ldc2_w 63, 3) := by decide +kernel
theorem d_M_draft_14 : decode b_M_draft 14 = .ok (.invokestatic 65, 3) := by decide +kernel
theorem d_M_draft_17 : decode b_M_draft 17 = .ok (.ifCond .eq 16, 3) := by decide +kernel
theorem d_M_draft_20 : decode b_M_draft 20 = .ok (.aload_n 0, 1) := by decide +kernel
theorem d_M_draft_21 : decode b_M_draft 21 = .ok (.aload_n 0, 1) := by decide +kernel
theorem d_M_draft_22 : decode b_M_draft 22 = .ok (.iload_n 1, 1) := by decide +kernel
theorem d_M_draft_23 : decode b_M_draft 23 = .ok (.iload_n 2, 1) := by decide +kernel
theorem d_M_draft_24 : decode b_M_draft 24 = .ok (.invokevirtual 146, 3) := by decide +kernel
theorem d_M_draft_27 : decode b_M_draft 27 = .ok (.invokevirtual 87, 3) := by decide +kernel
theorem d_M_draft_30 : decode b_M_draft 30 = .ok (.goto 4, 3) := by decide +kernel
theorem d_M_draft_33 : decode b_M_draft 33 = .ok (.iconst (-1), 1) := by decide +kernel
theorem d_M_draft_34 : decode b_M_draft 34 = .ok (.ireturn, 1) := by decide +kernel
theorem d_M_endorse_0 : decode b_M_endorse 0 = .ok (.aload_n 0, 1) := by decide +kernel
theorem d_M_endorse_1 : decode b_M_endorse 1 = .ok (.iload_n 1, 1) := by decide +kernel
theorem d_M_endorse_2 : decode b_M_endorse 2 = .ok (.invokevirtual 179, 3) := by decide +kernel
theorem d_M_endorse_5 : decode b_M_endorse 5 = .ok (.ifCond .eq 21, 3) := by decide +kernel
theorem d_M_endorse_8 : decode b_M_endorse 8 = .ok (.aload_n 0, 1) := by decide +kernel
theorem d_M_endorse_9 : decode b_M_endorse 9 = .ok (.iload_n 2, 1) := by decide +kernel
theorem d_M_endorse_10 : decode b_M_endorse 10 = .ok (.invokevirtual 143, 3) := by decide +kernel
theorem d_M_endorse_13 : decode b_M_endorse 13 = .ok (.ifCond .eq 13, 3) := by decide +kernel
theorem d_M_endorse_16 : decode b_M_endorse 16 = .ok (.aload_n 0, 1) := by decide +kernel
theorem d_M_endorse_17 : decode b_M_endorse 17 = .ok (.iload_n 1, 1) := by decide +kernel
theorem d_M_endorse_18 : decode b_M_endorse 18 = .ok (.iconst 0, 1) := by decide +kernel
theorem d_M_endorse_19 : decode b_M_endorse 19 = .ok (.invokevirtual 146, 3) := by decide +kernel
theorem d_M_endorse_22 : decode b_M_endorse 22 = .ok (.iload_n 2, 1) := by decide +kernel
theorem d_M_endorse_23 : decode b_M_endorse 23 = .ok (.if_icmp .ne 5, 3) := by decide +kernel
theorem d_M_endorse_26 : decode b_M_endorse 26 = .ok (.iconst (-1), 1) := by decide +kernel
theorem d_M_endorse_27 : decode b_M_endorse 27 = .ok (.ireturn, 1) := by decide +kernel
theorem d_M_endorse_28 : decode b_M_endorse 28 = .ok (.aload_n 0, 1) := by decide +kernel
theorem d_M_endorse_29 : decode b_M_endorse 29 = .ok (.iload_n 1, 1) := by decide +kernel
theorem d_M_endorse_30 : decode b_M_endorse 30 = .ok (.invokevirtual 156, 3) := by decide +kernel
theorem d_M_endorse_33 : decode b_M_endorse 33 = .ok (.ifCond .eq 23, 3) := by decide +kernel
theorem d_M_endorse_36 : decode b_M_endorse 36 = .ok (.aload_n 0, 1) := by decide +kernel
theorem d_M_endorse_37 : decode b_M_endorse 37 = .ok (.iload_n 1, 1) := by decide +kernel
theorem d_M_endorse_38 : decode b_M_endorse 38 = .ok (.iconst 5, 1) := by decide +kernel
theorem d_M_endorse_39 : decode b_M_endorse 39 = .ok (.invokevirtual 146, 3) := by decide +kernel
theorem d_M_endorse_42 : decode b_M_endorse 42 = .ok (.iconst 2, 1) := by decide +kernel
theorem d_M_endorse_43 : decode b_M_endorse 43 = .ok (.if_icmp .eq 13, 3) := by decide +kernel
theorem d_M_endorse_46 : decode b_M_endorse 46 = .ok (.aload_n 0, 1) := by decide +kernel
theorem d_M_endorse_47 : decode b_M_endorse 47 = .ok (.iload_n 1, 1) := by decide +kernel
theorem d_M_endorse_48 : decode b_M_endorse 48 = .ok (.iconst 1, 1) := by decide +kernel
theorem d_M_endorse_49 : decode b_M_endorse 49 = .ok (.invokevirtual 146, 3) := by decide +kernel
theorem d_M_endorse_52 : decode b_M_endorse 52 = .ok (.iload_n 2, 1) := by decide +kernel
theorem d_M_endorse_53 : decode b_M_endorse 53 = .ok (.if_icmp .ne 6, 3) := by decide +kernel
theorem d_M_endorse_56 : decode b_M_endorse 56 = .ok (.bipush (-4), 2) := by decide +kernel
theorem d_M_endorse_58 : decode b_M_endorse 58 = .ok (.ireturn, 1) := by decide +kernel
theorem d_M_endorse_59 : decode b_M_endorse 59 = .ok (.aload_n 0, 1) := by decide +kernel
theorem d_M_endorse_60 : decode b_M_endorse 60 = .ok (.invokevirtual 207, 3) := by decide +kernel
theorem d_M_endorse_63 : decode b_M_endorse 63 = .ok (.ifCond .eq 6, 3) := by decide +kernel
theorem d_M_endorse_66 : decode b_M_endorse 66 = .ok (.bipush (-2), 2) := by decide +kernel
theorem d_M_endorse_68 : decode b_M_endorse 68 = .ok (.ireturn, 1) := by decide +kernel
theorem d_M_endorse_69 : decode b_M_endorse 69 = .ok (.aload_n 0, 1) := by decide +kernel
theorem d_M_endorse_70 : decode b_M_endorse 70 = .ok (.invokevirtual 210, 3) := by decide +kernel
theorem d_M_endorse_73 : decode b_M_endorse 73 = .ok (.aload_n 0, 1) := by decide +kernel
theorem d_M_endorse_74 : decode b_M_endorse 74 = .ok (.getfield 7, 3) := by decide +kernel
theorem d_M_endorse_77 : decode b_M_endorse 77 = .ok (.iconst 2, 1) := by decide +kernel
theorem d_M_endorse_78 : decode b_M_endorse 78 = .ok (.bipush 6, 2) := by decide +kernel
theorem d_M_endorse_80 : decode b_M_endorse 80 = .ok (.iload_n 1, 1) := by decide +kernel
theorem d_M_endorse_81 : decode b_M_endorse 81 = .ok (.imul, 1) := by decide +kernel
theorem d_M_endorse_82 : decode b_M_endorse 82 = .ok (.iadd, 1) := by decide +kernel
theorem d_M_endorse_83 : decode b_M_endorse 83 = .ok (.iconst 1, 1) := by decide +kernel
theorem d_M_endorse_84 : decode b_M_endorse 84 = .ok (.iadd, 1) := by decide +kernel
theorem d_M_endorse_85 : decode b_M_endorse 85 = .ok (.iload_n 2, 1) := by decide +kernel
theorem d_M_endorse_86 : decode b_M_endorse 86 = .ok (.iastore, 1) := by decide +kernel
theorem d_M_endorse_87 : decode b_M_endorse 87 = .ok (.aload_n 0, 1) := by decide +kernel
theorem d_M_endorse_88 : decode b_M_endorse 88 = .ok (.getfield 7, 3) := by decide +kernel
theorem d_M_endorse_91 : decode b_M_endorse 91 = .ok (.iconst 2, 1) := by decide +kernel
theorem d_M_endorse_92 : decode b_M_endorse 92 = .ok (.bipush 6, 2) := by decide +kernel
theorem d_M_endorse_94 : decode b_M_endorse 94 = .ok (.iload_n 1, 1) := by decide +kernel
theorem d_M_endorse_95 : decode b_M_endorse 95 = .ok (.imul, 1) := by decide +kernel
theorem d_M_endorse_96 : decode b_M_endorse 96 = .ok (.iadd, 1) := by decide +kernel
theorem d_M_endorse_97 : decode b_M_endorse 97 = .ok (.iconst 5, 1) := by decide +kernel
theorem d_M_endorse_98 : decode b_M_endorse 98 = .ok (.iadd, 1) := by decide +kernel
theorem d_M_endorse_99 : decode b_M_endorse 99 = .ok (.dup2, 1) := by decide +kernel
theorem d_M_endorse_100 : decode b_M_endorse 100 = .ok (.iaload, 1) := by decide +kernel
theorem d_M_endorse_101 : decode b_M_endorse 101 = .ok (.iconst 1, 1) := by decide +kernel
theorem d_M_endorse_102 : decode b_M_endorse 102 = .ok (.iadd, 1) := by decide +kernel
theorem d_M_endorse_103 : decode b_M_endorse 103 = .ok (.iastore, 1) := by decide +kernel
theorem d_M_endorse_104 : decode b_M_endorse 104 = .ok (.aload_n 0, 1) := by decide +kernel
theorem d_M_endorse_105 : decode b_M_endorse 105 = .ok (.iload_n 1, 1) := by decide +kernel
theorem d_M_endorse_106 : decode b_M_endorse 106 = .ok (.iconst 5, 1) := by decide +kernel
theorem d_M_endorse_107 : decode b_M_endorse 107 = .ok (.invokevirtual 146, 3) := by decide +kernel
theorem d_M_endorse_110 : decode b_M_endorse 110 = .ok (.ireturn, 1) := by decide +kernel
theorem d_M_fallen_0 : decode b_M_fallen 0 = .ok (.iconst 1, 1) := by decide +kernel
theorem d_M_fallen_1 : decode b_M_fallen 1 = .ok (.iload_n 1, 1) := by decide +kernel
theorem d_M_fallen_2 : decode b_M_fallen 2 = .ok (.ishl, 1) := by decide +kernel
theorem d_M_fallen_3 : decode b_M_fallen 3 = .ok (.istore 4, 2) := by decide +kernel
theorem d_M_fallen_5 : decode b_M_fallen 5 = .ok (.iconst 0, 1) := by decide +kernel
theorem d_M_fallen_6 : decode b_M_fallen 6 = .ok (.istore 5, 2) := by decide +kernel
theorem d_M_fallen_8 : decode b_M_fallen 8 = .ok (.iload 4, 2) := by decide +kernel
theorem d_M_fallen_10 : decode b_M_fallen 10 = .ok (.iload 5, 2) := by decide +kernel
theorem d_M_fallen_12 : decode b_M_fallen 12 = .ok (.if_icmp .eq 81, 3) := by decide +kernel
theorem d_M_fallen_15 : decode b_M_fallen 15 = .ok (.iload 4, 2) := by decide +kernel
theorem d_M_fallen_17 : decode b_M_fallen 17 = .ok (.istore 5, 2) := by decide +kernel
theorem d_M_fallen_19 : decode b_M_fallen 19 = .ok (.iconst 0, 1) := by decide +kernel
theorem d_M_fallen_20 : decode b_M_fallen 20 = .ok (.istore 6, 2) := by decide +kernel
theorem d_M_fallen_22 : decode b_M_fallen 22 = .ok (.iload 6, 2) := by decide +kernel
theorem d_M_fallen_24 : decode b_M_fallen 24 = .ok (.aload_n 0, 1) := by decide +kernel
theorem d_M_fallen_25 : decode b_M_fallen 25 = .ok (.getfield 136, 3) := by decide +kernel
theorem d_M_fallen_28 : decode b_M_fallen 28 = .ok (.if_icmp .ge 62, 3) := by decide +kernel
theorem d_M_fallen_31 : decode b_M_fallen 31 = .ok (.aload_n 0, 1) := by decide +kernel
theorem d_M_fallen_32 : decode b_M_fallen 32 = .ok (.iload 6, 2) := by decide +kernel
theorem d_M_fallen_34 : decode b_M_fallen 34 = .ok (.iload 5, 2) := by decide +kernel
theorem d_M_fallen_36 : decode b_M_fallen 36 = .ok (.invokevirtual 165, 3) := by decide +kernel
theorem d_M_fallen_39 : decode b_M_fallen 39 = .ok (.aload_n 0, 1) := by decide +kernel
theorem d_M_fallen_40 : decode b_M_fallen 40 = .ok (.iload 6, 2) := by decide +kernel
theorem d_M_fallen_42 : decode b_M_fallen 42 = .ok (.invokevirtual 168, 3) := by decide +kernel
theorem d_M_fallen_45 : decode b_M_fallen 45 = .ok (.iadd, 1) := by decide +kernel
theorem d_M_fallen_46 : decode b_M_fallen 46 = .ok (.iload 6, 2) := by decide +kernel
theorem d_M_fallen_48 : decode b_M_fallen 48 = .ok (.iload_n 2, 1) := by decide +kernel
theorem d_M_fallen_49 : decode b_M_fallen 49 = .ok (.if_icmp .ne 7, 3) := by decide +kernel
theorem d_M_fallen_52 : decode b_M_fallen 52 = .ok (.iload_n 3, 1) := by decide +kernel
theorem d_M_fallen_53 : decode b_M_fallen 53 = .ok (.goto 4, 3) := by decide +kernel
theorem d_M_fallen_56 : decode b_M_fallen 56 = .ok (.iconst 0, 1) := by decide +kernel
theorem d_M_fallen_57 : decode b_M_fallen 57 = .ok (.iadd, 1) := by decide +kernel
theorem d_M_fallen_58 : decode b_M_fallen 58 = .ok (.istore 7, 2) := by decide +kernel
theorem d_M_fallen_60 : decode b_M_fallen 60 = .ok (.iload 4, 2) := by decide +kernel
theorem d_M_fallen_62 : decode b_M_fallen 62 = .ok (.aload_n 0, 1) := by decide +kernel
theorem d_M_fallen_63 : decode b_M_fallen 63 = .ok (.iload 6, 2) := by decide +kernel
theorem d_M_fallen_65 : decode b_M_fallen 65 = .ok (.invokevirtual 162, 3) := by decide +kernel
theorem d_M_fallen_68 : decode b_M_fallen 68 = .ok (.iload 7, 2) := by decide +kernel
theorem d_M_fallen_70 : decode b_M_fallen 70 = .ok (.if_icmp .le 10, 3) := by decide +kernel
theorem d_M_fallen_73 : decode b_M_fallen 73 = .ok (.iconst 1, 1) := by decide +kernel
theorem d_M_fallen_74 : decode b_M_fallen 74 = .ok (.iload 6, 2) := by decide +kernel
theorem d_M_fallen_76 : decode b_M_fallen 76 = .ok (.ishl, 1) := by decide +kernel
theorem d_M_fallen_77 : decode b_M_fallen 77 = .ok (.goto 4, 3) := by decide +kernel
theorem d_M_fallen_80 : decode b_M_fallen 80 = .ok (.iconst 0, 1) := by decide +kernel
theorem d_M_fallen_81 : decode b_M_fallen 81 = .ok (.ior, 1) := by decide +kernel
theorem d_M_fallen_82 : decode b_M_fallen 82 = .ok (.istore 4, 2) := by decide +kernel
theorem d_M_fallen_84 : decode b_M_fallen 84 = .ok (.iinc 6 1, 3) := by decide +kernel
theorem d_M_fallen_87 : decode b_M_fallen 87 = .ok (.goto (-65), 3) := by decide +kernel
theorem d_M_fallen_90 : decode b_M_fallen 90 = .ok (.goto (-82), 3) := by decide +kernel
theorem d_M_fallen_93 : decode b_M_fallen 93 = .ok (.iload 4, 2) := by decide +kernel
theorem d_M_fallen_95 : decode b_M_fallen 95 = .ok (.iconst 1, 1) := by decide +kernel
theorem d_M_fallen_96 : decode b_M_fallen 96 = .ok (.iload_n 1, 1) := by decide +kernel
theorem d_M_fallen_97 : decode b_M_fallen 97 = .ok (.ishl, 1) := by decide +kernel
theorem d_M_fallen_98 : decode b_M_fallen 98 = .ok (.iconst (-1), 1) := by decide +kernel
theorem d_M_fallen_99 : decode b_M_fallen 99 = .ok (.ixor, 1) := by decide +kernel
theorem d_M_fallen_100 : decode b_M_fallen 100 = .ok (.iand, 1) := by decide +kernel
theorem d_M_fallen_101 : decode b_M_fallen 101 = .ok (.ireturn, 1) := by decide +kernel
theorem d_M_falls_0 : decode b_M_falls 0 = .ok (.aload_n 0, 1) := by decide +kernel
theorem d_M_falls_1 : decode b_M_falls 1 = .ok (.iload_n 1, 1) := by decide +kernel
theorem d_M_falls_2 : decode b_M_falls 2 = .ok (.invokevirtual 143, 3) := by decide +kernel
theorem d_M_falls_5 : decode b_M_falls 5 = .ok (.ifCond .eq 14, 3) := by decide +kernel
theorem d_M_falls_8 : decode b_M_falls 8 = .ok (.aload_n 0, 1) := by decide +kernel
theorem d_M_falls_9 : decode b_M_falls 9 = .ok (.iload_n 1, 1) := by decide +kernel
theorem d_M_falls_10 : decode b_M_falls 10 = .ok (.bipush (-9), 2) := by decide +kernel
theorem d_M_falls_12 : decode b_M_falls 12 = .ok (.iconst 0, 1) := by decide +kernel
theorem d_M_falls_13 : decode b_M_falls 13 = .ok (.invokevirtual 274, 3) := by decide +kernel
theorem d_M_falls_16 : decode b_M_falls 16 = .ok (.goto 4, 3) := by decide +kernel
theorem d_M_falls_19 : decode b_M_falls 19 = .ok (.iconst (-1), 1) := by decide +kernel
theorem d_M_falls_20 : decode b_M_falls 20 = .ok (.ireturn, 1) := by decide +kernel
theorem d_M_fault_0 : decode b_M_fault 0 = .ok (.iload_n 1, 1) := by decide +kernel
theorem d_M_fault_1 : decode b_M_fault 1 = .ok (.invokestatic 94, 3) := by decide +kernel
theorem d_M_fault_4 : decode b_M_fault 4 = .ok (.ifCond .ne 5, 3) := by decide +kernel
theorem d_M_fault_7 : decode b_M_fault 7 = .ok (.iconst (-1), 1) := by decide +kernel
theorem d_M_fault_8 : decode b_M_fault 8 = .ok (.ireturn, 1) := by decide +kernel
theorem d_M_fault_9 : decode b_M_fault 9 = .ok (.aload_n 0, 1) := by decide +kernel
theorem d_M_fault_10 : decode b_M_fault 10 = .ok (.getfield 22, 3) := by decide +kernel
theorem d_M_fault_13 : decode b_M_fault 13 = .ok (.iload_n 1, 1) := by decide +kernel
theorem d_M_fault_14 : decode b_M_fault 14 = .ok (.iaload, 1) := by decide +kernel
theorem d_M_fault_15 : decode b_M_fault 15 = .ok (.ifCond .ge 11, 3) := by decide +kernel
theorem d_M_fault_18 : decode b_M_fault 18 = .ok (.aload_n 0, 1) := by decide +kernel
theorem d_M_fault_19 : decode b_M_fault 19 = .ok (.iconst 1, 1) := by decide +kernel
theorem d_M_fault_20 : decode b_M_fault 20 = .ok (.invokevirtual 75, 3) := by decide +kernel
theorem d_M_fault_23 : decode b_M_fault 23 = .ok (.goto 8, 3) := by decide +kernel
theorem d_M_fault_26 : decode b_M_fault 26 = .ok (.aload_n 0, 1) := by decide +kernel
theorem d_M_fault_27 : decode b_M_fault 27 = .ok (.iload_n 1, 1) := by decide +kernel
theorem d_M_fault_28 : decode b_M_fault 28 = .ok (.invokevirtual 133, 3) := by decide +kernel
theorem d_M_fault_31 : decode b_M_fault 31 = .ok (.ireturn, 1) := by decide +kernel
theorem d_M_faultOf_0 : decode b_M_faultOf 0 = .ok (.aload_n 0, 1) := by decide +kernel
theorem d_M_faultOf_1 : decode b_M_faultOf 1 = .ok (.bipush 80, 2) := by decide +kernel
theorem d_M_faultOf_3 : decode b_M_faultOf 3 = .ok (.iload_n 1, 1) := by decide +kernel
theorem d_M_faultOf_4 : decode b_M_faultOf 4 = .ok (.imul, 1) := by decide +kernel
theorem d_M_faultOf_5 : decode b_M_faultOf 5 = .ok (.putfield 97, 3) := by decide +kernel
theorem d_M_faultOf_8 : decode b_M_faultOf 8 = .ok (.aload_n 0, 1) := by decide +kernel
theorem d_M_faultOf_9 : decode b_M_faultOf 9 = .ok (.iconst 0, 1) := by decide +kernel
theorem d_M_faultOf_10 : decode b_M_faultOf 10 = .ok (.putfield 100, 3) := by decide +kernel
theorem d_M_faultOf_13 : decode b_M_faultOf 13 = .ok (.aload_n 0, 1) := by decide +kernel
theorem d_M_faultOf_14 : decode b_M_faultOf 14 = .ok (.aload_n 0, 1) := by decide +kernel
theorem d_M_faultOf_15 : decode b_M_faultOf 15 = .ok (.getfield 22, 3) := by decide +kernel
theorem d_M_faultOf_18 : decode b_M_faultOf 18 = .ok (.iload_n 1, 1) := by decide +kernel
theorem d_M_faultOf_19 : decode b_M_faultOf 19 = .ok (.iaload, 1) := by decide +kernel
theorem d_M_faultOf_20 : decode b_M_faultOf 20 = .ok (.putfield 103, 3) := by decide +kernel
theorem d_M_faultOf_23 : decode b_M_faultOf 23 = .ok (.aload_n 0, 1) := by decide +kernel
theorem d_M_faultOf_24 : decode b_M_faultOf 24 = .ok (.iconst 0, 1) := by decide +kernel
theorem d_M_faultOf_25 : decode b_M_faultOf 25 = .ok (.putfield 113, 3) := by decide +kernel
theorem d_M_faultOf_28 : decode b_M_faultOf 28 = .ok (.aload_n 0, 1) := by decide +kernel
theorem d_M_faultOf_29 : decode b_M_faultOf 29 = .ok (.iconst 0, 1) := by decide +kernel
theorem d_M_faultOf_30 : decode b_M_faultOf 30 = .ok (.putfield 116, 3) := by decide +kernel
theorem d_M_faultOf_33 : decode b_M_faultOf 33 = .ok (.aload_n 0, 1) := by decide +kernel
theorem d_M_faultOf_34 : decode b_M_faultOf 34 = .ok (.invokevirtual 123, 3) := by decide +kernel
theorem d_M_faultOf_37 : decode b_M_faultOf 37 = .ok (.iconst 1, 1) := by decide +kernel
theorem d_M_faultOf_38 : decode b_M_faultOf 38 = .ok (.istore_n 2, 1) := by decide +kernel
theorem d_M_faultOf_39 : decode b_M_faultOf 39 = .ok (.iload_n 2, 1) := by decide +kernel
theorem d_M_faultOf_40 : decode b_M_faultOf 40 = .ok (.ifCond .eq 46, 3) := by decide +kernel
theorem d_M_faultOf_43 : decode b_M_faultOf 43 = .ok (.aload_n 0, 1) := by decide +kernel
theorem d_M_faultOf_44 : decode b_M_faultOf 44 = .ok (.getfield 100, 3) := by decide +kernel
theorem d_M_faultOf_47 : decode b_M_faultOf 47 = .ok (.aload_n 0, 1) := by decide +kernel
theorem d_M_faultOf_48 : decode b_M_faultOf 48 = .ok (.getfield 103, 3) := by decide +kernel
theorem d_M_faultOf_51 : decode b_M_faultOf 51 = .ok (.if_icmp .ge 35, 3) := by decide +kernel
theorem d_M_faultOf_54 : decode b_M_faultOf 54 = .ok (.aload_n 0, 1) := by decide +kernel
theorem d_M_faultOf_55 : decode b_M_faultOf 55 = .ok (.invokevirtual 106, 3) := by decide +kernel
theorem d_M_faultOf_58 : decode b_M_faultOf 58 = .ok (.bipush 120, 2) := by decide +kernel
theorem d_M_faultOf_60 : decode b_M_faultOf 60 = .ok (.if_icmp .ne 10, 3) := by decide +kernel
theorem d_M_faultOf_63 : decode b_M_faultOf 63 = .ok (.aload_n 0, 1) := by decide +kernel
theorem d_M_faultOf_64 : decode b_M_faultOf 64 = .ok (.invokevirtual 126, 3) := by decide +kernel
theorem d_M_faultOf_67 : decode b_M_faultOf 67 = .ok (.goto 7, 3) := by decide +kernel
theorem d_M_faultOf_70 : decode b_M_faultOf 70 = .ok (.aload_n 0, 1) := by decide +kernel
theorem d_M_faultOf_71 : decode b_M_faultOf 71 = .ok (.invokevirtual 130, 3) := by decide +kernel
theorem d_M_faultOf_74 : decode b_M_faultOf 74 = .ok (.istore_n 2, 1) := by decide +kernel
theorem d_M_faultOf_75 : decode b_M_faultOf 75 = .ok (.iload_n 2, 1) := by decide +kernel
theorem d_M_faultOf_76 : decode b_M_faultOf 76 = .ok (.ifCond .eq (-37), 3) := by decide +kernel
theorem d_M_faultOf_79 : decode b_M_faultOf 79 = .ok (.aload_n 0, 1) := by decide +kernel
theorem d_M_faultOf_80 : decode b_M_faultOf 80 = .ok (.invokevirtual 123, 3) := by decide +kernel
theorem d_M_faultOf_83 : decode b_M_faultOf 83 = .ok (.goto (-44), 3) := by decide +kernel
theorem d_M_faultOf_86 : decode b_M_faultOf 86 = .ok (.iload_n 2, 1) := by decide +kernel
theorem d_M_faultOf_87 : decode b_M_faultOf 87 = .ok (.ifCond .eq 16, 3) := by decide +kernel
theorem d_M_faultOf_90 : decode b_M_faultOf 90 = .ok (.aload_n 0, 1) := by decide +kernel
theorem d_M_faultOf_91 : decode b_M_faultOf 91 = .ok (.getfield 113, 3) := by decide +kernel
theorem d_M_faultOf_94 : decode b_M_faultOf 94 = .ok (.iconst 1, 1) := by decide +kernel
theorem d_M_faultOf_95 : decode b_M_faultOf 95 = .ok (.if_icmp .le 8, 3) := by decide +kernel
theorem d_M_faultOf_98 : decode b_M_faultOf 98 = .ok (.bipush (-9), 2) := by decide +kernel
theorem d_M_faultOf_100 : decode b_M_faultOf 100 = .ok (.goto 7, 3) := by decide +kernel
theorem d_M_faultOf_103 : decode b_M_faultOf 103 = .ok (.aload_n 0, 1) := by decide +kernel
theorem d_M_faultOf_104 : decode b_M_faultOf 104 = .ok (.getfield 100, 3) := by decide +kernel
theorem d_M_faultOf_107 : decode b_M_faultOf 107 = .ok (.ireturn, 1) := by decide +kernel
theorem d_M_figure_0 : decode b_M_figure 0 = .ok (.aload_n 0, 1) := by decide +kernel
theorem d_M_figure_1 : decode b_M_figure 1 = .ok (.getfield 100, 3) := by decide +kernel
theorem d_M_figure_4 : decode b_M_figure 4 = .ok (.aload_n 0, 1) := by decide +kernel
theorem d_M_figure_5 : decode b_M_figure 5 = .ok (.getfield 103, 3) := by decide +kernel
theorem d_M_figure_8 : decode b_M_figure 8 = .ok (.if_icmp .eq 35, 3) := by decide +kernel
theorem d_M_figure_11 : decode b_M_figure 11 = .ok (.aload_n 0, 1) := by decide +kernel
theorem d_M_figure_12 : decode b_M_figure 12 = .ok (.invokevirtual 106, 3) := by decide +kernel
theorem d_M_figure_15 : decode b_M_figure 15 = .ok (.i2l, 1) := by decide +kernel
theorem d_M_figure_16 : decode b_M_figure 16 = .ok (.bipush 48, 2) := by decide +kernel
theorem d_M_figure_18 : decode b_M_figure 18 = .ok (.iload_n 1, 1) := by decide +kernel
theorem d_M_figure_19 : decode b_M_figure 19 = .ok (.iadd, 1) := by decide +kernel
theorem d_M_figure_20 : decode b_M_figure 20 = .ok (.i2l, 1) := by decide +kernel
theorem d_M_figure_21 : decode b_M_figure 21 = .ok (.bipush 48, 2) := by decide +kernel
theorem d_M_figure_23 : decode b_M_figure 23 = .ok (.iload_n 2, 1) := by decide +kernel
theorem d_M_figure_24 : decode b_M_figure 24 = .ok (.iadd, 1) := by decide +kernel
theorem d_M_figure_25 : decode b_M_figure 25 = .ok (.i2l, 1) := by decide +kernel
theorem d_M_figure_26 : decode b_M_figure 26 = .ok (.invokestatic 65, 3) := by decide +kernel
theorem d_M_figure_29 : decode b_M_figure 29 = .ok (.ifCond .eq 14, 3) := by decide +kernel
theorem d_M_figure_32 : decode b_M_figure 32 = .ok (.aload_n 0, 1) := by decide +kernel
theorem d_M_figure_33 : decode b_M_figure 33 = .ok (.invokevirtual 106, 3) := by decide +kernel
theorem d_M_figure_36 : decode b_M_figure 36 = .ok (.bipush 48, 2) := by decide +kernel
theorem d_M_figure_38 : decode b_M_figure 38 = .ok (.isub, 1) := by decide +kernel
theorem d_M_figure_39 : decode b_M_figure 39 = .ok (.iload_n 3, 1) := by decide +kernel
theorem d_M_figure_40 : decode b_M_figure 40 = .ok (.if_icmp .ne 6, 3) := by decide +kernel
theorem d_M_figure_43 : decode b_M_figure 43 = .ok (.bipush (-9), 2) := by decide +kernel
theorem d_M_figure_45 : decode b_M_figure 45 = .ok (.ireturn, 1) := by decide +kernel
theorem d_M_figure_46 : decode b_M_figure 46 = .ok (.aload_n 0, 1) := by decide +kernel
theorem d_M_figure_47 : decode b_M_figure 47 = .ok (.dup, 1) := by decide +kernel
theorem d_M_figure_48 : decode b_M_figure 48 = .ok (.getfield 100, 3) := by decide +kernel
theorem d_M_figure_51 : decode b_M_figure 51 = .ok (.iconst 1, 1) := by decide +kernel
theorem d_M_figure_52 : decode b_M_figure 52 = .ok (.iadd, 1) := by decide +kernel
theorem d_M_figure_53 : decode b_M_figure 53 = .ok (.putfield 100, 3) := by decide +kernel
theorem d_M_figure_56 : decode b_M_figure 56 = .ok (.aload_n 0, 1) := by decide +kernel
theorem d_M_figure_57 : decode b_M_figure 57 = .ok (.getfield 25, 3) := by decide +kernel
theorem d_M_figure_60 : decode b_M_figure 60 = .ok (.aload_n 0, 1) := by decide +kernel
theorem d_M_figure_61 : decode b_M_figure 61 = .ok (.getfield 97, 3) := by decide +kernel
theorem d_M_figure_64 : decode b_M_figure 64 = .ok (.aload_n 0, 1) := by decide +kernel
theorem d_M_figure_65 : decode b_M_figure 65 = .ok (.getfield 100, 3) := by decide +kernel
theorem d_M_figure_68 : decode b_M_figure 68 = .ok (.iadd, 1) := by decide +kernel
theorem d_M_figure_69 : decode b_M_figure 69 = .ok (.iconst 1, 1) := by decide +kernel
theorem d_M_figure_70 : decode b_M_figure 70 = .ok (.isub, 1) := by decide +kernel
theorem d_M_figure_71 : decode b_M_figure 71 = .ok (.iaload, 1) := by decide +kernel
theorem d_M_figure_72 : decode b_M_figure 72 = .ok (.bipush 48, 2) := by decide +kernel
theorem d_M_figure_74 : decode b_M_figure 74 = .ok (.isub, 1) := by decide +kernel
theorem d_M_figure_75 : decode b_M_figure 75 = .ok (.ireturn, 1) := by decide +kernel
theorem d_M_find_0 : decode b_M_find 0 = .ok (.aload_n 0, 1) := by decide +kernel
theorem d_M_find_1 : decode b_M_find 1 = .ok (.iload_n 1, 1) := by decide +kernel
theorem d_M_find_2 : decode b_M_find 2 = .ok (.putfield 56, 3) := by decide +kernel
theorem d_M_find_5 : decode b_M_find 5 = .ok (.aload_n 0, 1) := by decide +kernel
theorem d_M_find_6 : decode b_M_find 6 = .ok (.getfield 32, 3) := by decide +kernel
theorem d_M_find_9 : decode b_M_find 9 = .ok (.iload_n 1, 1) := by decide +kernel
theorem d_M_find_10 : decode b_M_find 10 = .ok (.dup2, 1) := by decide +kernel
theorem d_M_find_11 : decode b_M_find 11 = .ok (.iaload, 1) := by decide +kernel
theorem d_M_find_12 : decode b_M_find 12 = .ok (.iconst 1, 1) := by decide +kernel
theorem d_M_find_13 : decode b_M_find 13 = .ok (.iadd, 1) := by decide +kernel
theorem d_M_find_14 : decode b_M_find 14 = .ok (.iastore, 1) := by decide +kernel
theorem d_M_find_15 : decode b_M_find 15 = .ok (.bipush (-3), 2) := by decide +kernel
theorem d_M_find_17 : decode b_M_find 17 = .ok (.ireturn, 1) := by decide +kernel
theorem d_M_finding_0 : decode b_M_finding 0 = .ok (.aload_n 0, 1) := by decide +kernel
theorem d_M_finding_1 : decode b_M_finding 1 = .ok (.getfield 56, 3) := by decide +kernel
theorem d_M_finding_4 : decode b_M_finding 4 = .ok (.ireturn, 1) := by decide +kernel
theorem d_M_findings_0 : decode b_M_findings 0 = .ok (.iload_n 1, 1) := by decide +kernel
theorem d_M_findings_1 : decode b_M_findings 1 = .ok (.i2l, 1) := by decide +kernel
theorem d_M_findings_2 : decode b_M_findings 2 = .ok (.lconst 1, 1) := by decide +kernel
theorem d_M_findings_3 : decode b_M_findings 3 = .ok (.ldc2_w 63, 3) := by decide +kernel
theorem d_M_findings_6 : decode b_M_findings 6 = .ok (.invokestatic 65, 3) := by decide +kernel
theorem d_M_findings_9 : decode b_M_findings 9 = .ok (.ifCond .eq 12, 3) := by decide +kernel
theorem d_M_findings_12 : decode b_M_findings 12 = .ok (.aload_n 0, 1) := by decide +kernel
theorem d_M_findings_13 : decode b_M_findings 13 = .ok (.getfield 32, 3) := by decide +kernel
theorem d_M_findings_16 : decode b_M_findings 16 = .ok (.iload_n 1, 1) := by decide +kernel
theorem d_M_findings_17 : decode b_M_findings 17 = .ok (.iaload, 1) := by decide +kernel
theorem d_M_findings_18 : decode b_M_findings 18 = .ok (.goto 4, 3) := by decide +kernel
theorem d_M_findings_21 : decode b_M_findings 21 = .ok (.iconst (-1), 1) := by decide +kernel
theorem d_M_findings_22 : decode b_M_findings 22 = .ok (.ireturn, 1) := by decide +kernel
theorem d_M_fits_0 : decode b_M_fits 0 = .ok (.iconst 1, 1) := by decide +kernel
theorem d_M_fits_1 : decode b_M_fits 1 = .ok (.istore_n 3, 1) := by decide +kernel
theorem d_M_fits_2 : decode b_M_fits 2 = .ok (.iconst 0, 1) := by decide +kernel
theorem d_M_fits_3 : decode b_M_fits 3 = .ok (.istore 4, 2) := by decide +kernel
theorem d_M_fits_5 : decode b_M_fits 5 = .ok (.iload 4, 2) := by decide +kernel
theorem d_M_fits_7 : decode b_M_fits 7 = .ok (.aload_n 0, 1) := by decide +kernel
theorem d_M_fits_8 : decode b_M_fits 8 = .ok (.getfield 136, 3) := by decide +kernel
theorem d_M_fits_11 : decode b_M_fits 11 = .ok (.if_icmp .ge 108, 3) := by decide +kernel
theorem d_M_fits_14 : decode b_M_fits 14 = .ok (.iload_n 3, 1) := by decide +kernel
theorem d_M_fits_15 : decode b_M_fits 15 = .ok (.ifCond .eq 104, 3) := by decide +kernel
theorem d_M_fits_18 : decode b_M_fits 18 = .ok (.iconst 0, 1) := by decide +kernel
theorem d_M_fits_19 : decode b_M_fits 19 = .ok (.istore 5, 2) := by decide +kernel
theorem d_M_fits_21 : decode b_M_fits 21 = .ok (.iconst 0, 1) := by decide +kernel
theorem d_M_fits_22 : decode b_M_fits 22 = .ok (.istore 6, 2) := by decide +kernel
theorem d_M_fits_24 : decode b_M_fits 24 = .ok (.iload 6, 2) := by decide +kernel
theorem d_M_fits_26 : decode b_M_fits 26 = .ok (.aload_n 0, 1) := by decide +kernel
theorem d_M_fits_27 : decode b_M_fits 27 = .ok (.getfield 7, 3) := by decide +kernel
theorem d_M_fits_30 : decode b_M_fits 30 = .ok (.iconst 1, 1) := by decide +kernel
theorem d_M_fits_31 : decode b_M_fits 31 = .ok (.iaload, 1) := by decide +kernel
theorem d_M_fits_32 : decode b_M_fits 32 = .ok (.if_icmp .ge 58, 3) := by decide +kernel
theorem d_M_fits_35 : decode b_M_fits 35 = .ok (.iload 5, 2) := by decide +kernel
theorem d_M_fits_37 : decode b_M_fits 37 = .ok (.iload_n 2, 1) := by decide +kernel
theorem d_M_fits_38 : decode b_M_fits 38 = .ok (.iload 6, 2) := by decide +kernel
theorem d_M_fits_40 : decode b_M_fits 40 = .ok (.invokestatic 152, 3) := by decide +kernel
theorem d_M_fits_43 : decode b_M_fits 43 = .ok (.ifCond .eq 37, 3) := by decide +kernel
theorem d_M_fits_46 : decode b_M_fits 46 = .ok (.aload_n 0, 1) := by decide +kernel
theorem d_M_fits_47 : decode b_M_fits 47 = .ok (.iload 6, 2) := by decide +kernel
theorem d_M_fits_49 : decode b_M_fits 49 = .ok (.iconst 0, 1) := by decide +kernel
theorem d_M_fits_50 : decode b_M_fits 50 = .ok (.invokevirtual 146, 3) := by decide +kernel
theorem d_M_fits_53 : decode b_M_fits 53 = .ok (.iload 4, 2) := by decide +kernel
theorem d_M_fits_55 : decode b_M_fits 55 = .ok (.if_icmp .eq 15, 3) := by decide +kernel
theorem d_M_fits_58 : decode b_M_fits 58 = .ok (.aload_n 0, 1) := by decide +kernel
theorem d_M_fits_59 : decode b_M_fits 59 = .ok (.iload 6, 2) := by decide +kernel
theorem d_M_fits_61 : decode b_M_fits 61 = .ok (.iconst 1, 1) := by decide +kernel
theorem d_M_fits_62 : decode b_M_fits 62 = .ok (.invokevirtual 146, 3) := by decide +kernel
theorem d_M_fits_65 : decode b_M_fits 65 = .ok (.iload 4, 2) := by decide +kernel
theorem d_M_fits_67 : decode b_M_fits 67 = .ok (.if_icmp .ne 13, 3) := by decide +kernel
theorem d_M_fits_70 : decode b_M_fits 70 = .ok (.aload_n 0, 1) := by decide +kernel
theorem d_M_fits_71 : decode b_M_fits 71 = .ok (.iload 6, 2) := by decide +kernel
theorem d_M_fits_73 : decode b_M_fits 73 = .ok (.iconst 3, 1) := by decide +kernel
theorem d_M_fits_74 : decode b_M_fits 74 = .ok (.invokevirtual 146, 3) := by decide +kernel
theorem d_M_fits_77 : decode b_M_fits 77 = .ok (.goto 4, 3) := by decide +kernel
theorem d_M_fits_80 : decode b_M_fits 80 = .ok (.iconst 0, 1) := by decide +kernel
theorem d_M_fits_81 : decode b_M_fits 81 = .ok (.iadd, 1) := by decide +kernel
theorem d_M_fits_82 : decode b_M_fits 82 = .ok (.istore 5, 2) := by decide +kernel
theorem d_M_fits_84 : decode b_M_fits 84 = .ok (.iinc 6 1, 3) := by decide +kernel
theorem d_M_fits_87 : decode b_M_fits 87 = .ok (.goto (-63), 3) := by decide +kernel
theorem d_M_fits_90 : decode b_M_fits 90 = .ok (.iload 5, 2) := by decide +kernel
theorem d_M_fits_92 : decode b_M_fits 92 = .ok (.aload_n 0, 1) := by decide +kernel
theorem d_M_fits_93 : decode b_M_fits 93 = .ok (.getfield 19, 3) := by decide +kernel
theorem d_M_fits_96 : decode b_M_fits 96 = .ok (.bipush 40, 2) := by decide +kernel
theorem d_M_fits_98 : decode b_M_fits 98 = .ok (.iload_n 1, 1) := by decide +kernel
theorem d_M_fits_99 : decode b_M_fits 99 = .ok (.imul, 1) := by decide +kernel
theorem d_M_fits_100 : decode b_M_fits 100 = .ok (.iload 4, 2) := by decide +kernel
theorem d_M_fits_102 : decode b_M_fits 102 = .ok (.iadd, 1) := by decide +kernel
theorem d_M_fits_103 : decode b_M_fits 103 = .ok (.iaload, 1) := by decide +kernel
theorem d_M_fits_104 : decode b_M_fits 104 = .ok (.if_icmp .ne 7, 3) := by decide +kernel
theorem d_M_fits_107 : decode b_M_fits 107 = .ok (.iconst 1, 1) := by decide +kernel
theorem d_M_fits_108 : decode b_M_fits 108 = .ok (.goto 4, 3) := by decide +kernel
theorem d_M_fits_111 : decode b_M_fits 111 = .ok (.iconst 0, 1) := by decide +kernel
theorem d_M_fits_112 : decode b_M_fits 112 = .ok (.istore_n 3, 1) := by decide +kernel
theorem d_M_fits_113 : decode b_M_fits 113 = .ok (.iinc 4 1, 3) := by decide +kernel
theorem d_M_fits_116 : decode b_M_fits 116 = .ok (.goto (-111), 3) := by decide +kernel
theorem d_M_fits_119 : decode b_M_fits 119 = .ok (.iload_n 3, 1) := by decide +kernel
theorem d_M_fits_120 : decode b_M_fits 120 = .ok (.ireturn, 1) := by decide +kernel
theorem d_M_following_0 : decode b_M_following 0 = .ok (.iload_n 1, 1) := by decide +kernel
theorem d_M_following_1 : decode b_M_following 1 = .ok (.istore_n 2, 1) := by decide +kernel
theorem d_M_following_2 : decode b_M_following 2 = .ok (.iload_n 2, 1) := by decide +kernel
theorem d_M_following_3 : decode b_M_following 3 = .ok (.aload_n 0, 1) := by decide +kernel
theorem d_M_following_4 : decode b_M_following 4 = .ok (.getfield 7, 3) := by decide +kernel
theorem d_M_following_7 : decode b_M_following 7 = .ok (.iconst 1, 1) := by decide +kernel
theorem d_M_following_8 : decode b_M_following 8 = .ok (.iaload, 1) := by decide +kernel
theorem d_M_following_9 : decode b_M_following 9 = .ok (.if_icmp .ge 19, 3) := by decide +kernel
theorem d_M_following_12 : decode b_M_following 12 = .ok (.aload_n 0, 1) := by decide +kernel
theorem d_M_following_13 : decode b_M_following 13 = .ok (.iload_n 2, 1) := by decide +kernel
theorem d_M_following_14 : decode b_M_following 14 = .ok (.invokevirtual 246, 3) := by decide +kernel
theorem d_M_following_17 : decode b_M_following 17 = .ok (.ifCond .eq 5, 3) := by decide +kernel
theorem d_M_following_20 : decode b_M_following 20 = .ok (.iload_n 2, 1) := by decide +kernel
theorem d_M_following_21 : decode b_M_following 21 = .ok (.ireturn, 1) := by decide +kernel
theorem d_M_following_22 : decode b_M_following 22 = .ok (.iinc 2 1, 3) := by decide +kernel
theorem d_M_following_25 : decode b_M_following 25 = .ok (.goto (-23), 3) := by decide +kernel
theorem d_M_following_28 : decode b_M_following 28 = .ok (.bipush (-9), 2) := by decide +kernel
theorem d_M_following_30 : decode b_M_following 30 = .ok (.ireturn, 1) := by decide +kernel
theorem d_M_follows_0 : decode b_M_follows 0 = .ok (.aload_n 0, 1) := by decide +kernel
theorem d_M_follows_1 : decode b_M_follows 1 = .ok (.getfield 41, 3) := by decide +kernel
theorem d_M_follows_4 : decode b_M_follows 4 = .ok (.iload_n 1, 1) := by decide +kernel
theorem d_M_follows_5 : decode b_M_follows 5 = .ok (.iaload, 1) := by decide +kernel
theorem d_M_follows_6 : decode b_M_follows 6 = .ok (.ifCond .eq 10, 3) := by decide +kernel
theorem d_M_follows_9 : decode b_M_follows 9 = .ok (.aload_n 0, 1) := by decide +kernel
theorem d_M_follows_10 : decode b_M_follows 10 = .ok (.getfield 243, 3) := by decide +kernel
theorem d_M_follows_13 : decode b_M_follows 13 = .ok (.ifCond .ne 18, 3) := by decide +kernel
theorem d_M_follows_16 : decode b_M_follows 16 = .ok (.aload_n 0, 1) := by decide +kernel
theorem d_M_follows_17 : decode b_M_follows 17 = .ok (.getfield 41, 3) := by decide +kernel
theorem d_M_follows_20 : decode b_M_follows 20 = .ok (.iload_n 1, 1) := by decide +kernel
theorem d_M_follows_21 : decode b_M_follows 21 = .ok (.iaload, 1) := by decide +kernel
theorem d_M_follows_22 : decode b_M_follows 22 = .ok (.ifCond .le 7, 3) := by decide +kernel
theorem d_M_follows_25 : decode b_M_follows 25 = .ok (.iconst 1, 1) := by decide +kernel
theorem d_M_follows_26 : decode b_M_follows 26 = .ok (.goto 4, 3) := by decide +kernel
theorem d_M_follows_29 : decode b_M_follows 29 = .ok (.iconst 0, 1) := by decide +kernel
theorem d_M_follows_30 : decode b_M_follows 30 = .ok (.ireturn, 1) := by decide +kernel
theorem d_M_follows_31 : decode b_M_follows 31 = .ok (.iload_n 1, 1) := by decide +kernel
theorem d_M_follows_32 : decode b_M_follows 32 = .ok (.aload_n 0, 1) := by decide +kernel
theorem d_M_follows_33 : decode b_M_follows 33 = .ok (.getfield 44, 3) := by decide +kernel
theorem d_M_follows_36 : decode b_M_follows 36 = .ok (.iconst 0, 1) := by decide +kernel
theorem d_M_follows_37 : decode b_M_follows 37 = .ok (.iaload, 1) := by decide +kernel
theorem d_M_follows_38 : decode b_M_follows 38 = .ok (.if_icmp .le 32, 3) := by decide +kernel
theorem d_M_follows_41 : decode b_M_follows 41 = .ok (.aload_n 0, 1) := by decide +kernel
theorem d_M_follows_42 : decode b_M_follows 42 = .ok (.iload_n 1, 1) := by decide +kernel
theorem d_M_follows_43 : decode b_M_follows 43 = .ok (.iconst 0, 1) := by decide +kernel
theorem d_M_follows_44 : decode b_M_follows 44 = .ok (.invokevirtual 146, 3) := by decide +kernel
theorem d_M_follows_47 : decode b_M_follows 47 = .ok (.aload_n 0, 1) := by decide +kernel
theorem d_M_follows_48 : decode b_M_follows 48 = .ok (.aload_n 0, 1) := by decide +kernel
theorem d_M_follows_49 : decode b_M_follows 49 = .ok (.getfield 44, 3) := by decide +kernel
theorem d_M_follows_52 : decode b_M_follows 52 = .ok (.aload_n 0, 1) := by decide +kernel
theorem d_M_follows_53 : decode b_M_follows 53 = .ok (.getfield 243, 3) := by decide +kernel
theorem d_M_follows_56 : decode b_M_follows 56 = .ok (.iconst 1, 1) := by decide +kernel
theorem d_M_follows_57 : decode b_M_follows 57 = .ok (.isub, 1) := by decide +kernel
theorem d_M_follows_58 : decode b_M_follows 58 = .ok (.iaload, 1) := by decide +kernel
theorem d_M_follows_59 : decode b_M_follows 59 = .ok (.iconst 1, 1) := by decide +kernel
theorem d_M_follows_60 : decode b_M_follows 60 = .ok (.invokevirtual 146, 3) := by decide +kernel
theorem d_M_follows_63 : decode b_M_follows 63 = .ok (.if_icmp .ne 7, 3) := by decide +kernel
theorem d_M_follows_66 : decode b_M_follows 66 = .ok (.iconst 1, 1) := by decide +kernel
theorem d_M_follows_67 : decode b_M_follows 67 = .ok (.goto 4, 3) := by decide +kernel
theorem d_M_follows_70 : decode b_M_follows 70 = .ok (.iconst 0, 1) := by decide +kernel
theorem d_M_follows_71 : decode b_M_follows 71 = .ok (.istore_n 2, 1) := by decide +kernel
theorem d_M_follows_72 : decode b_M_follows 72 = .ok (.iconst 1, 1) := by decide +kernel
theorem d_M_follows_73 : decode b_M_follows 73 = .ok (.istore_n 3, 1) := by decide +kernel
theorem d_M_follows_74 : decode b_M_follows 74 = .ok (.iload_n 3, 1) := by decide +kernel
theorem d_M_follows_75 : decode b_M_follows 75 = .ok (.aload_n 0, 1) := by decide +kernel
theorem d_M_follows_76 : decode b_M_follows 76 = .ok (.getfield 243, 3) := by decide +kernel
theorem d_M_follows_79 : decode b_M_follows 79 = .ok (.if_icmp .ge 39, 3) := by decide +kernel
theorem d_M_follows_82 : decode b_M_follows 82 = .ok (.iload_n 2, 1) := by decide +kernel
theorem d_M_follows_83 : decode b_M_follows 83 = .ok (.ifCond .eq 35, 3) := by decide +kernel
theorem d_M_follows_86 : decode b_M_follows 86 = .ok (.aload_n 0, 1) := by decide +kernel
theorem d_M_follows_87 : decode b_M_follows 87 = .ok (.aload_n 0, 1) := by decide +kernel
theorem d_M_follows_88 : decode b_M_follows 88 = .ok (.getfield 44, 3) := by decide +kernel
theorem d_M_follows_91 : decode b_M_follows 91 = .ok (.iload_n 3, 1) := by decide +kernel
theorem d_M_follows_92 : decode b_M_follows 92 = .ok (.iaload, 1) := by decide +kernel
theorem d_M_follows_93 : decode b_M_follows 93 = .ok (.iconst 0, 1) := by decide +kernel
theorem d_M_follows_94 : decode b_M_follows 94 = .ok (.invokevirtual 146, 3) := by decide +kernel
theorem d_M_follows_97 : decode b_M_follows 97 = .ok (.aload_n 0, 1) := by decide +kernel
theorem d_M_follows_98 : decode b_M_follows 98 = .ok (.iload_n 1, 1) := by decide +kernel
theorem d_M_follows_99 : decode b_M_follows 99 = .ok (.iconst 1, 1) := by decide +kernel
theorem d_M_follows_100 : decode b_M_follows 100 = .ok (.invokevirtual 146, 3) := by decide +kernel
theorem d_M_follows_103 : decode b_M_follows 103 = .ok (.if_icmp .eq 7, 3) := by decide +kernel
theorem d_M_follows_106 : decode b_M_follows 106 = .ok (.iconst 1, 1) := by decide +kernel
theorem d_M_follows_107 : decode b_M_follows 107 = .ok (.goto 4, 3) := by decide +kernel
theorem d_M_follows_110 : decode b_M_follows 110 = .ok (.iconst 0, 1) := by decide +kernel
theorem d_M_follows_111 : decode b_M_follows 111 = .ok (.istore_n 2, 1) := by decide +kernel
theorem d_M_follows_112 : decode b_M_follows 112 = .ok (.iinc 3 1, 3) := by decide +kernel
theorem d_M_follows_115 : decode b_M_follows 115 = .ok (.goto (-41), 3) := by decide +kernel
theorem d_M_follows_118 : decode b_M_follows 118 = .ok (.iload_n 2, 1) := by decide +kernel
theorem d_M_follows_119 : decode b_M_follows 119 = .ok (.ireturn, 1) := by decide +kernel
theorem d_M_gain_0 : decode b_M_gain 0 = .ok (.iload_n 1, 1) := by decide +kernel
theorem d_M_gain_1 : decode b_M_gain 1 = .ok (.invokestatic 71, 3) := by decide +kernel
theorem d_M_gain_4 : decode b_M_gain 4 = .ok (.ifCond .ne 5, 3) := by decide +kernel
theorem d_M_gain_7 : decode b_M_gain 7 = .ok (.iconst (-1), 1) := by decide +kernel
theorem d_M_gain_8 : decode b_M_gain 8 = .ok (.ireturn, 1) := by decide +kernel
theorem d_M_gain_9 : decode b_M_gain 9 = .ok (.aload_n 0, 1) := by decide +kernel
theorem d_M_gain_10 : decode b_M_gain 10 = .ok (.getfield 16, 3) := by decide +kernel
theorem d_M_gain_13 : decode b_M_gain 13 = .ok (.iload_n 1, 1) := by decide +kernel
theorem d_M_gain_14 : decode b_M_gain 14 = .ok (.iaload, 1) := by decide +kernel
theorem d_M_gain_15 : decode b_M_gain 15 = .ok (.ifCond .ge 9, 3) := by decide +kernel
theorem d_M_gain_18 : decode b_M_gain 18 = .ok (.aload_n 0, 1) := by decide +kernel
theorem d_M_gain_19 : decode b_M_gain 19 = .ok (.iconst 1, 1) := by decide +kernel
theorem d_M_gain_20 : decode b_M_gain 20 = .ok (.invokevirtual 75, 3) := by decide +kernel
theorem d_M_gain_23 : decode b_M_gain 23 = .ok (.ireturn, 1) := by decide +kernel
theorem d_M_gain_24 : decode b_M_gain 24 = .ok (.aload_n 0, 1) := by decide +kernel
theorem d_M_gain_25 : decode b_M_gain 25 = .ok (.getfield 16, 3) := by decide +kernel
theorem d_M_gain_28 : decode b_M_gain 28 = .ok (.iload_n 1, 1) := by decide +kernel
theorem d_M_gain_29 : decode b_M_gain 29 = .ok (.iaload, 1) := by decide +kernel
theorem d_M_gain_30 : decode b_M_gain 30 = .ok (.bipush 6, 2) := by decide +kernel
theorem d_M_gain_32 : decode b_M_gain 32 = .ok (.if_icmp .eq 9, 3) := by decide +kernel
theorem d_M_gain_35 : decode b_M_gain 35 = .ok (.aload_n 0, 1) := by decide +kernel
theorem d_M_gain_36 : decode b_M_gain 36 = .ok (.iconst 5, 1) := by decide +kernel
theorem d_M_gain_37 : decode b_M_gain 37 = .ok (.invokevirtual 75, 3) := by decide +kernel
theorem d_M_gain_40 : decode b_M_gain 40 = .ok (.ireturn, 1) := by decide +kernel
theorem d_M_gain_41 : decode b_M_gain 41 = .ok (.aload_n 0, 1) := by decide +kernel
theorem d_M_gain_42 : decode b_M_gain 42 = .ok (.iload_n 1, 1) := by decide +kernel
theorem d_M_gain_43 : decode b_M_gain 43 = .ok (.invokevirtual 294, 3) := by decide +kernel
theorem d_M_gain_46 : decode b_M_gain 46 = .ok (.ifCond .ne 9, 3) := by decide +kernel
theorem d_M_gain_49 : decode b_M_gain 49 = .ok (.aload_n 0, 1) := by decide +kernel
theorem d_M_gain_50 : decode b_M_gain 50 = .ok (.iconst 3, 1) := by decide +kernel
theorem d_M_gain_51 : decode b_M_gain 51 = .ok (.invokevirtual 75, 3) := by decide +kernel
theorem d_M_gain_54 : decode b_M_gain 54 = .ok (.ireturn, 1) := by decide +kernel
theorem d_M_gain_55 : decode b_M_gain 55 = .ok (.aload_n 0, 1) := by decide +kernel
theorem d_M_gain_56 : decode b_M_gain 56 = .ok (.iload_n 1, 1) := by decide +kernel
theorem d_M_gain_57 : decode b_M_gain 57 = .ok (.iconst 0, 1) := by decide +kernel
theorem d_M_gain_58 : decode b_M_gain 58 = .ok (.invokevirtual 297, 3) := by decide +kernel
theorem d_M_gain_61 : decode b_M_gain 61 = .ok (.aload_n 0, 1) := by decide +kernel
theorem d_M_gain_62 : decode b_M_gain 62 = .ok (.iload_n 1, 1) := by decide +kernel
theorem d_M_gain_63 : decode b_M_gain 63 = .ok (.iconst 2, 1) := by decide +kernel
theorem d_M_gain_64 : decode b_M_gain 64 = .ok (.invokevirtual 297, 3) := by decide +kernel
theorem d_M_gain_67 : decode b_M_gain 67 = .ok (.lmul, 1) := by decide +kernel
theorem d_M_gain_68 : decode b_M_gain 68 = .ok (.ldc2_w 301, 3) := by decide +kernel
theorem d_M_gain_71 : decode b_M_gain 71 = .ok (.lcmp, 1) := by decide +kernel
theorem d_M_gain_72 : decode b_M_gain 72 = .ok (.ifCond .le 7, 3) := by decide +kernel
theorem d_M_gain_75 : decode b_M_gain 75 = .ok (.iconst 1, 1) := by decide +kernel
theorem d_M_gain_76 : decode b_M_gain 76 = .ok (.goto 4, 3) := by decide +kernel
theorem d_M_gain_79 : decode b_M_gain 79 = .ok (.iconst 0, 1) := by decide +kernel
theorem d_M_gain_80 : decode b_M_gain 80 = .ok (.istore_n 2, 1) := by decide +kernel
theorem d_M_gain_81 : decode b_M_gain 81 = .ok (.aload_n 0, 1) := by decide +kernel
theorem d_M_gain_82 : decode b_M_gain 82 = .ok (.iload_n 1, 1) := by decide +kernel
theorem d_M_gain_83 : decode b_M_gain 83 = .ok (.iconst 1, 1) := by decide +kernel
theorem d_M_gain_84 : decode b_M_gain 84 = .ok (.invokevirtual 297, 3) := by decide +kernel
theorem d_M_gain_87 : decode b_M_gain 87 = .ok (.aload_n 0, 1) := by decide +kernel
theorem d_M_gain_88 : decode b_M_gain 88 = .ok (.iload_n 1, 1) := by decide +kernel
theorem d_M_gain_89 : decode b_M_gain 89 = .ok (.iconst 4, 1) := by decide +kernel
theorem d_M_gain_90 : decode b_M_gain 90 = .ok (.invokevirtual 297, 3) := by decide +kernel
theorem d_M_gain_93 : decode b_M_gain 93 = .ok (.lmul, 1) := by decide +kernel
theorem d_M_gain_94 : decode b_M_gain 94 = .ok (.ldc2_w 301, 3) := by decide +kernel
theorem d_M_gain_97 : decode b_M_gain 97 = .ok (.lcmp, 1) := by decide +kernel
theorem d_M_gain_98 : decode b_M_gain 98 = .ok (.ifCond .le 7, 3) := by decide +kernel
theorem d_M_gain_101 : decode b_M_gain 101 = .ok (.iconst 1, 1) := by decide +kernel
theorem d_M_gain_102 : decode b_M_gain 102 = .ok (.goto 4, 3) := by decide +kernel
theorem d_M_gain_105 : decode b_M_gain 105 = .ok (.iconst 0, 1) := by decide +kernel
theorem d_M_gain_106 : decode b_M_gain 106 = .ok (.istore_n 3, 1) := by decide +kernel
theorem d_M_gain_107 : decode b_M_gain 107 = .ok (.aload_n 0, 1) := by decide +kernel
theorem d_M_gain_108 : decode b_M_gain 108 = .ok (.iload_n 1, 1) := by decide +kernel
theorem d_M_gain_109 : decode b_M_gain 109 = .ok (.iconst 3, 1) := by decide +kernel
theorem d_M_gain_110 : decode b_M_gain 110 = .ok (.invokevirtual 297, 3) := by decide +kernel
theorem d_M_gain_113 : decode b_M_gain 113 = .ok (.aload_n 0, 1) := by decide +kernel
theorem d_M_gain_114 : decode b_M_gain 114 = .ok (.iload_n 1, 1) := by decide +kernel
theorem d_M_gain_115 : decode b_M_gain 115 = .ok (.iconst 5, 1) := by decide +kernel
theorem d_M_gain_116 : decode b_M_gain 116 = .ok (.invokevirtual 297, 3) := by decide +kernel
theorem d_M_gain_119 : decode b_M_gain 119 = .ok (.lmul, 1) := by decide +kernel
theorem d_M_gain_120 : decode b_M_gain 120 = .ok (.ldc2_w 301, 3) := by decide +kernel
theorem d_M_gain_123 : decode b_M_gain 123 = .ok (.lcmp, 1) := by decide +kernel
theorem d_M_gain_124 : decode b_M_gain 124 = .ok (.ifCond .le 7, 3) := by decide +kernel
theorem d_M_gain_127 : decode b_M_gain 127 = .ok (.iconst 1, 1) := by decide +kernel
theorem d_M_gain_128 : decode b_M_gain 128 = .ok (.goto 4, 3) := by decide +kernel
theorem d_M_gain_131 : decode b_M_gain 131 = .ok (.iconst 0, 1) := by decide +kernel
theorem d_M_gain_132 : decode b_M_gain 132 = .ok (.istore 4, 2) := by decide +kernel
theorem d_M_gain_134 : decode b_M_gain 134 = .ok (.aload_n 0, 1) := by decide +kernel
theorem d_M_gain_135 : decode b_M_gain 135 = .ok (.iload_n 1, 1) := by decide +kernel
theorem d_M_gain_136 : decode b_M_gain 136 = .ok (.iconst 0, 1) := by decide +kernel
theorem d_M_gain_137 : decode b_M_gain 137 = .ok (.invokevirtual 297, 3) := by decide +kernel
theorem d_M_gain_140 : decode b_M_gain 140 = .ok (.aload_n 0, 1) := by decide +kernel
theorem d_M_gain_141 : decode b_M_gain 141 = .ok (.iload_n 1, 1) := by decide +kernel
theorem d_M_gain_142 : decode b_M_gain 142 = .ok (.iconst 3, 1) := by decide +kernel
theorem d_M_gain_143 : decode b_M_gain 143 = .ok (.invokevirtual 297, 3) := by decide +kernel
theorem d_M_gain_146 : decode b_M_gain 146 = .ok (.lmul, 1) := by decide +kernel
theorem d_M_gain_147 : decode b_M_gain 147 = .ok (.aload_n 0, 1) := by decide +kernel
theorem d_M_gain_148 : decode b_M_gain 148 = .ok (.iload_n 1, 1) := by decide +kernel
theorem d_M_gain_149 : decode b_M_gain 149 = .ok (.iconst 4, 1) := by decide +kernel
theorem d_M_gain_150 : decode b_M_gain 150 = .ok (.invokevirtual 297, 3) := by decide +kernel
theorem d_M_gain_153 : decode b_M_gain 153 = .ok (.lmul, 1) := by decide +kernel
theorem d_M_gain_154 : decode b_M_gain 154 = .ok (.ldc2_w 303, 3) := by decide +kernel
theorem d_M_gain_157 : decode b_M_gain 157 = .ok (.lcmp, 1) := by decide +kernel
theorem d_M_gain_158 : decode b_M_gain 158 = .ok (.ifCond .le 7, 3) := by decide +kernel
theorem d_M_gain_161 : decode b_M_gain 161 = .ok (.iconst 1, 1) := by decide +kernel
theorem d_M_gain_162 : decode b_M_gain 162 = .ok (.goto 4, 3) := by decide +kernel
theorem d_M_gain_165 : decode b_M_gain 165 = .ok (.iconst 0, 1) := by decide +kernel
theorem d_M_gain_166 : decode b_M_gain 166 = .ok (.istore 5, 2) := by decide +kernel
theorem d_M_gain_168 : decode b_M_gain 168 = .ok (.aload_n 0, 1) := by decide +kernel
theorem d_M_gain_169 : decode b_M_gain 169 = .ok (.iload_n 1, 1) := by decide +kernel
theorem d_M_gain_170 : decode b_M_gain 170 = .ok (.iconst 1, 1) := by decide +kernel
theorem d_M_gain_171 : decode b_M_gain 171 = .ok (.invokevirtual 297, 3) := by decide +kernel
theorem d_M_gain_174 : decode b_M_gain 174 = .ok (.aload_n 0, 1) := by decide +kernel
theorem d_M_gain_175 : decode b_M_gain 175 = .ok (.iload_n 1, 1) := by decide +kernel
theorem d_M_gain_176 : decode b_M_gain 176 = .ok (.iconst 5, 1) := by decide +kernel
theorem d_M_gain_177 : decode b_M_gain 177 = .ok (.invokevirtual 297, 3) := by decide +kernel
theorem d_M_gain_180 : decode b_M_gain 180 = .ok (.lmul, 1) := by decide +kernel
theorem d_M_gain_181 : decode b_M_gain 181 = .ok (.aload_n 0, 1) := by decide +kernel
theorem d_M_gain_182 : decode b_M_gain 182 = .ok (.iload_n 1, 1) := by decide +kernel
theorem d_M_gain_183 : decode b_M_gain 183 = .ok (.iconst 2, 1) := by decide +kernel
theorem d_M_gain_184 : decode b_M_gain 184 = .ok (.invokevirtual 297, 3) := by decide +kernel
theorem d_M_gain_187 : decode b_M_gain 187 = .ok (.lmul, 1) := by decide +kernel
theorem d_M_gain_188 : decode b_M_gain 188 = .ok (.ldc2_w 303, 3) := by decide +kernel
theorem d_M_gain_191 : decode b_M_gain 191 = .ok (.lcmp, 1) := by decide +kernel
theorem d_M_gain_192 : decode b_M_gain 192 = .ok (.ifCond .le 7, 3) := by decide +kernel
theorem d_M_gain_195 : decode b_M_gain 195 = .ok (.iconst 1, 1) := by decide +kernel
theorem d_M_gain_196 : decode b_M_gain 196 = .ok (.goto 4, 3) := by decide +kernel
theorem d_M_gain_199 : decode b_M_gain 199 = .ok (.iconst 0, 1) := by decide +kernel
theorem d_M_gain_200 : decode b_M_gain 200 = .ok (.istore 6, 2) := by decide +kernel
theorem d_M_gain_202 : decode b_M_gain 202 = .ok (.iload_n 2, 1) := by decide +kernel
theorem d_M_gain_203 : decode b_M_gain 203 = .ok (.ifCond .eq 7, 3) := by decide +kernel
theorem d_M_gain_206 : decode b_M_gain 206 = .ok (.iconst 0, 1) := by decide +kernel
theorem d_M_gain_207 : decode b_M_gain 207 = .ok (.goto 40, 3) := by decide +kernel
theorem d_M_gain_210 : decode b_M_gain 210 = .ok (.iload_n 3, 1) := by decide +kernel
theorem d_M_gain_211 : decode b_M_gain 211 = .ok (.ifCond .eq 7, 3) := by decide +kernel
theorem d_M_gain_214 : decode b_M_gain 214 = .ok (.iconst 1, 1) := by decide +kernel
theorem d_M_gain_215 : decode b_M_gain 215 = .ok (.goto 32, 3) := by decide +kernel
theorem d_M_gain_218 : decode b_M_gain 218 = .ok (.iload 4, 2) := by decide +kernel
theorem d_M_gain_220 : decode b_M_gain 220 = .ok (.ifCond .eq 7, 3) := by decide +kernel
theorem d_M_gain_223 : decode b_M_gain 223 = .ok (.iconst 2, 1) := by decide +kernel
theorem d_M_gain_224 : decode b_M_gain 224 = .ok (.goto 23, 3) := by decide +kernel
theorem d_M_gain_227 : decode b_M_gain 227 = .ok (.iload 5, 2) := by decide +kernel
theorem d_M_gain_229 : decode b_M_gain 229 = .ok (.ifCond .eq 7, 3) := by decide +kernel
theorem d_M_gain_232 : decode b_M_gain 232 = .ok (.iconst 3, 1) := by decide +kernel
theorem d_M_gain_233 : decode b_M_gain 233 = .ok (.goto 14, 3) := by decide +kernel
theorem d_M_gain_236 : decode b_M_gain 236 = .ok (.iload 6, 2) := by decide +kernel
theorem d_M_gain_238 : decode b_M_gain 238 = .ok (.ifCond .eq 7, 3) := by decide +kernel
theorem d_M_gain_241 : decode b_M_gain 241 = .ok (.iconst 4, 1) := by decide +kernel
theorem d_M_gain_242 : decode b_M_gain 242 = .ok (.goto 5, 3) := by decide +kernel
theorem d_M_gain_245 : decode b_M_gain 245 = .ok (.bipush (-9), 2) := by decide +kernel
theorem d_M_gain_247 : decode b_M_gain 247 = .ok (.ireturn, 1) := by decide +kernel
theorem d_M_given_0 : decode b_M_given 0 = .ok (.iconst 0, 1) := by decide +kernel
theorem d_M_given_1 : decode b_M_given 1 = .ok (.istore_n 3, 1) := by decide +kernel
theorem d_M_given_2 : decode b_M_given 2 = .ok (.iconst 0, 1) := by decide +kernel
theorem d_M_given_3 : decode b_M_given 3 = .ok (.istore 4, 2) := by decide +kernel
theorem d_M_given_5 : decode b_M_given 5 = .ok (.iload 4, 2) := by decide +kernel
theorem d_M_given_7 : decode b_M_given 7 = .ok (.iconst 3, 1) := by decide +kernel
theorem d_M_given_8 : decode b_M_given 8 = .ok (.if_icmp .ge 85, 3) := by decide +kernel
theorem d_M_given_11 : decode b_M_given 11 = .ok (.iload 4, 2) := by decide +kernel
theorem d_M_given_13 : decode b_M_given 13 = .ok (.iconst 2, 1) := by decide +kernel
theorem d_M_given_14 : decode b_M_given 14 = .ok (.if_icmp .ne 7, 3) := by decide +kernel
theorem d_M_given_17 : decode b_M_given 17 = .ok (.iconst 0, 1) := by decide +kernel
theorem d_M_given_18 : decode b_M_given 18 = .ok (.goto 11, 3) := by decide +kernel
theorem d_M_given_21 : decode b_M_given 21 = .ok (.aload_n 0, 1) := by decide +kernel
theorem d_M_given_22 : decode b_M_given 22 = .ok (.iload_n 1, 1) := by decide +kernel
theorem d_M_given_23 : decode b_M_given 23 = .ok (.iload_n 2, 1) := by decide +kernel
theorem d_M_given_24 : decode b_M_given 24 = .ok (.iload 4, 2) := by decide +kernel
theorem d_M_given_26 : decode b_M_given 26 = .ok (.invokevirtual 222, 3) := by decide +kernel
theorem d_M_given_29 : decode b_M_given 29 = .ok (.istore 5, 2) := by decide +kernel
theorem d_M_given_31 : decode b_M_given 31 = .ok (.iload_n 3, 1) := by decide +kernel
theorem d_M_given_32 : decode b_M_given 32 = .ok (.aload_n 0, 1) := by decide +kernel
theorem d_M_given_33 : decode b_M_given 33 = .ok (.getfield 13, 3) := by decide +kernel
theorem d_M_given_36 : decode b_M_given 36 = .ok (.iload_n 1, 1) := by decide +kernel
theorem d_M_given_37 : decode b_M_given 37 = .ok (.iaload, 1) := by decide +kernel
theorem d_M_given_38 : decode b_M_given 38 = .ok (.iconst 2, 1) := by decide +kernel
theorem d_M_given_39 : decode b_M_given 39 = .ok (.if_icmp .ne 7, 3) := by decide +kernel
theorem d_M_given_42 : decode b_M_given 42 = .ok (.iconst 0, 1) := by decide +kernel
theorem d_M_given_43 : decode b_M_given 43 = .ok (.goto 14, 3) := by decide +kernel
theorem d_M_given_46 : decode b_M_given 46 = .ok (.aload_n 0, 1) := by decide +kernel
theorem d_M_given_47 : decode b_M_given 47 = .ok (.iload_n 1, 1) := by decide +kernel
theorem d_M_given_48 : decode b_M_given 48 = .ok (.iload_n 2, 1) := by decide +kernel
theorem d_M_given_49 : decode b_M_given 49 = .ok (.iload 4, 2) := by decide +kernel
theorem d_M_given_51 : decode b_M_given 51 = .ok (.invokevirtual 216, 3) := by decide +kernel
theorem d_M_given_54 : decode b_M_given 54 = .ok (.iload 5, 2) := by decide +kernel
theorem d_M_given_56 : decode b_M_given 56 = .ok (.isub, 1) := by decide +kernel
theorem d_M_given_57 : decode b_M_given 57 = .ok (.iadd, 1) := by decide +kernel
theorem d_M_given_58 : decode b_M_given 58 = .ok (.istore_n 3, 1) := by decide +kernel
theorem d_M_given_59 : decode b_M_given 59 = .ok (.iload_n 3, 1) := by decide +kernel
theorem d_M_given_60 : decode b_M_given 60 = .ok (.aload_n 0, 1) := by decide +kernel
theorem d_M_given_61 : decode b_M_given 61 = .ok (.getfield 13, 3) := by decide +kernel
theorem d_M_given_64 : decode b_M_given 64 = .ok (.iload_n 2, 1) := by decide +kernel
theorem d_M_given_65 : decode b_M_given 65 = .ok (.iaload, 1) := by decide +kernel
theorem d_M_given_66 : decode b_M_given 66 = .ok (.iconst 2, 1) := by decide +kernel
theorem d_M_given_67 : decode b_M_given 67 = .ok (.if_icmp .ne 7, 3) := by decide +kernel
theorem d_M_given_70 : decode b_M_given 70 = .ok (.iconst 0, 1) := by decide +kernel
theorem d_M_given_71 : decode b_M_given 71 = .ok (.goto 14, 3) := by decide +kernel
theorem d_M_given_74 : decode b_M_given 74 = .ok (.aload_n 0, 1) := by decide +kernel
theorem d_M_given_75 : decode b_M_given 75 = .ok (.iload_n 2, 1) := by decide +kernel
theorem d_M_given_76 : decode b_M_given 76 = .ok (.iload_n 1, 1) := by decide +kernel
theorem d_M_given_77 : decode b_M_given 77 = .ok (.iload 4, 2) := by decide +kernel
theorem d_M_given_79 : decode b_M_given 79 = .ok (.invokevirtual 216, 3) := by decide +kernel
theorem d_M_given_82 : decode b_M_given 82 = .ok (.iload 5, 2) := by decide +kernel
theorem d_M_given_84 : decode b_M_given 84 = .ok (.isub, 1) := by decide +kernel
theorem d_M_given_85 : decode b_M_given 85 = .ok (.iadd, 1) := by decide +kernel
theorem d_M_given_86 : decode b_M_given 86 = .ok (.istore_n 3, 1) := by decide +kernel
theorem d_M_given_87 : decode b_M_given 87 = .ok (.iinc 4 1, 3) := by decide +kernel
theorem d_M_given_90 : decode b_M_given 90 = .ok (.goto (-85), 3) := by decide +kernel
theorem d_M_given_93 : decode b_M_given 93 = .ok (.iload_n 3, 1) := by decide +kernel
theorem d_M_given_94 : decode b_M_given 94 = .ok (.ireturn, 1) := by decide +kernel
theorem d_M_growth_0 : decode b_M_growth 0 = .ok (.aload_n 0, 1) := by decide +kernel
theorem d_M_growth_1 : decode b_M_growth 1 = .ok (.getfield 13, 3) := by decide +kernel
theorem d_M_growth_4 : decode b_M_growth 4 = .ok (.iload_n 1, 1) := by decide +kernel
theorem d_M_growth_5 : decode b_M_growth 5 = .ok (.iaload, 1) := by decide +kernel
theorem d_M_growth_6 : decode b_M_growth 6 = .ok (.iconst 4, 1) := by decide +kernel
theorem d_M_growth_7 : decode b_M_growth 7 = .ok (.if_icmp .ne 7, 3) := by decide +kernel
theorem d_M_growth_10 : decode b_M_growth 10 = .ok (.iconst 2, 1) := by decide +kernel
theorem d_M_growth_11 : decode b_M_growth 11 = .ok (.goto 18, 3) := by decide +kernel
theorem d_M_growth_14 : decode b_M_growth 14 = .ok (.aload_n 0, 1) := by decide +kernel
theorem d_M_growth_15 : decode b_M_growth 15 = .ok (.getfield 13, 3) := by decide +kernel
theorem d_M_growth_18 : decode b_M_growth 18 = .ok (.iload_n 1, 1) := by decide +kernel
theorem d_M_growth_19 : decode b_M_growth 19 = .ok (.iaload, 1) := by decide +kernel
theorem d_M_growth_20 : decode b_M_growth 20 = .ok (.iconst 1, 1) := by decide +kernel
theorem d_M_growth_21 : decode b_M_growth 21 = .ok (.if_icmp .ne 7, 3) := by decide +kernel
theorem d_M_growth_24 : decode b_M_growth 24 = .ok (.iconst 1, 1) := by decide +kernel
theorem d_M_growth_25 : decode b_M_growth 25 = .ok (.goto 4, 3) := by decide +kernel
theorem d_M_growth_28 : decode b_M_growth 28 = .ok (.iconst 0, 1) := by decide +kernel
theorem d_M_growth_29 : decode b_M_growth 29 = .ok (.ireturn, 1) := by decide +kernel
theorem d_M_has_0 : decode b_M_has 0 = .ok (.iload_n 0, 1) := by decide +kernel
theorem d_M_has_1 : decode b_M_has 1 = .ok (.iload_n 1, 1) := by decide +kernel
theorem d_M_has_2 : decode b_M_has 2 = .ok (.ishr, 1) := by decide +kernel
theorem d_M_has_3 : decode b_M_has 3 = .ok (.iconst 1, 1) := by decide +kernel
theorem d_M_has_4 : decode b_M_has 4 = .ok (.iand, 1) := by decide +kernel
theorem d_M_has_5 : decode b_M_has 5 = .ok (.iconst 1, 1) := by decide +kernel
theorem d_M_has_6 : decode b_M_has 6 = .ok (.if_icmp .ne 7, 3) := by decide +kernel
theorem d_M_has_9 : decode b_M_has 9 = .ok (.iconst 1, 1) := by decide +kernel
theorem d_M_has_10 : decode b_M_has 10 = .ok (.goto 4, 3) := by decide +kernel
theorem d_M_has_13 : decode b_M_has 13 = .ok (.iconst 0, 1) := by decide +kernel
theorem d_M_has_14 : decode b_M_has 14 = .ok (.ireturn, 1) := by decide +kernel
theorem d_M_here_0 : decode b_M_here 0 = .ok (.aload_n 0, 1) := by decide +kernel
theorem d_M_here_1 : decode b_M_here 1 = .ok (.getfield 25, 3) := by decide +kernel
theorem d_M_here_4 : decode b_M_here 4 = .ok (.aload_n 0, 1) := by decide +kernel
theorem d_M_here_5 : decode b_M_here 5 = .ok (.getfield 97, 3) := by decide +kernel
theorem d_M_here_8 : decode b_M_here 8 = .ok (.aload_n 0, 1) := by decide +kernel
theorem d_M_here_9 : decode b_M_here 9 = .ok (.getfield 100, 3) := by decide +kernel
theorem d_M_here_12 : decode b_M_here 12 = .ok (.iadd, 1) := by decide +kernel
theorem d_M_here_13 : decode b_M_here 13 = .ok (.iaload, 1) := by decide +kernel
theorem d_M_here_14 : decode b_M_here 14 = .ok (.ireturn, 1) := by decide +kernel
theorem d_M_in_0 : decode b_M_in 0 = .ok (.lload_n 0, 1) := by decide +kernel
theorem d_M_in_1 : decode b_M_in 1 = .ok (.lload_n 2, 1) := by decide +kernel
theorem d_M_in_2 : decode b_M_in 2 = .ok (.lcmp, 1) := by decide +kernel
theorem d_M_in_3 : decode b_M_in 3 = .ok (.ifCond .lt 14, 3) := by decide +kernel
theorem d_M_in_6 : decode b_M_in 6 = .ok (.lload_n 0, 1) := by decide +kernel
theorem d_M_in_7 : decode b_M_in 7 = .ok (.lload 4, 2) := by decide +kernel
theorem d_M_in_9 : decode b_M_in 9 = .ok (.lcmp, 1) := by decide +kernel
theorem d_M_in_10 : decode b_M_in 10 = .ok (.ifCond .gt 7, 3) := by decide +kernel
theorem d_M_in_13 : decode b_M_in 13 = .ok (.iconst 1, 1) := by decide +kernel
theorem d_M_in_14 : decode b_M_in 14 = .ok (.goto 4, 3) := by decide +kernel
theorem d_M_in_17 : decode b_M_in 17 = .ok (.iconst 0, 1) := by decide +kernel
theorem d_M_in_18 : decode b_M_in 18 = .ok (.ireturn, 1) := by decide +kernel
theorem d_M_isAunt_0 : decode b_M_isAunt 0 = .ok (.iload_n 0, 1) := by decide +kernel
theorem d_M_isAunt_1 : decode b_M_isAunt 1 = .ok (.iconst 1, 1) := by decide +kernel
theorem d_M_isAunt_2 : decode b_M_isAunt 2 = .ok (.if_icmp .eq 8, 3) := by decide +kernel
theorem d_M_isAunt_5 : decode b_M_isAunt 5 = .ok (.iload_n 0, 1) := by decide +kernel
theorem d_M_isAunt_6 : decode b_M_isAunt 6 = .ok (.iconst 4, 1) := by decide +kernel
theorem d_M_isAunt_7 : decode b_M_isAunt 7 = .ok (.if_icmp .ne 7, 3) := by decide +kernel
theorem d_M_isAunt_10 : decode b_M_isAunt 10 = .ok (.iconst 1, 1) := by decide +kernel
theorem d_M_isAunt_11 : decode b_M_isAunt 11 = .ok (.goto 4, 3) := by decide +kernel
theorem d_M_isAunt_14 : decode b_M_isAunt 14 = .ok (.iconst 0, 1) := by decide +kernel
theorem d_M_isAunt_15 : decode b_M_isAunt 15 = .ok (.ireturn, 1) := by decide +kernel
theorem d_M_isBusy_0 : decode b_M_isBusy 0 = .ok (.iconst 0, 1) := by decide +kernel
theorem d_M_isBusy_1 : decode b_M_isBusy 1 = .ok (.istore_n 2, 1) := by decide +kernel
theorem d_M_isBusy_2 : decode b_M_isBusy 2 = .ok (.iconst 0, 1) := by decide +kernel
theorem d_M_isBusy_3 : decode b_M_isBusy 3 = .ok (.istore_n 3, 1) := by decide +kernel
theorem d_M_isBusy_4 : decode b_M_isBusy 4 = .ok (.iload_n 3, 1) := by decide +kernel
theorem d_M_isBusy_5 : decode b_M_isBusy 5 = .ok (.iload_n 1, 1) := by decide +kernel
theorem d_M_isBusy_6 : decode b_M_isBusy 6 = .ok (.if_icmp .ge 130, 3) := by decide +kernel
theorem d_M_isBusy_9 : decode b_M_isBusy 9 = .ok (.aload_n 0, 1) := by decide +kernel
theorem d_M_isBusy_10 : decode b_M_isBusy 10 = .ok (.getfield 50, 3) := by decide +kernel
theorem d_M_isBusy_13 : decode b_M_isBusy 13 = .ok (.iconst 2, 1) := by decide +kernel
theorem d_M_isBusy_14 : decode b_M_isBusy 14 = .ok (.iload_n 3, 1) := by decide +kernel
theorem d_M_isBusy_15 : decode b_M_isBusy 15 = .ok (.imul, 1) := by decide +kernel
theorem d_M_isBusy_16 : decode b_M_isBusy 16 = .ok (.iaload, 1) := by decide +kernel
theorem d_M_isBusy_17 : decode b_M_isBusy 17 = .ok (.aload_n 0, 1) := by decide +kernel
theorem d_M_isBusy_18 : decode b_M_isBusy 18 = .ok (.getfield 50, 3) := by decide +kernel
theorem d_M_isBusy_21 : decode b_M_isBusy 21 = .ok (.iconst 2, 1) := by decide +kernel
theorem d_M_isBusy_22 : decode b_M_isBusy 22 = .ok (.iload_n 1, 1) := by decide +kernel
theorem d_M_isBusy_23 : decode b_M_isBusy 23 = .ok (.imul, 1) := by decide +kernel
theorem d_M_isBusy_24 : decode b_M_isBusy 24 = .ok (.iaload, 1) := by decide +kernel
theorem d_M_isBusy_25 : decode b_M_isBusy 25 = .ok (.if_icmp .eq 68, 3) := by decide +kernel
theorem d_M_isBusy_28 : decode b_M_isBusy 28 = .ok (.aload_n 0, 1) := by decide +kernel
theorem d_M_isBusy_29 : decode b_M_isBusy 29 = .ok (.getfield 50, 3) := by decide +kernel
theorem d_M_isBusy_32 : decode b_M_isBusy 32 = .ok (.iconst 2, 1) := by decide +kernel
theorem d_M_isBusy_33 : decode b_M_isBusy 33 = .ok (.iload_n 3, 1) := by decide +kernel
theorem d_M_isBusy_34 : decode b_M_isBusy 34 = .ok (.imul, 1) := by decide +kernel
theorem d_M_isBusy_35 : decode b_M_isBusy 35 = .ok (.iaload, 1) := by decide +kernel
theorem d_M_isBusy_36 : decode b_M_isBusy 36 = .ok (.aload_n 0, 1) := by decide +kernel
theorem d_M_isBusy_37 : decode b_M_isBusy 37 = .ok (.getfield 50, 3) := by decide +kernel
theorem d_M_isBusy_40 : decode b_M_isBusy 40 = .ok (.iconst 2, 1) := by decide +kernel
theorem d_M_isBusy_41 : decode b_M_isBusy 41 = .ok (.iload_n 1, 1) := by decide +kernel
theorem d_M_isBusy_42 : decode b_M_isBusy 42 = .ok (.imul, 1) := by decide +kernel
theorem d_M_isBusy_43 : decode b_M_isBusy 43 = .ok (.iconst 1, 1) := by decide +kernel
theorem d_M_isBusy_44 : decode b_M_isBusy 44 = .ok (.iadd, 1) := by decide +kernel
theorem d_M_isBusy_45 : decode b_M_isBusy 45 = .ok (.iaload, 1) := by decide +kernel
theorem d_M_isBusy_46 : decode b_M_isBusy 46 = .ok (.if_icmp .eq 47, 3) := by decide +kernel
theorem d_M_isBusy_49 : decode b_M_isBusy 49 = .ok (.aload_n 0, 1) := by decide +kernel
theorem d_M_isBusy_50 : decode b_M_isBusy 50 = .ok (.getfield 50, 3) := by decide +kernel
theorem d_M_isBusy_53 : decode b_M_isBusy 53 = .ok (.iconst 2, 1) := by decide +kernel
theorem d_M_isBusy_54 : decode b_M_isBusy 54 = .ok (.iload_n 3, 1) := by decide +kernel
theorem d_M_isBusy_55 : decode b_M_isBusy 55 = .ok (.imul, 1) := by decide +kernel
theorem d_M_isBusy_56 : decode b_M_isBusy 56 = .ok (.iconst 1, 1) := by decide +kernel
theorem d_M_isBusy_57 : decode b_M_isBusy 57 = .ok (.iadd, 1) := by decide +kernel
theorem d_M_isBusy_58 : decode b_M_isBusy 58 = .ok (.iaload, 1) := by decide +kernel
theorem d_M_isBusy_59 : decode b_M_isBusy 59 = .ok (.aload_n 0, 1) := by decide +kernel
theorem d_M_isBusy_60 : decode b_M_isBusy 60 = .ok (.getfield 50, 3) := by decide +kernel
theorem d_M_isBusy_63 : decode b_M_isBusy 63 = .ok (.iconst 2, 1) := by decide +kernel
theorem d_M_isBusy_64 : decode b_M_isBusy 64 = .ok (.iload_n 1, 1) := by decide +kernel
theorem d_M_isBusy_65 : decode b_M_isBusy 65 = .ok (.imul, 1) := by decide +kernel
theorem d_M_isBusy_66 : decode b_M_isBusy 66 = .ok (.iaload, 1) := by decide +kernel
theorem d_M_isBusy_67 : decode b_M_isBusy 67 = .ok (.if_icmp .eq 26, 3) := by decide +kernel
theorem d_M_isBusy_70 : decode b_M_isBusy 70 = .ok (.aload_n 0, 1) := by decide +kernel
theorem d_M_isBusy_71 : decode b_M_isBusy 71 = .ok (.getfield 50, 3) := by decide +kernel
theorem d_M_isBusy_74 : decode b_M_isBusy 74 = .ok (.iconst 2, 1) := by decide +kernel
theorem d_M_isBusy_75 : decode b_M_isBusy 75 = .ok (.iload_n 3, 1) := by decide +kernel
theorem d_M_isBusy_76 : decode b_M_isBusy 76 = .ok (.imul, 1) := by decide +kernel
theorem d_M_isBusy_77 : decode b_M_isBusy 77 = .ok (.iconst 1, 1) := by decide +kernel
theorem d_M_isBusy_78 : decode b_M_isBusy 78 = .ok (.iadd, 1) := by decide +kernel
theorem d_M_isBusy_79 : decode b_M_isBusy 79 = .ok (.iaload, 1) := by decide +kernel
theorem d_M_isBusy_80 : decode b_M_isBusy 80 = .ok (.aload_n 0, 1) := by decide +kernel
theorem d_M_isBusy_81 : decode b_M_isBusy 81 = .ok (.getfield 50, 3) := by decide +kernel
theorem d_M_isBusy_84 : decode b_M_isBusy 84 = .ok (.iconst 2, 1) := by decide +kernel
theorem d_M_isBusy_85 : decode b_M_isBusy 85 = .ok (.iload_n 1, 1) := by decide +kernel
theorem d_M_isBusy_86 : decode b_M_isBusy 86 = .ok (.imul, 1) := by decide +kernel
theorem d_M_isBusy_87 : decode b_M_isBusy 87 = .ok (.iconst 1, 1) := by decide +kernel
theorem d_M_isBusy_88 : decode b_M_isBusy 88 = .ok (.iadd, 1) := by decide +kernel
theorem d_M_isBusy_89 : decode b_M_isBusy 89 = .ok (.iaload, 1) := by decide +kernel
theorem d_M_isBusy_90 : decode b_M_isBusy 90 = .ok (.if_icmp .ne 7, 3) := by decide +kernel
theorem d_M_isBusy_93 : decode b_M_isBusy 93 = .ok (.iconst 1, 1) := by decide +kernel
theorem d_M_isBusy_94 : decode b_M_isBusy 94 = .ok (.goto 4, 3) := by decide +kernel
theorem d_M_isBusy_97 : decode b_M_isBusy 97 = .ok (.iconst 0, 1) := by decide +kernel
theorem d_M_isBusy_98 : decode b_M_isBusy 98 = .ok (.istore 4, 2) := by decide +kernel
theorem d_M_isBusy_100 : decode b_M_isBusy 100 = .ok (.iload_n 2, 1) := by decide +kernel
theorem d_M_isBusy_101 : decode b_M_isBusy 101 = .ok (.ifCond .ne 23, 3) := by decide +kernel
theorem d_M_isBusy_104 : decode b_M_isBusy 104 = .ok (.iload 4, 2) := by decide +kernel
theorem d_M_isBusy_106 : decode b_M_isBusy 106 = .ok (.ifCond .eq 22, 3) := by decide +kernel
theorem d_M_isBusy_109 : decode b_M_isBusy 109 = .ok (.aload_n 0, 1) := by decide +kernel
theorem d_M_isBusy_110 : decode b_M_isBusy 110 = .ok (.getfield 53, 3) := by decide +kernel
theorem d_M_isBusy_113 : decode b_M_isBusy 113 = .ok (.iload_n 3, 1) := by decide +kernel
theorem d_M_isBusy_114 : decode b_M_isBusy 114 = .ok (.iaload, 1) := by decide +kernel
theorem d_M_isBusy_115 : decode b_M_isBusy 115 = .ok (.aload_n 0, 1) := by decide +kernel
theorem d_M_isBusy_116 : decode b_M_isBusy 116 = .ok (.getfield 53, 3) := by decide +kernel
theorem d_M_isBusy_119 : decode b_M_isBusy 119 = .ok (.iload_n 1, 1) := by decide +kernel
theorem d_M_isBusy_120 : decode b_M_isBusy 120 = .ok (.iaload, 1) := by decide +kernel
theorem d_M_isBusy_121 : decode b_M_isBusy 121 = .ok (.if_icmp .ne 7, 3) := by decide +kernel
theorem d_M_isBusy_124 : decode b_M_isBusy 124 = .ok (.iconst 1, 1) := by decide +kernel
theorem d_M_isBusy_125 : decode b_M_isBusy 125 = .ok (.goto 4, 3) := by decide +kernel
theorem d_M_isBusy_128 : decode b_M_isBusy 128 = .ok (.iconst 0, 1) := by decide +kernel
theorem d_M_isBusy_129 : decode b_M_isBusy 129 = .ok (.istore_n 2, 1) := by decide +kernel
theorem d_M_isBusy_130 : decode b_M_isBusy 130 = .ok (.iinc 3 1, 3) := by decide +kernel
theorem d_M_isBusy_133 : decode b_M_isBusy 133 = .ok (.goto (-129), 3) := by decide +kernel
theorem d_M_isBusy_136 : decode b_M_isBusy 136 = .ok (.iload_n 2, 1) := by decide +kernel
theorem d_M_isBusy_137 : decode b_M_isBusy 137 = .ok (.ireturn, 1) := by decide +kernel
theorem d_M_isDraft_0 : decode b_M_isDraft 0 = .ok (.iload_n 1, 1) := by decide +kernel
theorem d_M_isDraft_1 : decode b_M_isDraft 1 = .ok (.i2l, 1) := by decide +kernel
theorem d_M_isDraft_2 : decode b_M_isDraft 2 = .ok (.lconst 0, 1) := by decide +kernel
theorem d_M_isDraft_3 : decode b_M_isDraft 3 = .ok (.aload_n 0, 1) := by decide +kernel
theorem d_M_isDraft_4 : decode b_M_isDraft 4 = .ok (.getfield 7, 3) := by decide +kernel
theorem d_M_isDraft_7 : decode b_M_isDraft 7 = .ok (.iconst 1, 1) := by decide +kernel
theorem d_M_isDraft_8 : decode b_M_isDraft 8 = .ok (.iaload, 1) := by decide +kernel
theorem d_M_isDraft_9 : decode b_M_isDraft 9 = .ok (.iconst 1, 1) := by decide +kernel
theorem d_M_isDraft_10 : decode b_M_isDraft 10 = .ok (.isub, 1) := by decide +kernel
theorem d_M_isDraft_11 : decode b_M_isDraft 11 = .ok (.i2l, 1) := by decide +kernel
theorem d_M_isDraft_12 : decode b_M_isDraft 12 = .ok (.invokestatic 65, 3) := by decide +kernel
theorem d_M_isDraft_15 : decode b_M_isDraft 15 = .ok (.ireturn, 1) := by decide +kernel
theorem d_M_isFull_0 : decode b_M_isFull 0 = .ok (.aload_n 0, 1) := by decide +kernel
theorem d_M_isFull_1 : decode b_M_isFull 1 = .ok (.getfield 7, 3) := by decide +kernel
theorem d_M_isFull_4 : decode b_M_isFull 4 = .ok (.iconst 0, 1) := by decide +kernel
theorem d_M_isFull_5 : decode b_M_isFull 5 = .ok (.iaload, 1) := by decide +kernel
theorem d_M_isFull_6 : decode b_M_isFull 6 = .ok (.bipush 40, 2) := by decide +kernel
theorem d_M_isFull_8 : decode b_M_isFull 8 = .ok (.if_icmp .ne 7, 3) := by decide +kernel
theorem d_M_isFull_11 : decode b_M_isFull 11 = .ok (.iconst 1, 1) := by decide +kernel
theorem d_M_isFull_12 : decode b_M_isFull 12 = .ok (.goto 4, 3) := by decide +kernel
theorem d_M_isFull_15 : decode b_M_isFull 15 = .ok (.iconst 0, 1) := by decide +kernel
theorem d_M_isFull_16 : decode b_M_isFull 16 = .ok (.ireturn, 1) := by decide +kernel
theorem d_M_isOf_0 : decode b_M_isOf 0 = .ok (.aload_n 0, 1) := by decide +kernel
theorem d_M_isOf_1 : decode b_M_isOf 1 = .ok (.getfield 13, 3) := by decide +kernel
theorem d_M_isOf_4 : decode b_M_isOf 4 = .ok (.iload_n 1, 1) := by decide +kernel
theorem d_M_isOf_5 : decode b_M_isOf 5 = .ok (.iaload, 1) := by decide +kernel
theorem d_M_isOf_6 : decode b_M_isOf 6 = .ok (.iload_n 2, 1) := by decide +kernel
theorem d_M_isOf_7 : decode b_M_isOf 7 = .ok (.if_icmp .eq 33, 3) := by decide +kernel
theorem d_M_isOf_10 : decode b_M_isOf 10 = .ok (.iload_n 2, 1) := by decide +kernel
theorem d_M_isOf_11 : decode b_M_isOf 11 = .ok (.iconst 1, 1) := by decide +kernel
theorem d_M_isOf_12 : decode b_M_isOf 12 = .ok (.if_icmp .ne 13, 3) := by decide +kernel
theorem d_M_isOf_15 : decode b_M_isOf 15 = .ok (.aload_n 0, 1) := by decide +kernel
theorem d_M_isOf_16 : decode b_M_isOf 16 = .ok (.getfield 13, 3) := by decide +kernel
theorem d_M_isOf_19 : decode b_M_isOf 19 = .ok (.iload_n 1, 1) := by decide +kernel
theorem d_M_isOf_20 : decode b_M_isOf 20 = .ok (.iaload, 1) := by decide +kernel
theorem d_M_isOf_21 : decode b_M_isOf 21 = .ok (.iconst 4, 1) := by decide +kernel
theorem d_M_isOf_22 : decode b_M_isOf 22 = .ok (.if_icmp .eq 18, 3) := by decide +kernel
theorem d_M_isOf_25 : decode b_M_isOf 25 = .ok (.iload_n 2, 1) := by decide +kernel
theorem d_M_isOf_26 : decode b_M_isOf 26 = .ok (.iconst 3, 1) := by decide +kernel
theorem d_M_isOf_27 : decode b_M_isOf 27 = .ok (.if_icmp .ne 17, 3) := by decide +kernel
theorem d_M_isOf_30 : decode b_M_isOf 30 = .ok (.aload_n 0, 1) := by decide +kernel
theorem d_M_isOf_31 : decode b_M_isOf 31 = .ok (.getfield 13, 3) := by decide +kernel
theorem d_M_isOf_34 : decode b_M_isOf 34 = .ok (.iload_n 1, 1) := by decide +kernel
theorem d_M_isOf_35 : decode b_M_isOf 35 = .ok (.iaload, 1) := by decide +kernel
theorem d_M_isOf_36 : decode b_M_isOf 36 = .ok (.iconst 5, 1) := by decide +kernel
theorem d_M_isOf_37 : decode b_M_isOf 37 = .ok (.if_icmp .ne 7, 3) := by decide +kernel
theorem d_M_isOf_40 : decode b_M_isOf 40 = .ok (.iconst 1, 1) := by decide +kernel
theorem d_M_isOf_41 : decode b_M_isOf 41 = .ok (.goto 4, 3) := by decide +kernel
theorem d_M_isOf_44 : decode b_M_isOf 44 = .ok (.iconst 0, 1) := by decide +kernel
theorem d_M_isOf_45 : decode b_M_isOf 45 = .ok (.ireturn, 1) := by decide +kernel
theorem d_M_isOn_0 : decode b_M_isOn 0 = .ok (.aload_n 0, 1) := by decide +kernel
theorem d_M_isOn_1 : decode b_M_isOn 1 = .ok (.iload_n 1, 1) := by decide +kernel
theorem d_M_isOn_2 : decode b_M_isOn 2 = .ok (.iconst 0, 1) := by decide +kernel
theorem d_M_isOn_3 : decode b_M_isOn 3 = .ok (.invokevirtual 146, 3) := by decide +kernel
theorem d_M_isOn_6 : decode b_M_isOn 6 = .ok (.iload_n 2, 1) := by decide +kernel
theorem d_M_isOn_7 : decode b_M_isOn 7 = .ok (.if_icmp .ne 17, 3) := by decide +kernel
theorem d_M_isOn_10 : decode b_M_isOn 10 = .ok (.aload_n 0, 1) := by decide +kernel
theorem d_M_isOn_11 : decode b_M_isOn 11 = .ok (.iload_n 1, 1) := by decide +kernel
theorem d_M_isOn_12 : decode b_M_isOn 12 = .ok (.iconst 1, 1) := by decide +kernel
theorem d_M_isOn_13 : decode b_M_isOn 13 = .ok (.invokevirtual 146, 3) := by decide +kernel
theorem d_M_isOn_16 : decode b_M_isOn 16 = .ok (.iload_n 3, 1) := by decide +kernel
theorem d_M_isOn_17 : decode b_M_isOn 17 = .ok (.if_icmp .ne 7, 3) := by decide +kernel
theorem d_M_isOn_20 : decode b_M_isOn 20 = .ok (.iconst 1, 1) := by decide +kernel
theorem d_M_isOn_21 : decode b_M_isOn 21 = .ok (.goto 4, 3) := by decide +kernel
theorem d_M_isOn_24 : decode b_M_isOn 24 = .ok (.iconst 0, 1) := by decide +kernel
theorem d_M_isOn_25 : decode b_M_isOn 25 = .ok (.ireturn, 1) := by decide +kernel
theorem d_M_isOpen_0 : decode b_M_isOpen 0 = .ok (.aload_n 0, 1) := by decide +kernel
theorem d_M_isOpen_1 : decode b_M_isOpen 1 = .ok (.iload_n 1, 1) := by decide +kernel
theorem d_M_isOpen_2 : decode b_M_isOpen 2 = .ok (.iconst 3, 1) := by decide +kernel
theorem d_M_isOpen_3 : decode b_M_isOpen 3 = .ok (.invokevirtual 146, 3) := by decide +kernel
theorem d_M_isOpen_6 : decode b_M_isOpen 6 = .ok (.ifCond .le 7, 3) := by decide +kernel
theorem d_M_isOpen_9 : decode b_M_isOpen 9 = .ok (.iconst 1, 1) := by decide +kernel
theorem d_M_isOpen_10 : decode b_M_isOpen 10 = .ok (.goto 4, 3) := by decide +kernel
theorem d_M_isOpen_13 : decode b_M_isOpen 13 = .ok (.iconst 0, 1) := by decide +kernel
theorem d_M_isOpen_14 : decode b_M_isOpen 14 = .ok (.ireturn, 1) := by decide +kernel
theorem d_M_isOpenBetween_0 : decode b_M_isOpenBetween 0 = .ok (.iconst 0, 1) := by decide +kernel
theorem d_M_isOpenBetween_1 : decode b_M_isOpenBetween 1 = .ok (.istore_n 3, 1) := by decide +kernel
theorem d_M_isOpenBetween_2 : decode b_M_isOpenBetween 2 = .ok (.iconst 0, 1) := by decide +kernel
theorem d_M_isOpenBetween_3 : decode b_M_isOpenBetween 3 = .ok (.istore 4, 2) := by decide +kernel
theorem d_M_isOpenBetween_5 : decode b_M_isOpenBetween 5 = .ok (.iload 4, 2) := by decide +kernel
theorem d_M_isOpenBetween_7 : decode b_M_isOpenBetween 7 = .ok (.aload_n 0, 1) := by decide +kernel
theorem d_M_isOpenBetween_8 : decode b_M_isOpenBetween 8 = .ok (.getfield 7, 3) := by decide +kernel
theorem d_M_isOpenBetween_11 : decode b_M_isOpenBetween 11 = .ok (.iconst 1, 1) := by decide +kernel
theorem d_M_isOpenBetween_12 : decode b_M_isOpenBetween 12 = .ok (.iaload, 1) := by decide +kernel
theorem d_M_isOpenBetween_13 : decode b_M_isOpenBetween 13 = .ok (.if_icmp .ge 50, 3) := by decide +kernel
theorem d_M_isOpenBetween_16 : decode b_M_isOpenBetween 16 = .ok (.iload_n 3, 1) := by decide +kernel
theorem d_M_isOpenBetween_17 : decode b_M_isOpenBetween 17 = .ok (.ifCond .ne 34, 3) := by decide +kernel
theorem d_M_isOpenBetween_20 : decode b_M_isOpenBetween 20 = .ok (.aload_n 0, 1) := by decide +kernel
theorem d_M_isOpenBetween_21 : decode b_M_isOpenBetween 21 = .ok (.iload 4, 2) := by decide +kernel
theorem d_M_isOpenBetween_23 : decode b_M_isOpenBetween 23 = .ok (.invokevirtual 156, 3) := by decide +kernel
theorem d_M_isOpenBetween_26 : decode b_M_isOpenBetween 26 = .ok (.ifCond .eq 29, 3) := by decide +kernel
theorem d_M_isOpenBetween_29 : decode b_M_isOpenBetween 29 = .ok (.aload_n 0, 1) := by decide +kernel
theorem d_M_isOpenBetween_30 : decode b_M_isOpenBetween 30 = .ok (.iload 4, 2) := by decide +kernel
theorem d_M_isOpenBetween_32 : decode b_M_isOpenBetween 32 = .ok (.iload_n 1, 1) := by decide +kernel
theorem d_M_isOpenBetween_33 : decode b_M_isOpenBetween 33 = .ok (.iload_n 2, 1) := by decide +kernel
theorem d_M_isOpenBetween_34 : decode b_M_isOpenBetween 34 = .ok (.invokevirtual 213, 3) := by decide +kernel
theorem d_M_isOpenBetween_37 : decode b_M_isOpenBetween 37 = .ok (.ifCond .ne 14, 3) := by decide +kernel
theorem d_M_isOpenBetween_40 : decode b_M_isOpenBetween 40 = .ok (.aload_n 0, 1) := by decide +kernel
theorem d_M_isOpenBetween_41 : decode b_M_isOpenBetween 41 = .ok (.iload 4, 2) := by decide +kernel
theorem d_M_isOpenBetween_43 : decode b_M_isOpenBetween 43 = .ok (.iload_n 2, 1) := by decide +kernel
theorem d_M_isOpenBetween_44 : decode b_M_isOpenBetween 44 = .ok (.iload_n 1, 1) := by decide +kernel
theorem d_M_isOpenBetween_45 : decode b_M_isOpenBetween 45 = .ok (.invokevirtual 213, 3) := by decide +kernel
theorem d_M_isOpenBetween_48 : decode b_M_isOpenBetween 48 = .ok (.ifCond .eq 7, 3) := by decide +kernel
theorem d_M_isOpenBetween_51 : decode b_M_isOpenBetween 51 = .ok (.iconst 1, 1) := by decide +kernel
theorem d_M_isOpenBetween_52 : decode b_M_isOpenBetween 52 = .ok (.goto 4, 3) := by decide +kernel
theorem d_M_isOpenBetween_55 : decode b_M_isOpenBetween 55 = .ok (.iconst 0, 1) := by decide +kernel
theorem d_M_isOpenBetween_56 : decode b_M_isOpenBetween 56 = .ok (.istore_n 3, 1) := by decide +kernel
theorem d_M_isOpenBetween_57 : decode b_M_isOpenBetween 57 = .ok (.iinc 4 1, 3) := by decide +kernel
theorem d_M_isOpenBetween_60 : decode b_M_isOpenBetween 60 = .ok (.goto (-55), 3) := by decide +kernel
theorem d_M_isOpenBetween_63 : decode b_M_isOpenBetween 63 = .ok (.iload_n 3, 1) := by decide +kernel
theorem d_M_isOpenBetween_64 : decode b_M_isOpenBetween 64 = .ok (.ireturn, 1) := by decide +kernel
theorem d_M_isPerson_0 : decode b_M_isPerson 0 = .ok (.iload_n 1, 1) := by decide +kernel
theorem d_M_isPerson_1 : decode b_M_isPerson 1 = .ok (.i2l, 1) := by decide +kernel
theorem d_M_isPerson_2 : decode b_M_isPerson 2 = .ok (.lconst 0, 1) := by decide +kernel
theorem d_M_isPerson_3 : decode b_M_isPerson 3 = .ok (.aload_n 0, 1) := by decide +kernel
theorem d_M_isPerson_4 : decode b_M_isPerson 4 = .ok (.getfield 136, 3) := by decide +kernel
theorem d_M_isPerson_7 : decode b_M_isPerson 7 = .ok (.iconst 1, 1) := by decide +kernel
theorem d_M_isPerson_8 : decode b_M_isPerson 8 = .ok (.isub, 1) := by decide +kernel
theorem d_M_isPerson_9 : decode b_M_isPerson 9 = .ok (.i2l, 1) := by decide +kernel
theorem d_M_isPerson_10 : decode b_M_isPerson 10 = .ok (.invokestatic 65, 3) := by decide +kernel
theorem d_M_isPerson_13 : decode b_M_isPerson 13 = .ok (.ireturn, 1) := by decide +kernel
theorem d_M_isRing_0 : decode b_M_isRing 0 = .ok (.aload_n 0, 1) := by decide +kernel
theorem d_M_isRing_1 : decode b_M_isRing 1 = .ok (.getfield 16, 3) := by decide +kernel
theorem d_M_isRing_4 : decode b_M_isRing 4 = .ok (.iload_n 1, 1) := by decide +kernel
theorem d_M_isRing_5 : decode b_M_isRing 5 = .ok (.iaload, 1) := by decide +kernel
theorem d_M_isRing_6 : decode b_M_isRing 6 = .ok (.istore_n 2, 1) := by decide +kernel
theorem d_M_isRing_7 : decode b_M_isRing 7 = .ok (.iconst 0, 1) := by decide +kernel
theorem d_M_isRing_8 : decode b_M_isRing 8 = .ok (.istore_n 3, 1) := by decide +kernel
theorem d_M_isRing_9 : decode b_M_isRing 9 = .ok (.iload_n 2, 1) := by decide +kernel
theorem d_M_isRing_10 : decode b_M_isRing 10 = .ok (.iconst 2, 1) := by decide +kernel
theorem d_M_isRing_11 : decode b_M_isRing 11 = .ok (.if_icmp .le 13, 3) := by decide +kernel
theorem d_M_isRing_14 : decode b_M_isRing 14 = .ok (.iload_n 2, 1) := by decide +kernel
theorem d_M_isRing_15 : decode b_M_isRing 15 = .ok (.bipush 7, 2) := by decide +kernel
theorem d_M_isRing_17 : decode b_M_isRing 17 = .ok (.if_icmp .ge 7, 3) := by decide +kernel
theorem d_M_isRing_20 : decode b_M_isRing 20 = .ok (.iconst 1, 1) := by decide +kernel
theorem d_M_isRing_21 : decode b_M_isRing 21 = .ok (.goto 4, 3) := by decide +kernel
theorem d_M_isRing_24 : decode b_M_isRing 24 = .ok (.iconst 0, 1) := by decide +kernel
theorem d_M_isRing_25 : decode b_M_isRing 25 = .ok (.istore 4, 2) := by decide +kernel
theorem d_M_isRing_27 : decode b_M_isRing 27 = .ok (.iconst 0, 1) := by decide +kernel
theorem d_M_isRing_28 : decode b_M_isRing 28 = .ok (.istore 5, 2) := by decide +kernel
theorem d_M_isRing_30 : decode b_M_isRing 30 = .ok (.iload 5, 2) := by decide +kernel
theorem d_M_isRing_32 : decode b_M_isRing 32 = .ok (.iload_n 2, 1) := by decide +kernel
theorem d_M_isRing_33 : decode b_M_isRing 33 = .ok (.if_icmp .ge 133, 3) := by decide +kernel
theorem d_M_isRing_36 : decode b_M_isRing 36 = .ok (.iload 4, 2) := by decide +kernel
theorem d_M_isRing_38 : decode b_M_isRing 38 = .ok (.ifCond .eq 128, 3) := by decide +kernel
theorem d_M_isRing_41 : decode b_M_isRing 41 = .ok (.aload_n 0, 1) := by decide +kernel
theorem d_M_isRing_42 : decode b_M_isRing 42 = .ok (.getfield 19, 3) := by decide +kernel
theorem d_M_isRing_45 : decode b_M_isRing 45 = .ok (.bipush 40, 2) := by decide +kernel
theorem d_M_isRing_47 : decode b_M_isRing 47 = .ok (.iload_n 1, 1) := by decide +kernel
theorem d_M_isRing_48 : decode b_M_isRing 48 = .ok (.imul, 1) := by decide +kernel
theorem d_M_isRing_49 : decode b_M_isRing 49 = .ok (.iload 5, 2) := by decide +kernel
theorem d_M_isRing_51 : decode b_M_isRing 51 = .ok (.iadd, 1) := by decide +kernel
theorem d_M_isRing_52 : decode b_M_isRing 52 = .ok (.iaload, 1) := by decide +kernel
theorem d_M_isRing_53 : decode b_M_isRing 53 = .ok (.istore 6, 2) := by decide +kernel
theorem d_M_isRing_55 : decode b_M_isRing 55 = .ok (.aload_n 0, 1) := by decide +kernel
theorem d_M_isRing_56 : decode b_M_isRing 56 = .ok (.getfield 19, 3) := by decide +kernel
theorem d_M_isRing_59 : decode b_M_isRing 59 = .ok (.bipush 40, 2) := by decide +kernel
theorem d_M_isRing_61 : decode b_M_isRing 61 = .ok (.iload_n 1, 1) := by decide +kernel
theorem d_M_isRing_62 : decode b_M_isRing 62 = .ok (.imul, 1) := by decide +kernel
theorem d_M_isRing_63 : decode b_M_isRing 63 = .ok (.iload 5, 2) := by decide +kernel
theorem d_M_isRing_65 : decode b_M_isRing 65 = .ok (.iconst 1, 1) := by decide +kernel
theorem d_M_isRing_66 : decode b_M_isRing 66 = .ok (.iadd, 1) := by decide +kernel
theorem d_M_isRing_67 : decode b_M_isRing 67 = .ok (.iload_n 2, 1) := by decide +kernel
theorem d_M_isRing_68 : decode b_M_isRing 68 = .ok (.irem, 1) := by decide +kernel
theorem d_M_isRing_69 : decode b_M_isRing 69 = .ok (.iadd, 1) := by decide +kernel
theorem d_M_isRing_70 : decode b_M_isRing 70 = .ok (.iaload, 1) := by decide +kernel
theorem d_M_isRing_71 : decode b_M_isRing 71 = .ok (.istore 7, 2) := by decide +kernel
theorem d_M_isRing_73 : decode b_M_isRing 73 = .ok (.aload_n 0, 1) := by decide +kernel
theorem d_M_isRing_74 : decode b_M_isRing 74 = .ok (.iload 6, 2) := by decide +kernel
theorem d_M_isRing_76 : decode b_M_isRing 76 = .ok (.invokevirtual 156, 3) := by decide +kernel
theorem d_M_isRing_79 : decode b_M_isRing 79 = .ok (.ifCond .eq 66, 3) := by decide +kernel
theorem d_M_isRing_82 : decode b_M_isRing 82 = .ok (.aload_n 0, 1) := by decide +kernel
theorem d_M_isRing_83 : decode b_M_isRing 83 = .ok (.iload 6, 2) := by decide +kernel
theorem d_M_isRing_85 : decode b_M_isRing 85 = .ok (.iconst 2, 1) := by decide +kernel
theorem d_M_isRing_86 : decode b_M_isRing 86 = .ok (.invokevirtual 146, 3) := by decide +kernel
theorem d_M_isRing_89 : decode b_M_isRing 89 = .ok (.iconst 2, 1) := by decide +kernel
theorem d_M_isRing_90 : decode b_M_isRing 90 = .ok (.if_icmp .eq 55, 3) := by decide +kernel
theorem d_M_isRing_93 : decode b_M_isRing 93 = .ok (.aload_n 0, 1) := by decide +kernel
theorem d_M_isRing_94 : decode b_M_isRing 94 = .ok (.iload 6, 2) := by decide +kernel
theorem d_M_isRing_96 : decode b_M_isRing 96 = .ok (.iconst 2, 1) := by decide +kernel
theorem d_M_isRing_97 : decode b_M_isRing 97 = .ok (.invokevirtual 146, 3) := by decide +kernel
theorem d_M_isRing_100 : decode b_M_isRing 100 = .ok (.aload_n 0, 1) := by decide +kernel
theorem d_M_isRing_101 : decode b_M_isRing 101 = .ok (.iload 7, 2) := by decide +kernel
theorem d_M_isRing_103 : decode b_M_isRing 103 = .ok (.iconst 2, 1) := by decide +kernel
theorem d_M_isRing_104 : decode b_M_isRing 104 = .ok (.invokevirtual 146, 3) := by decide +kernel
theorem d_M_isRing_107 : decode b_M_isRing 107 = .ok (.if_icmp .ne 38, 3) := by decide +kernel
theorem d_M_isRing_110 : decode b_M_isRing 110 = .ok (.aload_n 0, 1) := by decide +kernel
theorem d_M_isRing_111 : decode b_M_isRing 111 = .ok (.iload 6, 2) := by decide +kernel
theorem d_M_isRing_113 : decode b_M_isRing 113 = .ok (.iconst 1, 1) := by decide +kernel
theorem d_M_isRing_114 : decode b_M_isRing 114 = .ok (.invokevirtual 146, 3) := by decide +kernel
theorem d_M_isRing_117 : decode b_M_isRing 117 = .ok (.aload_n 0, 1) := by decide +kernel
theorem d_M_isRing_118 : decode b_M_isRing 118 = .ok (.iload 7, 2) := by decide +kernel
theorem d_M_isRing_120 : decode b_M_isRing 120 = .ok (.iconst 0, 1) := by decide +kernel
theorem d_M_isRing_121 : decode b_M_isRing 121 = .ok (.invokevirtual 146, 3) := by decide +kernel
theorem d_M_isRing_124 : decode b_M_isRing 124 = .ok (.if_icmp .ne 21, 3) := by decide +kernel
theorem d_M_isRing_127 : decode b_M_isRing 127 = .ok (.iload_n 3, 1) := by decide +kernel
theorem d_M_isRing_128 : decode b_M_isRing 128 = .ok (.aload_n 0, 1) := by decide +kernel
theorem d_M_isRing_129 : decode b_M_isRing 129 = .ok (.iload 6, 2) := by decide +kernel
theorem d_M_isRing_131 : decode b_M_isRing 131 = .ok (.iconst 0, 1) := by decide +kernel
theorem d_M_isRing_132 : decode b_M_isRing 132 = .ok (.invokevirtual 146, 3) := by decide +kernel
theorem d_M_isRing_135 : decode b_M_isRing 135 = .ok (.invokestatic 152, 3) := by decide +kernel
theorem d_M_isRing_138 : decode b_M_isRing 138 = .ok (.ifCond .ne 7, 3) := by decide +kernel
theorem d_M_isRing_141 : decode b_M_isRing 141 = .ok (.iconst 1, 1) := by decide +kernel
theorem d_M_isRing_142 : decode b_M_isRing 142 = .ok (.goto 4, 3) := by decide +kernel
theorem d_M_isRing_145 : decode b_M_isRing 145 = .ok (.iconst 0, 1) := by decide +kernel
theorem d_M_isRing_146 : decode b_M_isRing 146 = .ok (.istore 4, 2) := by decide +kernel
theorem d_M_isRing_148 : decode b_M_isRing 148 = .ok (.iload_n 3, 1) := by decide +kernel
theorem d_M_isRing_149 : decode b_M_isRing 149 = .ok (.iconst 1, 1) := by decide +kernel
theorem d_M_isRing_150 : decode b_M_isRing 150 = .ok (.aload_n 0, 1) := by decide +kernel
theorem d_M_isRing_151 : decode b_M_isRing 151 = .ok (.iload 6, 2) := by decide +kernel
theorem d_M_isRing_153 : decode b_M_isRing 153 = .ok (.iconst 0, 1) := by decide +kernel
theorem d_M_isRing_154 : decode b_M_isRing 154 = .ok (.invokevirtual 146, 3) := by decide +kernel
theorem d_M_isRing_157 : decode b_M_isRing 157 = .ok (.ishl, 1) := by decide +kernel
theorem d_M_isRing_158 : decode b_M_isRing 158 = .ok (.ior, 1) := by decide +kernel
theorem d_M_isRing_159 : decode b_M_isRing 159 = .ok (.istore_n 3, 1) := by decide +kernel
theorem d_M_isRing_160 : decode b_M_isRing 160 = .ok (.iinc 5 1, 3) := by decide +kernel
theorem d_M_isRing_163 : decode b_M_isRing 163 = .ok (.goto (-133), 3) := by decide +kernel
theorem d_M_isRing_166 : decode b_M_isRing 166 = .ok (.iload 4, 2) := by decide +kernel
theorem d_M_isRing_168 : decode b_M_isRing 168 = .ok (.ireturn, 1) := by decide +kernel
theorem d_M_isRow_0 : decode b_M_isRow 0 = .ok (.iload_n 0, 1) := by decide +kernel
theorem d_M_isRow_1 : decode b_M_isRow 1 = .ok (.i2l, 1) := by decide +kernel
theorem d_M_isRow_2 : decode b_M_isRow 2 = .ok (.lconst 0, 1) := by decide +kernel
theorem d_M_isRow_3 : decode b_M_isRow 3 = .ok (.ldc2_w 63, 3) := by decide +kernel
theorem d_M_isRow_6 : decode b_M_isRow 6 = .ok (.invokestatic 65, 3) := by decide +kernel
theorem d_M_isRow_9 : decode b_M_isRow 9 = .ok (.ireturn, 1) := by decide +kernel
theorem d_M_isSpan_0 : decode b_M_isSpan 0 = .ok (.iload_n 2, 1) := by decide +kernel
theorem d_M_isSpan_1 : decode b_M_isSpan 1 = .ok (.ifCond .lt 23, 3) := by decide +kernel
theorem d_M_isSpan_4 : decode b_M_isSpan 4 = .ok (.iload_n 2, 1) := by decide +kernel
theorem d_M_isSpan_5 : decode b_M_isSpan 5 = .ok (.i2l, 1) := by decide +kernel
theorem d_M_isSpan_6 : decode b_M_isSpan 6 = .ok (.iload_n 3, 1) := by decide +kernel
theorem d_M_isSpan_7 : decode b_M_isSpan 7 = .ok (.i2l, 1) := by decide +kernel
theorem d_M_isSpan_8 : decode b_M_isSpan 8 = .ok (.ladd, 1) := by decide +kernel
theorem d_M_isSpan_9 : decode b_M_isSpan 9 = .ok (.aload_n 0, 1) := by decide +kernel
theorem d_M_isSpan_10 : decode b_M_isSpan 10 = .ok (.getfield 16, 3) := by decide +kernel
theorem d_M_isSpan_13 : decode b_M_isSpan 13 = .ok (.iload_n 1, 1) := by decide +kernel
theorem d_M_isSpan_14 : decode b_M_isSpan 14 = .ok (.iaload, 1) := by decide +kernel
theorem d_M_isSpan_15 : decode b_M_isSpan 15 = .ok (.i2l, 1) := by decide +kernel
theorem d_M_isSpan_16 : decode b_M_isSpan 16 = .ok (.lcmp, 1) := by decide +kernel
theorem d_M_isSpan_17 : decode b_M_isSpan 17 = .ok (.ifCond .gt 7, 3) := by decide +kernel
theorem d_M_isSpan_20 : decode b_M_isSpan 20 = .ok (.iconst 1, 1) := by decide +kernel
theorem d_M_isSpan_21 : decode b_M_isSpan 21 = .ok (.goto 4, 3) := by decide +kernel
theorem d_M_isSpan_24 : decode b_M_isSpan 24 = .ok (.iconst 0, 1) := by decide +kernel
theorem d_M_isSpan_25 : decode b_M_isSpan 25 = .ok (.ireturn, 1) := by decide +kernel
theorem d_M_isText_0 : decode b_M_isText 0 = .ok (.iload_n 0, 1) := by decide +kernel
theorem d_M_isText_1 : decode b_M_isText 1 = .ok (.i2l, 1) := by decide +kernel
theorem d_M_isText_2 : decode b_M_isText 2 = .ok (.lconst 0, 1) := by decide +kernel
theorem d_M_isText_3 : decode b_M_isText 3 = .ok (.ldc2_w 69, 3) := by decide +kernel
theorem d_M_isText_6 : decode b_M_isText 6 = .ok (.invokestatic 65, 3) := by decide +kernel
theorem d_M_isText_9 : decode b_M_isText 9 = .ok (.ireturn, 1) := by decide +kernel
theorem d_M_keep_0 : decode b_M_keep 0 = .ok (.iload_n 1, 1) := by decide +kernel
theorem d_M_keep_1 : decode b_M_keep 1 = .ok (.i2l, 1) := by decide +kernel
theorem d_M_keep_2 : decode b_M_keep 2 = .ok (.lconst 0, 1) := by decide +kernel
theorem d_M_keep_3 : decode b_M_keep 3 = .ok (.ldc2_w 203, 3) := by decide +kernel
theorem d_M_keep_6 : decode b_M_keep 6 = .ok (.invokestatic 65, 3) := by decide +kernel
theorem d_M_keep_9 : decode b_M_keep 9 = .ok (.ifCond .ne 5, 3) := by decide +kernel
theorem d_M_keep_12 : decode b_M_keep 12 = .ok (.iconst (-1), 1) := by decide +kernel
theorem d_M_keep_13 : decode b_M_keep 13 = .ok (.ireturn, 1) := by decide +kernel
theorem d_M_keep_14 : decode b_M_keep 14 = .ok (.aload_n 0, 1) := by decide +kernel
theorem d_M_keep_15 : decode b_M_keep 15 = .ok (.getfield 136, 3) := by decide +kernel
theorem d_M_keep_18 : decode b_M_keep 18 = .ok (.ifCond .ne 6, 3) := by decide +kernel
theorem d_M_keep_21 : decode b_M_keep 21 = .ok (.bipush (-4), 2) := by decide +kernel
theorem d_M_keep_23 : decode b_M_keep 23 = .ok (.ireturn, 1) := by decide +kernel
theorem d_M_keep_24 : decode b_M_keep 24 = .ok (.aload_n 0, 1) := by decide +kernel
theorem d_M_keep_25 : decode b_M_keep 25 = .ok (.iconst 0, 1) := by decide +kernel
theorem d_M_keep_26 : decode b_M_keep 26 = .ok (.sipush 2994, 3) := by decide +kernel
theorem d_M_keep_29 : decode b_M_keep 29 = .ok (.iconst 1, 1) := by decide +kernel
theorem d_M_keep_30 : decode b_M_keep 30 = .ok (.iload_n 1, 1) := by decide +kernel
theorem d_M_keep_31 : decode b_M_keep 31 = .ok (.iadd, 1) := by decide +kernel
theorem d_M_keep_32 : decode b_M_keep 32 = .ok (.imul, 1) := by decide +kernel
theorem d_M_keep_33 : decode b_M_keep 33 = .ok (.invokevirtual 240, 3) := by decide +kernel
theorem d_M_keep_36 : decode b_M_keep 36 = .ok (.aload_n 0, 1) := by decide +kernel
theorem d_M_keep_37 : decode b_M_keep 37 = .ok (.getfield 7, 3) := by decide +kernel
theorem d_M_keep_40 : decode b_M_keep 40 = .ok (.iconst 0, 1) := by decide +kernel
theorem d_M_keep_41 : decode b_M_keep 41 = .ok (.iaload, 1) := by decide +kernel
theorem d_M_keep_42 : decode b_M_keep 42 = .ok (.ireturn, 1) := by decide +kernel
theorem d_M_keepPast_0 : decode b_M_keepPast 0 = .ok (.iconst 0, 1) := by decide +kernel
theorem d_M_keepPast_1 : decode b_M_keepPast 1 = .ok (.istore_n 1, 1) := by decide +kernel
theorem d_M_keepPast_2 : decode b_M_keepPast 2 = .ok (.iload_n 1, 1) := by decide +kernel
theorem d_M_keepPast_3 : decode b_M_keepPast 3 = .ok (.bipush 73, 2) := by decide +kernel
theorem d_M_keepPast_5 : decode b_M_keepPast 5 = .ok (.if_icmp .ge 36, 3) := by decide +kernel
theorem d_M_keepPast_8 : decode b_M_keepPast 8 = .ok (.aload_n 0, 1) := by decide +kernel
theorem d_M_keepPast_9 : decode b_M_keepPast 9 = .ok (.getfield 7, 3) := by decide +kernel
theorem d_M_keepPast_12 : decode b_M_keepPast 12 = .ok (.bipush 74, 2) := by decide +kernel
theorem d_M_keepPast_14 : decode b_M_keepPast 14 = .ok (.bipush 73, 2) := by decide +kernel
theorem d_M_keepPast_16 : decode b_M_keepPast 16 = .ok (.aload_n 0, 1) := by decide +kernel
theorem d_M_keepPast_17 : decode b_M_keepPast 17 = .ok (.getfield 7, 3) := by decide +kernel
theorem d_M_keepPast_20 : decode b_M_keepPast 20 = .ok (.iconst 0, 1) := by decide +kernel
theorem d_M_keepPast_21 : decode b_M_keepPast 21 = .ok (.iaload, 1) := by decide +kernel
theorem d_M_keepPast_22 : decode b_M_keepPast 22 = .ok (.imul, 1) := by decide +kernel
theorem d_M_keepPast_23 : decode b_M_keepPast 23 = .ok (.iadd, 1) := by decide +kernel
theorem d_M_keepPast_24 : decode b_M_keepPast 24 = .ok (.iload_n 1, 1) := by decide +kernel
theorem d_M_keepPast_25 : decode b_M_keepPast 25 = .ok (.iadd, 1) := by decide +kernel
theorem d_M_keepPast_26 : decode b_M_keepPast 26 = .ok (.aload_n 0, 1) := by decide +kernel
theorem d_M_keepPast_27 : decode b_M_keepPast 27 = .ok (.getfield 7, 3) := by decide +kernel
theorem d_M_keepPast_30 : decode b_M_keepPast 30 = .ok (.iconst 1, 1) := by decide +kernel
theorem d_M_keepPast_31 : decode b_M_keepPast 31 = .ok (.iload_n 1, 1) := by decide +kernel
theorem d_M_keepPast_32 : decode b_M_keepPast 32 = .ok (.iadd, 1) := by decide +kernel
theorem d_M_keepPast_33 : decode b_M_keepPast 33 = .ok (.iaload, 1) := by decide +kernel
theorem d_M_keepPast_34 : decode b_M_keepPast 34 = .ok (.iastore, 1) := by decide +kernel
theorem d_M_keepPast_35 : decode b_M_keepPast 35 = .ok (.iinc 1 1, 3) := by decide +kernel
theorem d_M_keepPast_38 : decode b_M_keepPast 38 = .ok (.goto (-36), 3) := by decide +kernel
theorem d_M_keepPast_41 : decode b_M_keepPast 41 = .ok (.aload_n 0, 1) := by decide +kernel
theorem d_M_keepPast_42 : decode b_M_keepPast 42 = .ok (.getfield 7, 3) := by decide +kernel
theorem d_M_keepPast_45 : decode b_M_keepPast 45 = .ok (.iconst 0, 1) := by decide +kernel
theorem d_M_keepPast_46 : decode b_M_keepPast 46 = .ok (.dup2, 1) := by decide +kernel
theorem d_M_keepPast_47 : decode b_M_keepPast 47 = .ok (.iaload, 1) := by decide +kernel
theorem d_M_keepPast_48 : decode b_M_keepPast 48 = .ok (.iconst 1, 1) := by decide +kernel
theorem d_M_keepPast_49 : decode b_M_keepPast 49 = .ok (.iadd, 1) := by decide +kernel
theorem d_M_keepPast_50 : decode b_M_keepPast 50 = .ok (.iastore, 1) := by decide +kernel
theorem d_M_keepPast_51 : decode b_M_keepPast 51 = .ok (.return_, 1) := by decide +kernel
theorem d_M_kindOfLetter_0 : decode b_M_kindOfLetter 0 = .ok (.iload_n 0, 1) := by decide +kernel
theorem d_M_kindOfLetter_1 : decode b_M_kindOfLetter 1 = .ok (.bipush 112, 2) := by decide +kernel
theorem d_M_kindOfLetter_3 : decode b_M_kindOfLetter 3 = .ok (.if_icmp .ne 7, 3) := by decide +kernel
theorem d_M_kindOfLetter_6 : decode b_M_kindOfLetter 6 = .ok (.iconst 0, 1) := by decide +kernel
theorem d_M_kindOfLetter_7 : decode b_M_kindOfLetter 7 = .ok (.goto 55, 3) := by decide +kernel
theorem d_M_kindOfLetter_10 : decode b_M_kindOfLetter 10 = .ok (.iload_n 0, 1) := by decide +kernel
theorem d_M_kindOfLetter_11 : decode b_M_kindOfLetter 11 = .ok (.bipush 97, 2) := by decide +kernel
theorem d_M_kindOfLetter_13 : decode b_M_kindOfLetter 13 = .ok (.if_icmp .ne 7, 3) := by decide +kernel
theorem d_M_kindOfLetter_16 : decode b_M_kindOfLetter 16 = .ok (.iconst 1, 1) := by decide +kernel
theorem d_M_kindOfLetter_17 : decode b_M_kindOfLetter 17 = .ok (.goto 45, 3) := by decide +kernel
theorem d_M_kindOfLetter_20 : decode b_M_kindOfLetter 20 = .ok (.iload_n 0, 1) := by decide +kernel
theorem d_M_kindOfLetter_21 : decode b_M_kindOfLetter 21 = .ok (.bipush 115, 2) := by decide +kernel
theorem d_M_kindOfLetter_23 : decode b_M_kindOfLetter 23 = .ok (.if_icmp .ne 7, 3) := by decide +kernel
theorem d_M_kindOfLetter_26 : decode b_M_kindOfLetter 26 = .ok (.iconst 2, 1) := by decide +kernel
theorem d_M_kindOfLetter_27 : decode b_M_kindOfLetter 27 = .ok (.goto 35, 3) := by decide +kernel
theorem d_M_kindOfLetter_30 : decode b_M_kindOfLetter 30 = .ok (.iload_n 0, 1) := by decide +kernel
theorem d_M_kindOfLetter_31 : decode b_M_kindOfLetter 31 = .ok (.bipush 98, 2) := by decide +kernel
theorem d_M_kindOfLetter_33 : decode b_M_kindOfLetter 33 = .ok (.if_icmp .ne 7, 3) := by decide +kernel
theorem d_M_kindOfLetter_36 : decode b_M_kindOfLetter 36 = .ok (.iconst 3, 1) := by decide +kernel
theorem d_M_kindOfLetter_37 : decode b_M_kindOfLetter 37 = .ok (.goto 25, 3) := by decide +kernel
theorem d_M_kindOfLetter_40 : decode b_M_kindOfLetter 40 = .ok (.iload_n 0, 1) := by decide +kernel
theorem d_M_kindOfLetter_41 : decode b_M_kindOfLetter 41 = .ok (.bipush 103, 2) := by decide +kernel
theorem d_M_kindOfLetter_43 : decode b_M_kindOfLetter 43 = .ok (.if_icmp .ne 7, 3) := by decide +kernel
theorem d_M_kindOfLetter_46 : decode b_M_kindOfLetter 46 = .ok (.iconst 4, 1) := by decide +kernel
theorem d_M_kindOfLetter_47 : decode b_M_kindOfLetter 47 = .ok (.goto 15, 3) := by decide +kernel
theorem d_M_kindOfLetter_50 : decode b_M_kindOfLetter 50 = .ok (.iload_n 0, 1) := by decide +kernel
theorem d_M_kindOfLetter_51 : decode b_M_kindOfLetter 51 = .ok (.bipush 105, 2) := by decide +kernel
theorem d_M_kindOfLetter_53 : decode b_M_kindOfLetter 53 = .ok (.if_icmp .ne 7, 3) := by decide +kernel
theorem d_M_kindOfLetter_56 : decode b_M_kindOfLetter 56 = .ok (.iconst 5, 1) := by decide +kernel
theorem d_M_kindOfLetter_57 : decode b_M_kindOfLetter 57 = .ok (.goto 5, 3) := by decide +kernel
theorem d_M_kindOfLetter_60 : decode b_M_kindOfLetter 60 = .ok (.bipush (-9), 2) := by decide +kernel
theorem d_M_kindOfLetter_62 : decode b_M_kindOfLetter 62 = .ok (.ireturn, 1) := by decide +kernel
theorem d_M_lay_0 : decode b_M_lay 0 = .ok (.aload_n 0, 1) := by decide +kernel
theorem d_M_lay_1 : decode b_M_lay 1 = .ok (.iload_n 1, 1) := by decide +kernel
theorem d_M_lay_2 : decode b_M_lay 2 = .ok (.iload_n 2, 1) := by decide +kernel
theorem d_M_lay_3 : decode b_M_lay 3 = .ok (.invokevirtual 83, 3) := by decide +kernel
theorem d_M_lay_6 : decode b_M_lay 6 = .ok (.istore 4, 2) := by decide +kernel
theorem d_M_lay_8 : decode b_M_lay 8 = .ok (.iload 4, 2) := by decide +kernel
theorem d_M_lay_10 : decode b_M_lay 10 = .ok (.ifCond .eq 6, 3) := by decide +kernel
theorem d_M_lay_13 : decode b_M_lay 13 = .ok (.iload 4, 2) := by decide +kernel
theorem d_M_lay_15 : decode b_M_lay 15 = .ok (.ireturn, 1) := by decide +kernel
theorem d_M_lay_16 : decode b_M_lay 16 = .ok (.aload_n 0, 1) := by decide +kernel
theorem d_M_lay_17 : decode b_M_lay 17 = .ok (.getfield 19, 3) := by decide +kernel
theorem d_M_lay_20 : decode b_M_lay 20 = .ok (.bipush 40, 2) := by decide +kernel
theorem d_M_lay_22 : decode b_M_lay 22 = .ok (.iload_n 1, 1) := by decide +kernel
theorem d_M_lay_23 : decode b_M_lay 23 = .ok (.imul, 1) := by decide +kernel
theorem d_M_lay_24 : decode b_M_lay 24 = .ok (.iload_n 2, 1) := by decide +kernel
theorem d_M_lay_25 : decode b_M_lay 25 = .ok (.iadd, 1) := by decide +kernel
theorem d_M_lay_26 : decode b_M_lay 26 = .ok (.iaload, 1) := by decide +kernel
theorem d_M_lay_27 : decode b_M_lay 27 = .ok (.istore 5, 2) := by decide +kernel
theorem d_M_lay_29 : decode b_M_lay 29 = .ok (.aload_n 0, 1) := by decide +kernel
theorem d_M_lay_30 : decode b_M_lay 30 = .ok (.getfield 19, 3) := by decide +kernel
theorem d_M_lay_33 : decode b_M_lay 33 = .ok (.bipush 40, 2) := by decide +kernel
theorem d_M_lay_35 : decode b_M_lay 35 = .ok (.iload_n 1, 1) := by decide +kernel
theorem d_M_lay_36 : decode b_M_lay 36 = .ok (.imul, 1) := by decide +kernel
theorem d_M_lay_37 : decode b_M_lay 37 = .ok (.iload_n 2, 1) := by decide +kernel
theorem d_M_lay_38 : decode b_M_lay 38 = .ok (.iadd, 1) := by decide +kernel
theorem d_M_lay_39 : decode b_M_lay 39 = .ok (.iload_n 3, 1) := by decide +kernel
theorem d_M_lay_40 : decode b_M_lay 40 = .ok (.iastore, 1) := by decide +kernel
theorem d_M_lay_41 : decode b_M_lay 41 = .ok (.aload_n 0, 1) := by decide +kernel
theorem d_M_lay_42 : decode b_M_lay 42 = .ok (.iload 5, 2) := by decide +kernel
theorem d_M_lay_44 : decode b_M_lay 44 = .ok (.invokevirtual 87, 3) := by decide +kernel
theorem d_M_lay_47 : decode b_M_lay 47 = .ok (.ireturn, 1) := by decide +kernel
theorem d_M_layBest_0 : decode b_M_layBest 0 = .ok (.iconst 0, 1) := by decide +kernel
theorem d_M_layBest_1 : decode b_M_layBest 1 = .ok (.istore_n 1, 1) := by decide +kernel
theorem d_M_layBest_2 : decode b_M_layBest 2 = .ok (.aload_n 0, 1) := by decide +kernel
theorem d_M_layBest_3 : decode b_M_layBest 3 = .ok (.iconst 0, 1) := by decide +kernel
theorem d_M_layBest_4 : decode b_M_layBest 4 = .ok (.putfield 265, 3) := by decide +kernel
theorem d_M_layBest_7 : decode b_M_layBest 7 = .ok (.aload_n 0, 1) := by decide +kernel
theorem d_M_layBest_8 : decode b_M_layBest 8 = .ok (.iconst 0, 1) := by decide +kernel
theorem d_M_layBest_9 : decode b_M_layBest 9 = .ok (.putfield 243, 3) := by decide +kernel
theorem d_M_layBest_12 : decode b_M_layBest 12 = .ok (.aload_n 0, 1) := by decide +kernel
theorem d_M_layBest_13 : decode b_M_layBest 13 = .ok (.invokevirtual 259, 3) := by decide +kernel
theorem d_M_layBest_16 : decode b_M_layBest 16 = .ok (.ifCond .eq 69, 3) := by decide +kernel
theorem d_M_layBest_19 : decode b_M_layBest 19 = .ok (.aload_n 0, 1) := by decide +kernel
theorem d_M_layBest_20 : decode b_M_layBest 20 = .ok (.invokevirtual 262, 3) := by decide +kernel
theorem d_M_layBest_23 : decode b_M_layBest 23 = .ok (.istore_n 2, 1) := by decide +kernel
theorem d_M_layBest_24 : decode b_M_layBest 24 = .ok (.iload_n 2, 1) := by decide +kernel
theorem d_M_layBest_25 : decode b_M_layBest 25 = .ok (.aload_n 0, 1) := by decide +kernel
theorem d_M_layBest_26 : decode b_M_layBest 26 = .ok (.getfield 243, 3) := by decide +kernel
theorem d_M_layBest_29 : decode b_M_layBest 29 = .ok (.imul, 1) := by decide +kernel
theorem d_M_layBest_30 : decode b_M_layBest 30 = .ok (.iload_n 1, 1) := by decide +kernel
theorem d_M_layBest_31 : decode b_M_layBest 31 = .ok (.if_icmp .le 51, 3) := by decide +kernel
theorem d_M_layBest_34 : decode b_M_layBest 34 = .ok (.iload_n 2, 1) := by decide +kernel
theorem d_M_layBest_35 : decode b_M_layBest 35 = .ok (.aload_n 0, 1) := by decide +kernel
theorem d_M_layBest_36 : decode b_M_layBest 36 = .ok (.getfield 243, 3) := by decide +kernel
theorem d_M_layBest_39 : decode b_M_layBest 39 = .ok (.imul, 1) := by decide +kernel
theorem d_M_layBest_40 : decode b_M_layBest 40 = .ok (.istore_n 1, 1) := by decide +kernel
theorem d_M_layBest_41 : decode b_M_layBest 41 = .ok (.aload_n 0, 1) := by decide +kernel
theorem d_M_layBest_42 : decode b_M_layBest 42 = .ok (.aload_n 0, 1) := by decide +kernel
theorem d_M_layBest_43 : decode b_M_layBest 43 = .ok (.getfield 243, 3) := by decide +kernel
theorem d_M_layBest_46 : decode b_M_layBest 46 = .ok (.putfield 265, 3) := by decide +kernel
theorem d_M_layBest_49 : decode b_M_layBest 49 = .ok (.aload_n 0, 1) := by decide +kernel
theorem d_M_layBest_50 : decode b_M_layBest 50 = .ok (.iload_n 2, 1) := by decide +kernel
theorem d_M_layBest_51 : decode b_M_layBest 51 = .ok (.putfield 268, 3) := by decide +kernel
theorem d_M_layBest_54 : decode b_M_layBest 54 = .ok (.iconst 0, 1) := by decide +kernel
theorem d_M_layBest_55 : decode b_M_layBest 55 = .ok (.istore_n 3, 1) := by decide +kernel
theorem d_M_layBest_56 : decode b_M_layBest 56 = .ok (.iload_n 3, 1) := by decide +kernel
theorem d_M_layBest_57 : decode b_M_layBest 57 = .ok (.aload_n 0, 1) := by decide +kernel
theorem d_M_layBest_58 : decode b_M_layBest 58 = .ok (.getfield 243, 3) := by decide +kernel
theorem d_M_layBest_61 : decode b_M_layBest 61 = .ok (.if_icmp .ge 21, 3) := by decide +kernel
theorem d_M_layBest_64 : decode b_M_layBest 64 = .ok (.aload_n 0, 1) := by decide +kernel
theorem d_M_layBest_65 : decode b_M_layBest 65 = .ok (.getfield 47, 3) := by decide +kernel
theorem d_M_layBest_68 : decode b_M_layBest 68 = .ok (.iload_n 3, 1) := by decide +kernel
theorem d_M_layBest_69 : decode b_M_layBest 69 = .ok (.aload_n 0, 1) := by decide +kernel
theorem d_M_layBest_70 : decode b_M_layBest 70 = .ok (.getfield 44, 3) := by decide +kernel
theorem d_M_layBest_73 : decode b_M_layBest 73 = .ok (.iload_n 3, 1) := by decide +kernel
theorem d_M_layBest_74 : decode b_M_layBest 74 = .ok (.iaload, 1) := by decide +kernel
theorem d_M_layBest_75 : decode b_M_layBest 75 = .ok (.iastore, 1) := by decide +kernel
theorem d_M_layBest_76 : decode b_M_layBest 76 = .ok (.iinc 3 1, 3) := by decide +kernel
theorem d_M_layBest_79 : decode b_M_layBest 79 = .ok (.goto (-23), 3) := by decide +kernel
theorem d_M_layBest_82 : decode b_M_layBest 82 = .ok (.goto (-70), 3) := by decide +kernel
