theorem dX10_feed_3 : decode cX10_feed 3 = .ok (.bipush 126, 2) := by decide +kernel
theorem dX10_feed_5 : decode cX10_feed 5 = .ok (.invokestatic 108, 3) := by decide +kernel
theorem dX10_feed_8 : decode cX10_feed 8 = .ok (.ifCond .ne 5, 3) := by decide +kernel
theorem dX10_feed_11 : decode cX10_feed 11 = .ok (.iconst (-1), 1) := by decide +kernel
theorem dX10_feed_12 : decode cX10_feed 12 = .ok (.ireturn, 1) := by decide +kernel
theorem dX10_feed_13 : decode cX10_feed 13 = .ok (.aload_n 0, 1) := by decide +kernel
theorem dX10_feed_14 : decode cX10_feed 14 = .ok (.getfield 112, 3) := by decide +kernel
theorem dX10_feed_17 : decode cX10_feed 17 = .ok (.sipush 140, 3) := by decide +kernel
theorem dX10_feed_20 : decode cX10_feed 20 = .ok (.if_icmp .ne 6, 3) := by decide +kernel
theorem dX10_feed_23 : decode cX10_feed 23 = .ok (.bipush (-3), 2) := by decide +kernel
theorem dX10_feed_25 : decode cX10_feed 25 = .ok (.ireturn, 1) := by decide +kernel
theorem dX10_feed_26 : decode cX10_feed 26 = .ok (.aload_n 0, 1) := by decide +kernel
theorem dX10_feed_27 : decode cX10_feed 27 = .ok (.getfield 28, 3) := by decide +kernel
theorem dX10_feed_30 : decode cX10_feed 30 = .ok (.aload_n 0, 1) := by decide +kernel
theorem dX10_feed_31 : decode cX10_feed 31 = .ok (.getfield 112, 3) := by decide +kernel
theorem dX10_feed_34 : decode cX10_feed 34 = .ok (.iload_n 1, 1) := by decide +kernel
theorem dX10_feed_35 : decode cX10_feed 35 = .ok (.iastore, 1) := by decide +kernel
theorem dX10_feed_36 : decode cX10_feed 36 = .ok (.aload_n 0, 1) := by decide +kernel
theorem dX10_feed_37 : decode cX10_feed 37 = .ok (.dup, 1) := by decide +kernel
theorem dX10_feed_38 : decode cX10_feed 38 = .ok (.getfield 112, 3) := by decide +kernel
theorem dX10_feed_41 : decode cX10_feed 41 = .ok (.iconst 1, 1) := by decide +kernel
theorem dX10_feed_42 : decode cX10_feed 42 = .ok (.iadd, 1) := by decide +kernel
theorem dX10_feed_43 : decode cX10_feed 43 = .ok (.putfield 112, 3) := by decide +kernel
theorem dX10_feed_46 : decode cX10_feed 46 = .ok (.aload_n 0, 1) := by decide +kernel
theorem dX10_feed_47 : decode cX10_feed 47 = .ok (.getfield 112, 3) := by decide +kernel
theorem dX10_feed_50 : decode cX10_feed 50 = .ok (.ireturn, 1) := by decide +kernel
theorem dX10_isFigure_0 : decode cX10_isFigure 0 = .ok (.aload_n 0, 1) := by decide +kernel
theorem dX10_isFigure_1 : decode cX10_isFigure 1 = .ok (.getfield 115, 3) := by decide +kernel
theorem dX10_isFigure_4 : decode cX10_isFigure 4 = .ok (.aload_n 0, 1) := by decide +kernel
theorem dX10_isFigure_5 : decode cX10_isFigure 5 = .ok (.getfield 112, 3) := by decide +kernel
theorem dX10_isFigure_8 : decode cX10_isFigure 8 = .ok (.if_icmp .ge 27, 3) := by decide +kernel
theorem dX10_isFigure_11 : decode cX10_isFigure 11 = .ok (.aload_n 0, 1) := by decide +kernel
theorem dX10_isFigure_12 : decode cX10_isFigure 12 = .ok (.getfield 28, 3) := by decide +kernel
theorem dX10_isFigure_15 : decode cX10_isFigure 15 = .ok (.aload_n 0, 1) := by decide +kernel
theorem dX10_isFigure_16 : decode cX10_isFigure 16 = .ok (.getfield 115, 3) := by decide +kernel
theorem dX10_isFigure_19 : decode cX10_isFigure 19 = .ok (.iaload, 1) := by decide +kernel
theorem dX10_isFigure_20 : decode cX10_isFigure 20 = .ok (.bipush 48, 2) := by decide +kernel
theorem dX10_isFigure_22 : decode cX10_isFigure 22 = .ok (.isub, 1) := by decide +kernel
theorem dX10_isFigure_23 : decode cX10_isFigure 23 = .ok (.iload_n 1, 1) := by decide +kernel
theorem dX10_isFigure_24 : decode cX10_isFigure 24 = .ok (.iload_n 2, 1) := by decide +kernel
theorem dX10_isFigure_25 : decode cX10_isFigure 25 = .ok (.invokestatic 108, 3) := by decide +kernel
theorem dX10_isFigure_28 : decode cX10_isFigure 28 = .ok (.ifCond .eq 7, 3) := by decide +kernel
theorem dX10_isFigure_31 : decode cX10_isFigure 31 = .ok (.iconst 1, 1) := by decide +kernel
theorem dX10_isFigure_32 : decode cX10_isFigure 32 = .ok (.goto 4, 3) := by decide +kernel
theorem dX10_isFigure_35 : decode cX10_isFigure 35 = .ok (.iconst 0, 1) := by decide +kernel
theorem dX10_isFigure_36 : decode cX10_isFigure 36 = .ok (.ireturn, 1) := by decide +kernel
theorem dX10_is_0 : decode cX10_is 0 = .ok (.aload_n 0, 1) := by decide +kernel
theorem dX10_is_1 : decode cX10_is 1 = .ok (.getfield 115, 3) := by decide +kernel
theorem dX10_is_4 : decode cX10_is 4 = .ok (.aload_n 0, 1) := by decide +kernel
theorem dX10_is_5 : decode cX10_is 5 = .ok (.getfield 112, 3) := by decide +kernel
theorem dX10_is_8 : decode cX10_is 8 = .ok (.if_icmp .ge 20, 3) := by decide +kernel
theorem dX10_is_11 : decode cX10_is 11 = .ok (.aload_n 0, 1) := by decide +kernel
theorem dX10_is_12 : decode cX10_is 12 = .ok (.getfield 28, 3) := by decide +kernel
theorem dX10_is_15 : decode cX10_is 15 = .ok (.aload_n 0, 1) := by decide +kernel
theorem dX10_is_16 : decode cX10_is 16 = .ok (.getfield 115, 3) := by decide +kernel
theorem dX10_is_19 : decode cX10_is 19 = .ok (.iaload, 1) := by decide +kernel
theorem dX10_is_20 : decode cX10_is 20 = .ok (.iload_n 1, 1) := by decide +kernel
theorem dX10_is_21 : decode cX10_is 21 = .ok (.if_icmp .ne 7, 3) := by decide +kernel
theorem dX10_is_24 : decode cX10_is 24 = .ok (.iconst 1, 1) := by decide +kernel
theorem dX10_is_25 : decode cX10_is 25 = .ok (.goto 4, 3) := by decide +kernel
theorem dX10_is_28 : decode cX10_is 28 = .ok (.iconst 0, 1) := by decide +kernel
theorem dX10_is_29 : decode cX10_is 29 = .ok (.ireturn, 1) := by decide +kernel
theorem dX10_must_0 : decode cX10_must 0 = .ok (.aload_n 0, 1) := by decide +kernel
theorem dX10_must_1 : decode cX10_must 1 = .ok (.aload_n 0, 1) := by decide +kernel
theorem dX10_must_2 : decode cX10_must 2 = .ok (.getfield 118, 3) := by decide +kernel
theorem dX10_must_5 : decode cX10_must 5 = .ok (.ifCond .eq 11, 3) := by decide +kernel
theorem dX10_must_8 : decode cX10_must 8 = .ok (.iload_n 1, 1) := by decide +kernel
theorem dX10_must_9 : decode cX10_must 9 = .ok (.ifCond .eq 7, 3) := by decide +kernel
theorem dX10_must_12 : decode cX10_must 12 = .ok (.iconst 1, 1) := by decide +kernel
theorem dX10_must_13 : decode cX10_must 13 = .ok (.goto 4, 3) := by decide +kernel
theorem dX10_must_16 : decode cX10_must 16 = .ok (.iconst 0, 1) := by decide +kernel
theorem dX10_must_17 : decode cX10_must 17 = .ok (.putfield 118, 3) := by decide +kernel
theorem dX10_must_20 : decode cX10_must 20 = .ok (.aload_n 0, 1) := by decide +kernel
theorem dX10_must_21 : decode cX10_must 21 = .ok (.dup, 1) := by decide +kernel
theorem dX10_must_22 : decode cX10_must 22 = .ok (.getfield 115, 3) := by decide +kernel
theorem dX10_must_25 : decode cX10_must 25 = .ok (.aload_n 0, 1) := by decide +kernel
theorem dX10_must_26 : decode cX10_must 26 = .ok (.getfield 118, 3) := by decide +kernel
theorem dX10_must_29 : decode cX10_must 29 = .ok (.ifCond .eq 7, 3) := by decide +kernel
theorem dX10_must_32 : decode cX10_must 32 = .ok (.iconst 1, 1) := by decide +kernel
theorem dX10_must_33 : decode cX10_must 33 = .ok (.goto 4, 3) := by decide +kernel
theorem dX10_must_36 : decode cX10_must 36 = .ok (.iconst 0, 1) := by decide +kernel
theorem dX10_must_37 : decode cX10_must 37 = .ok (.iadd, 1) := by decide +kernel
theorem dX10_must_38 : decode cX10_must 38 = .ok (.putfield 115, 3) := by decide +kernel
theorem dX10_must_41 : decode cX10_must 41 = .ok (.return_, 1) := by decide +kernel
theorem dX10_readsTask_0 : decode cX10_readsTask 0 = .ok (.aload_n 0, 1) := by decide +kernel
theorem dX10_readsTask_1 : decode cX10_readsTask 1 = .ok (.aload_n 0, 1) := by decide +kernel
theorem dX10_readsTask_2 : decode cX10_readsTask 2 = .ok (.getfield 118, 3) := by decide +kernel
theorem dX10_readsTask_5 : decode cX10_readsTask 5 = .ok (.ifCond .eq 22, 3) := by decide +kernel
theorem dX10_readsTask_8 : decode cX10_readsTask 8 = .ok (.iload_n 1, 1) := by decide +kernel
theorem dX10_readsTask_9 : decode cX10_readsTask 9 = .ok (.bipush 6, 2) := by decide +kernel
theorem dX10_readsTask_11 : decode cX10_readsTask 11 = .ok (.if_icmp .ge 16, 3) := by decide +kernel
theorem dX10_readsTask_14 : decode cX10_readsTask 14 = .ok (.aload_n 0, 1) := by decide +kernel
theorem dX10_readsTask_15 : decode cX10_readsTask 15 = .ok (.getfield 122, 3) := by decide +kernel
theorem dX10_readsTask_18 : decode cX10_readsTask 18 = .ok (.bipush 24, 2) := by decide +kernel
theorem dX10_readsTask_20 : decode cX10_readsTask 20 = .ok (.if_icmp .ge 7, 3) := by decide +kernel
theorem dX10_readsTask_23 : decode cX10_readsTask 23 = .ok (.iconst 1, 1) := by decide +kernel
theorem dX10_readsTask_24 : decode cX10_readsTask 24 = .ok (.goto 4, 3) := by decide +kernel
theorem dX10_readsTask_27 : decode cX10_readsTask 27 = .ok (.iconst 0, 1) := by decide +kernel
theorem dX10_readsTask_28 : decode cX10_readsTask 28 = .ok (.putfield 118, 3) := by decide +kernel
theorem dX10_readsTask_31 : decode cX10_readsTask 31 = .ok (.aload_n 0, 1) := by decide +kernel
theorem dX10_readsTask_32 : decode cX10_readsTask 32 = .ok (.getfield 118, 3) := by decide +kernel
theorem dX10_readsTask_35 : decode cX10_readsTask 35 = .ok (.ifCond .ne 4, 3) := by decide +kernel
theorem dX10_readsTask_38 : decode cX10_readsTask 38 = .ok (.return_, 1) := by decide +kernel
theorem dX10_readsTask_39 : decode cX10_readsTask 39 = .ok (.aload_n 0, 1) := by decide +kernel
theorem dX10_readsTask_40 : decode cX10_readsTask 40 = .ok (.aload_n 0, 1) := by decide +kernel
theorem dX10_readsTask_41 : decode cX10_readsTask 41 = .ok (.iconst 0, 1) := by decide +kernel
theorem dX10_readsTask_42 : decode cX10_readsTask 42 = .ok (.iconst 4, 1) := by decide +kernel
theorem dX10_readsTask_43 : decode cX10_readsTask 43 = .ok (.invokevirtual 125, 3) := by decide +kernel
theorem dX10_readsTask_46 : decode cX10_readsTask 46 = .ok (.invokevirtual 129, 3) := by decide +kernel
theorem dX10_readsTask_49 : decode cX10_readsTask 49 = .ok (.aload_n 0, 1) := by decide +kernel
theorem dX10_readsTask_50 : decode cX10_readsTask 50 = .ok (.aload_n 0, 1) := by decide +kernel
theorem dX10_readsTask_51 : decode cX10_readsTask 51 = .ok (.bipush 32, 2) := by decide +kernel
theorem dX10_readsTask_53 : decode cX10_readsTask 53 = .ok (.invokevirtual 133, 3) := by decide +kernel
theorem dX10_readsTask_56 : decode cX10_readsTask 56 = .ok (.invokevirtual 129, 3) := by decide +kernel
theorem dX10_readsTask_59 : decode cX10_readsTask 59 = .ok (.aload_n 0, 1) := by decide +kernel
theorem dX10_readsTask_60 : decode cX10_readsTask 60 = .ok (.aload_n 0, 1) := by decide +kernel
theorem dX10_readsTask_61 : decode cX10_readsTask 61 = .ok (.iconst 1, 1) := by decide +kernel
theorem dX10_readsTask_62 : decode cX10_readsTask 62 = .ok (.bipush 9, 2) := by decide +kernel
theorem dX10_readsTask_64 : decode cX10_readsTask 64 = .ok (.invokevirtual 125, 3) := by decide +kernel
theorem dX10_readsTask_67 : decode cX10_readsTask 67 = .ok (.invokevirtual 129, 3) := by decide +kernel
theorem dX10_readsTask_70 : decode cX10_readsTask 70 = .ok (.aload_n 0, 1) := by decide +kernel
theorem dX10_readsTask_71 : decode cX10_readsTask 71 = .ok (.getfield 118, 3) := by decide +kernel
theorem dX10_readsTask_74 : decode cX10_readsTask 74 = .ok (.ifCond .ne 4, 3) := by decide +kernel
theorem dX10_readsTask_77 : decode cX10_readsTask 77 = .ok (.return_, 1) := by decide +kernel
theorem dX10_readsTask_78 : decode cX10_readsTask 78 = .ok (.aload_n 0, 1) := by decide +kernel
theorem dX10_readsTask_79 : decode cX10_readsTask 79 = .ok (.getfield 31, 3) := by decide +kernel
theorem dX10_readsTask_82 : decode cX10_readsTask 82 = .ok (.aload_n 0, 1) := by decide +kernel
theorem dX10_readsTask_83 : decode cX10_readsTask 83 = .ok (.getfield 122, 3) := by decide +kernel
theorem dX10_readsTask_86 : decode cX10_readsTask 86 = .ok (.aload_n 0, 1) := by decide +kernel
theorem dX10_readsTask_87 : decode cX10_readsTask 87 = .ok (.getfield 137, 3) := by decide +kernel
theorem dX10_readsTask_90 : decode cX10_readsTask 90 = .ok (.iastore, 1) := by decide +kernel
theorem dX10_readsTask_91 : decode cX10_readsTask 91 = .ok (.aload_n 0, 1) := by decide +kernel
theorem dX10_readsTask_92 : decode cX10_readsTask 92 = .ok (.getfield 34, 3) := by decide +kernel
theorem dX10_readsTask_95 : decode cX10_readsTask 95 = .ok (.aload_n 0, 1) := by decide +kernel
theorem dX10_readsTask_96 : decode cX10_readsTask 96 = .ok (.getfield 122, 3) := by decide +kernel
theorem dX10_readsTask_99 : decode cX10_readsTask 99 = .ok (.aload_n 0, 1) := by decide +kernel
theorem dX10_readsTask_100 : decode cX10_readsTask 100 = .ok (.getfield 28, 3) := by decide +kernel
theorem dX10_readsTask_103 : decode cX10_readsTask 103 = .ok (.aload_n 0, 1) := by decide +kernel
theorem dX10_readsTask_104 : decode cX10_readsTask 104 = .ok (.getfield 115, 3) := by decide +kernel
theorem dX10_readsTask_107 : decode cX10_readsTask 107 = .ok (.iconst 3, 1) := by decide +kernel
theorem dX10_readsTask_108 : decode cX10_readsTask 108 = .ok (.isub, 1) := by decide +kernel
theorem dX10_readsTask_109 : decode cX10_readsTask 109 = .ok (.iaload, 1) := by decide +kernel
theorem dX10_readsTask_110 : decode cX10_readsTask 110 = .ok (.bipush 48, 2) := by decide +kernel
theorem dX10_readsTask_112 : decode cX10_readsTask 112 = .ok (.isub, 1) := by decide +kernel
theorem dX10_readsTask_113 : decode cX10_readsTask 113 = .ok (.iastore, 1) := by decide +kernel
theorem dX10_readsTask_114 : decode cX10_readsTask 114 = .ok (.aload_n 0, 1) := by decide +kernel
theorem dX10_readsTask_115 : decode cX10_readsTask 115 = .ok (.getfield 37, 3) := by decide +kernel
theorem dX10_readsTask_118 : decode cX10_readsTask 118 = .ok (.aload_n 0, 1) := by decide +kernel
theorem dX10_readsTask_119 : decode cX10_readsTask 119 = .ok (.getfield 122, 3) := by decide +kernel
theorem dX10_readsTask_122 : decode cX10_readsTask 122 = .ok (.aload_n 0, 1) := by decide +kernel
theorem dX10_readsTask_123 : decode cX10_readsTask 123 = .ok (.getfield 28, 3) := by decide +kernel
theorem dX10_readsTask_126 : decode cX10_readsTask 126 = .ok (.aload_n 0, 1) := by decide +kernel
theorem dX10_readsTask_127 : decode cX10_readsTask 127 = .ok (.getfield 115, 3) := by decide +kernel
theorem dX10_readsTask_130 : decode cX10_readsTask 130 = .ok (.iconst 1, 1) := by decide +kernel
theorem dX10_readsTask_131 : decode cX10_readsTask 131 = .ok (.isub, 1) := by decide +kernel
theorem dX10_readsTask_132 : decode cX10_readsTask 132 = .ok (.iaload, 1) := by decide +kernel
theorem dX10_readsTask_133 : decode cX10_readsTask 133 = .ok (.bipush 48, 2) := by decide +kernel
theorem dX10_readsTask_135 : decode cX10_readsTask 135 = .ok (.isub, 1) := by decide +kernel
theorem dX10_readsTask_136 : decode cX10_readsTask 136 = .ok (.iastore, 1) := by decide +kernel
theorem dX10_readsTask_137 : decode cX10_readsTask 137 = .ok (.aload_n 0, 1) := by decide +kernel
theorem dX10_readsTask_138 : decode cX10_readsTask 138 = .ok (.iconst 0, 1) := by decide +kernel
theorem dX10_readsTask_139 : decode cX10_readsTask 139 = .ok (.bipush 9, 2) := by decide +kernel
theorem dX10_readsTask_141 : decode cX10_readsTask 141 = .ok (.invokevirtual 125, 3) := by decide +kernel
theorem dX10_readsTask_144 : decode cX10_readsTask 144 = .ok (.ifCond .eq 47, 3) := by decide +kernel
theorem dX10_readsTask_147 : decode cX10_readsTask 147 = .ok (.aload_n 0, 1) := by decide +kernel
theorem dX10_readsTask_148 : decode cX10_readsTask 148 = .ok (.getfield 37, 3) := by decide +kernel
theorem dX10_readsTask_151 : decode cX10_readsTask 151 = .ok (.aload_n 0, 1) := by decide +kernel
theorem dX10_readsTask_152 : decode cX10_readsTask 152 = .ok (.getfield 122, 3) := by decide +kernel
theorem dX10_readsTask_155 : decode cX10_readsTask 155 = .ok (.bipush 10, 2) := by decide +kernel
theorem dX10_readsTask_157 : decode cX10_readsTask 157 = .ok (.aload_n 0, 1) := by decide +kernel
theorem dX10_readsTask_158 : decode cX10_readsTask 158 = .ok (.getfield 37, 3) := by decide +kernel
theorem dX10_readsTask_161 : decode cX10_readsTask 161 = .ok (.aload_n 0, 1) := by decide +kernel
theorem dX10_readsTask_162 : decode cX10_readsTask 162 = .ok (.getfield 122, 3) := by decide +kernel
theorem dX10_readsTask_165 : decode cX10_readsTask 165 = .ok (.iaload, 1) := by decide +kernel
theorem dX10_readsTask_166 : decode cX10_readsTask 166 = .ok (.imul, 1) := by decide +kernel
theorem dX10_readsTask_167 : decode cX10_readsTask 167 = .ok (.aload_n 0, 1) := by decide +kernel
theorem dX10_readsTask_168 : decode cX10_readsTask 168 = .ok (.getfield 28, 3) := by decide +kernel
theorem dX10_readsTask_171 : decode cX10_readsTask 171 = .ok (.aload_n 0, 1) := by decide +kernel
theorem dX10_readsTask_172 : decode cX10_readsTask 172 = .ok (.getfield 115, 3) := by decide +kernel
theorem dX10_readsTask_175 : decode cX10_readsTask 175 = .ok (.iaload, 1) := by decide +kernel
theorem dX10_readsTask_176 : decode cX10_readsTask 176 = .ok (.iadd, 1) := by decide +kernel
theorem dX10_readsTask_177 : decode cX10_readsTask 177 = .ok (.bipush 48, 2) := by decide +kernel
theorem dX10_readsTask_179 : decode cX10_readsTask 179 = .ok (.isub, 1) := by decide +kernel
theorem dX10_readsTask_180 : decode cX10_readsTask 180 = .ok (.iastore, 1) := by decide +kernel
theorem dX10_readsTask_181 : decode cX10_readsTask 181 = .ok (.aload_n 0, 1) := by decide +kernel
theorem dX10_readsTask_182 : decode cX10_readsTask 182 = .ok (.dup, 1) := by decide +kernel
theorem dX10_readsTask_183 : decode cX10_readsTask 183 = .ok (.getfield 115, 3) := by decide +kernel
theorem dX10_readsTask_186 : decode cX10_readsTask 186 = .ok (.iconst 1, 1) := by decide +kernel
theorem dX10_readsTask_187 : decode cX10_readsTask 187 = .ok (.iadd, 1) := by decide +kernel
theorem dX10_readsTask_188 : decode cX10_readsTask 188 = .ok (.putfield 115, 3) := by decide +kernel
theorem dX10_readsTask_191 : decode cX10_readsTask 191 = .ok (.aload_n 0, 1) := by decide +kernel
theorem dX10_readsTask_192 : decode cX10_readsTask 192 = .ok (.dup, 1) := by decide +kernel
theorem dX10_readsTask_193 : decode cX10_readsTask 193 = .ok (.getfield 122, 3) := by decide +kernel
theorem dX10_readsTask_196 : decode cX10_readsTask 196 = .ok (.iconst 1, 1) := by decide +kernel
theorem dX10_readsTask_197 : decode cX10_readsTask 197 = .ok (.iadd, 1) := by decide +kernel
theorem dX10_readsTask_198 : decode cX10_readsTask 198 = .ok (.putfield 122, 3) := by decide +kernel
theorem dX10_readsTask_201 : decode cX10_readsTask 201 = .ok (.return_, 1) := by decide +kernel
theorem dX10_readsJob_0 : decode cX10_readsJob 0 = .ok (.aload_n 0, 1) := by decide +kernel
theorem dX10_readsJob_1 : decode cX10_readsJob 1 = .ok (.aload_n 0, 1) := by decide +kernel
theorem dX10_readsJob_2 : decode cX10_readsJob 2 = .ok (.getfield 118, 3) := by decide +kernel
theorem dX10_readsJob_5 : decode cX10_readsJob 5 = .ok (.ifCond .eq 16, 3) := by decide +kernel
theorem dX10_readsJob_8 : decode cX10_readsJob 8 = .ok (.aload_n 0, 1) := by decide +kernel
theorem dX10_readsJob_9 : decode cX10_readsJob 9 = .ok (.getfield 137, 3) := by decide +kernel
theorem dX10_readsJob_12 : decode cX10_readsJob 12 = .ok (.bipush 6, 2) := by decide +kernel
theorem dX10_readsJob_14 : decode cX10_readsJob 14 = .ok (.if_icmp .ge 7, 3) := by decide +kernel
theorem dX10_readsJob_17 : decode cX10_readsJob 17 = .ok (.iconst 1, 1) := by decide +kernel
theorem dX10_readsJob_18 : decode cX10_readsJob 18 = .ok (.goto 4, 3) := by decide +kernel
theorem dX10_readsJob_21 : decode cX10_readsJob 21 = .ok (.iconst 0, 1) := by decide +kernel
theorem dX10_readsJob_22 : decode cX10_readsJob 22 = .ok (.putfield 118, 3) := by decide +kernel
theorem dX10_readsJob_25 : decode cX10_readsJob 25 = .ok (.iconst 0, 1) := by decide +kernel
theorem dX10_readsJob_26 : decode cX10_readsJob 26 = .ok (.istore_n 1, 1) := by decide +kernel
theorem dX10_readsJob_27 : decode cX10_readsJob 27 = .ok (.aload_n 0, 1) := by decide +kernel
theorem dX10_readsJob_28 : decode cX10_readsJob 28 = .ok (.getfield 118, 3) := by decide +kernel
theorem dX10_readsJob_31 : decode cX10_readsJob 31 = .ok (.istore_n 2, 1) := by decide +kernel
theorem dX10_readsJob_32 : decode cX10_readsJob 32 = .ok (.iload_n 2, 1) := by decide +kernel
theorem dX10_readsJob_33 : decode cX10_readsJob 33 = .ok (.ifCond .eq 54, 3) := by decide +kernel
theorem dX10_readsJob_36 : decode cX10_readsJob 36 = .ok (.aload_n 0, 1) := by decide +kernel
theorem dX10_readsJob_37 : decode cX10_readsJob 37 = .ok (.iload_n 1, 1) := by decide +kernel
theorem dX10_readsJob_38 : decode cX10_readsJob 38 = .ok (.invokevirtual 140, 3) := by decide +kernel
theorem dX10_readsJob_41 : decode cX10_readsJob 41 = .ok (.iinc 1 1, 3) := by decide +kernel
theorem dX10_readsJob_44 : decode cX10_readsJob 44 = .ok (.aload_n 0, 1) := by decide +kernel
theorem dX10_readsJob_45 : decode cX10_readsJob 45 = .ok (.getfield 118, 3) := by decide +kernel
theorem dX10_readsJob_48 : decode cX10_readsJob 48 = .ok (.ifCond .eq 16, 3) := by decide +kernel
theorem dX10_readsJob_51 : decode cX10_readsJob 51 = .ok (.aload_n 0, 1) := by decide +kernel
theorem dX10_readsJob_52 : decode cX10_readsJob 52 = .ok (.bipush 44, 2) := by decide +kernel
theorem dX10_readsJob_54 : decode cX10_readsJob 54 = .ok (.invokevirtual 133, 3) := by decide +kernel
theorem dX10_readsJob_57 : decode cX10_readsJob 57 = .ok (.ifCond .eq 7, 3) := by decide +kernel
theorem dX10_readsJob_60 : decode cX10_readsJob 60 = .ok (.iconst 1, 1) := by decide +kernel
theorem dX10_readsJob_61 : decode cX10_readsJob 61 = .ok (.goto 4, 3) := by decide +kernel
theorem dX10_readsJob_64 : decode cX10_readsJob 64 = .ok (.iconst 0, 1) := by decide +kernel
theorem dX10_readsJob_65 : decode cX10_readsJob 65 = .ok (.istore_n 2, 1) := by decide +kernel
theorem dX10_readsJob_66 : decode cX10_readsJob 66 = .ok (.aload_n 0, 1) := by decide +kernel
theorem dX10_readsJob_67 : decode cX10_readsJob 67 = .ok (.dup, 1) := by decide +kernel
theorem dX10_readsJob_68 : decode cX10_readsJob 68 = .ok (.getfield 115, 3) := by decide +kernel
theorem dX10_readsJob_71 : decode cX10_readsJob 71 = .ok (.iload_n 2, 1) := by decide +kernel
theorem dX10_readsJob_72 : decode cX10_readsJob 72 = .ok (.ifCond .eq 7, 3) := by decide +kernel
theorem dX10_readsJob_75 : decode cX10_readsJob 75 = .ok (.iconst 1, 1) := by decide +kernel
theorem dX10_readsJob_76 : decode cX10_readsJob 76 = .ok (.goto 4, 3) := by decide +kernel
theorem dX10_readsJob_79 : decode cX10_readsJob 79 = .ok (.iconst 0, 1) := by decide +kernel
theorem dX10_readsJob_80 : decode cX10_readsJob 80 = .ok (.iadd, 1) := by decide +kernel
theorem dX10_readsJob_81 : decode cX10_readsJob 81 = .ok (.putfield 115, 3) := by decide +kernel
theorem dX10_readsJob_84 : decode cX10_readsJob 84 = .ok (.goto (-52), 3) := by decide +kernel
theorem dX10_readsJob_87 : decode cX10_readsJob 87 = .ok (.aload_n 0, 1) := by decide +kernel
theorem dX10_readsJob_88 : decode cX10_readsJob 88 = .ok (.dup, 1) := by decide +kernel
theorem dX10_readsJob_89 : decode cX10_readsJob 89 = .ok (.getfield 137, 3) := by decide +kernel
theorem dX10_readsJob_92 : decode cX10_readsJob 92 = .ok (.iconst 1, 1) := by decide +kernel
theorem dX10_readsJob_93 : decode cX10_readsJob 93 = .ok (.iadd, 1) := by decide +kernel
theorem dX10_readsJob_94 : decode cX10_readsJob 94 = .ok (.putfield 137, 3) := by decide +kernel
theorem dX10_readsJob_97 : decode cX10_readsJob 97 = .ok (.return_, 1) := by decide +kernel
theorem dX10_readsAll_0 : decode cX10_readsAll 0 = .ok (.aload_n 0, 1) := by decide +kernel
theorem dX10_readsAll_1 : decode cX10_readsAll 1 = .ok (.iconst 0, 1) := by decide +kernel
theorem dX10_readsAll_2 : decode cX10_readsAll 2 = .ok (.putfield 115, 3) := by decide +kernel
theorem dX10_readsAll_5 : decode cX10_readsAll 5 = .ok (.aload_n 0, 1) := by decide +kernel
theorem dX10_readsAll_6 : decode cX10_readsAll 6 = .ok (.iconst 1, 1) := by decide +kernel
theorem dX10_readsAll_7 : decode cX10_readsAll 7 = .ok (.putfield 118, 3) := by decide +kernel
theorem dX10_readsAll_10 : decode cX10_readsAll 10 = .ok (.aload_n 0, 1) := by decide +kernel
theorem dX10_readsAll_11 : decode cX10_readsAll 11 = .ok (.iconst 0, 1) := by decide +kernel
theorem dX10_readsAll_12 : decode cX10_readsAll 12 = .ok (.putfield 137, 3) := by decide +kernel
theorem dX10_readsAll_15 : decode cX10_readsAll 15 = .ok (.aload_n 0, 1) := by decide +kernel
theorem dX10_readsAll_16 : decode cX10_readsAll 16 = .ok (.iconst 0, 1) := by decide +kernel
theorem dX10_readsAll_17 : decode cX10_readsAll 17 = .ok (.putfield 122, 3) := by decide +kernel
theorem dX10_readsAll_20 : decode cX10_readsAll 20 = .ok (.iconst 1, 1) := by decide +kernel
theorem dX10_readsAll_21 : decode cX10_readsAll 21 = .ok (.istore_n 1, 1) := by decide +kernel
theorem dX10_readsAll_22 : decode cX10_readsAll 22 = .ok (.iload_n 1, 1) := by decide +kernel
theorem dX10_readsAll_23 : decode cX10_readsAll 23 = .ok (.ifCond .eq 50, 3) := by decide +kernel
theorem dX10_readsAll_26 : decode cX10_readsAll 26 = .ok (.aload_n 0, 1) := by decide +kernel
theorem dX10_readsAll_27 : decode cX10_readsAll 27 = .ok (.invokevirtual 144, 3) := by decide +kernel
theorem dX10_readsAll_30 : decode cX10_readsAll 30 = .ok (.aload_n 0, 1) := by decide +kernel
theorem dX10_readsAll_31 : decode cX10_readsAll 31 = .ok (.getfield 118, 3) := by decide +kernel
theorem dX10_readsAll_34 : decode cX10_readsAll 34 = .ok (.ifCond .eq 16, 3) := by decide +kernel
theorem dX10_readsAll_37 : decode cX10_readsAll 37 = .ok (.aload_n 0, 1) := by decide +kernel
theorem dX10_readsAll_38 : decode cX10_readsAll 38 = .ok (.bipush 59, 2) := by decide +kernel
theorem dX10_readsAll_40 : decode cX10_readsAll 40 = .ok (.invokevirtual 133, 3) := by decide +kernel
theorem dX10_readsAll_43 : decode cX10_readsAll 43 = .ok (.ifCond .eq 7, 3) := by decide +kernel
theorem dX10_readsAll_46 : decode cX10_readsAll 46 = .ok (.iconst 1, 1) := by decide +kernel
theorem dX10_readsAll_47 : decode cX10_readsAll 47 = .ok (.goto 4, 3) := by decide +kernel
theorem dX10_readsAll_50 : decode cX10_readsAll 50 = .ok (.iconst 0, 1) := by decide +kernel
theorem dX10_readsAll_51 : decode cX10_readsAll 51 = .ok (.istore_n 1, 1) := by decide +kernel
theorem dX10_readsAll_52 : decode cX10_readsAll 52 = .ok (.aload_n 0, 1) := by decide +kernel
theorem dX10_readsAll_53 : decode cX10_readsAll 53 = .ok (.dup, 1) := by decide +kernel
theorem dX10_readsAll_54 : decode cX10_readsAll 54 = .ok (.getfield 115, 3) := by decide +kernel
theorem dX10_readsAll_57 : decode cX10_readsAll 57 = .ok (.iload_n 1, 1) := by decide +kernel
theorem dX10_readsAll_58 : decode cX10_readsAll 58 = .ok (.ifCond .eq 7, 3) := by decide +kernel
theorem dX10_readsAll_61 : decode cX10_readsAll 61 = .ok (.iconst 1, 1) := by decide +kernel
theorem dX10_readsAll_62 : decode cX10_readsAll 62 = .ok (.goto 4, 3) := by decide +kernel
theorem dX10_readsAll_65 : decode cX10_readsAll 65 = .ok (.iconst 0, 1) := by decide +kernel
theorem dX10_readsAll_66 : decode cX10_readsAll 66 = .ok (.iadd, 1) := by decide +kernel
theorem dX10_readsAll_67 : decode cX10_readsAll 67 = .ok (.putfield 115, 3) := by decide +kernel
theorem dX10_readsAll_70 : decode cX10_readsAll 70 = .ok (.goto (-48), 3) := by decide +kernel
theorem dX10_readsAll_73 : decode cX10_readsAll 73 = .ok (.aload_n 0, 1) := by decide +kernel
theorem dX10_readsAll_74 : decode cX10_readsAll 74 = .ok (.aload_n 0, 1) := by decide +kernel
theorem dX10_readsAll_75 : decode cX10_readsAll 75 = .ok (.getfield 118, 3) := by decide +kernel
theorem dX10_readsAll_78 : decode cX10_readsAll 78 = .ok (.ifCond .eq 18, 3) := by decide +kernel
theorem dX10_readsAll_81 : decode cX10_readsAll 81 = .ok (.aload_n 0, 1) := by decide +kernel
theorem dX10_readsAll_82 : decode cX10_readsAll 82 = .ok (.getfield 115, 3) := by decide +kernel
theorem dX10_readsAll_85 : decode cX10_readsAll 85 = .ok (.aload_n 0, 1) := by decide +kernel
theorem dX10_readsAll_86 : decode cX10_readsAll 86 = .ok (.getfield 112, 3) := by decide +kernel
theorem dX10_readsAll_89 : decode cX10_readsAll 89 = .ok (.if_icmp .ne 7, 3) := by decide +kernel
theorem dX10_readsAll_92 : decode cX10_readsAll 92 = .ok (.iconst 1, 1) := by decide +kernel
theorem dX10_readsAll_93 : decode cX10_readsAll 93 = .ok (.goto 4, 3) := by decide +kernel
theorem dX10_readsAll_96 : decode cX10_readsAll 96 = .ok (.iconst 0, 1) := by decide +kernel
theorem dX10_readsAll_97 : decode cX10_readsAll 97 = .ok (.putfield 118, 3) := by decide +kernel
theorem dX10_readsAll_100 : decode cX10_readsAll 100 = .ok (.return_, 1) := by decide +kernel
theorem dX10_shop_0 : decode cX10_shop 0 = .ok (.aload_n 0, 1) := by decide +kernel
theorem dX10_shop_1 : decode cX10_shop 1 = .ok (.invokevirtual 147, 3) := by decide +kernel
theorem dX10_shop_4 : decode cX10_shop 4 = .ok (.aload_n 0, 1) := by decide +kernel
theorem dX10_shop_5 : decode cX10_shop 5 = .ok (.iconst 0, 1) := by decide +kernel
theorem dX10_shop_6 : decode cX10_shop 6 = .ok (.putfield 112, 3) := by decide +kernel
theorem dX10_shop_9 : decode cX10_shop 9 = .ok (.aload_n 0, 1) := by decide +kernel
theorem dX10_shop_10 : decode cX10_shop 10 = .ok (.getfield 118, 3) := by decide +kernel
theorem dX10_shop_13 : decode cX10_shop 13 = .ok (.ifCond .ne 11, 3) := by decide +kernel
theorem dX10_shop_16 : decode cX10_shop 16 = .ok (.bipush (-100), 2) := by decide +kernel
theorem dX10_shop_18 : decode cX10_shop 18 = .ok (.aload_n 0, 1) := by decide +kernel
theorem dX10_shop_19 : decode cX10_shop 19 = .ok (.getfield 115, 3) := by decide +kernel
theorem dX10_shop_22 : decode cX10_shop 22 = .ok (.isub, 1) := by decide +kernel
theorem dX10_shop_23 : decode cX10_shop 23 = .ok (.ireturn, 1) := by decide +kernel
theorem dX10_shop_24 : decode cX10_shop 24 = .ok (.aload_n 0, 1) := by decide +kernel
theorem dX10_shop_25 : decode cX10_shop 25 = .ok (.aload_n 0, 1) := by decide +kernel
theorem dX10_shop_26 : decode cX10_shop 26 = .ok (.getfield 137, 3) := by decide +kernel
theorem dX10_shop_29 : decode cX10_shop 29 = .ok (.putfield 150, 3) := by decide +kernel
theorem dX10_shop_32 : decode cX10_shop 32 = .ok (.aload_n 0, 1) := by decide +kernel
theorem dX10_shop_33 : decode cX10_shop 33 = .ok (.aload_n 0, 1) := by decide +kernel
theorem dX10_shop_34 : decode cX10_shop 34 = .ok (.getfield 122, 3) := by decide +kernel
theorem dX10_shop_37 : decode cX10_shop 37 = .ok (.putfield 105, 3) := by decide +kernel
theorem dX10_shop_40 : decode cX10_shop 40 = .ok (.iconst 0, 1) := by decide +kernel
theorem dX10_shop_41 : decode cX10_shop 41 = .ok (.istore_n 1, 1) := by decide +kernel
theorem dX10_shop_42 : decode cX10_shop 42 = .ok (.iload_n 1, 1) := by decide +kernel
theorem dX10_shop_43 : decode cX10_shop 43 = .ok (.iconst 5, 1) := by decide +kernel
theorem dX10_shop_44 : decode cX10_shop 44 = .ok (.if_icmp .ge 16, 3) := by decide +kernel
theorem dX10_shop_47 : decode cX10_shop 47 = .ok (.aload_n 0, 1) := by decide +kernel
theorem dX10_shop_48 : decode cX10_shop 48 = .ok (.getfield 25, 3) := by decide +kernel
theorem dX10_shop_51 : decode cX10_shop 51 = .ok (.iload_n 1, 1) := by decide +kernel
theorem dX10_shop_52 : decode cX10_shop 52 = .ok (.iconst 0, 1) := by decide +kernel
theorem dX10_shop_53 : decode cX10_shop 53 = .ok (.iastore, 1) := by decide +kernel
theorem dX10_shop_54 : decode cX10_shop 54 = .ok (.iinc 1 1, 3) := by decide +kernel
theorem dX10_shop_57 : decode cX10_shop 57 = .ok (.goto (-15), 3) := by decide +kernel
theorem dX10_shop_60 : decode cX10_shop 60 = .ok (.iconst 0, 1) := by decide +kernel
theorem dX10_shop_61 : decode cX10_shop 61 = .ok (.istore_n 1, 1) := by decide +kernel
theorem dX10_shop_62 : decode cX10_shop 62 = .ok (.iload_n 1, 1) := by decide +kernel
theorem dX10_shop_63 : decode cX10_shop 63 = .ok (.aload_n 0, 1) := by decide +kernel
theorem dX10_shop_64 : decode cX10_shop 64 = .ok (.getfield 105, 3) := by decide +kernel
theorem dX10_shop_67 : decode cX10_shop 67 = .ok (.if_icmp .ge 91, 3) := by decide +kernel
theorem dX10_shop_70 : decode cX10_shop 70 = .ok (.aload_n 0, 1) := by decide +kernel
theorem dX10_shop_71 : decode cX10_shop 71 = .ok (.getfield 9, 3) := by decide +kernel
theorem dX10_shop_74 : decode cX10_shop 74 = .ok (.iload_n 1, 1) := by decide +kernel
theorem dX10_shop_75 : decode cX10_shop 75 = .ok (.aload_n 0, 1) := by decide +kernel
theorem dX10_shop_76 : decode cX10_shop 76 = .ok (.getfield 31, 3) := by decide +kernel
theorem dX10_shop_79 : decode cX10_shop 79 = .ok (.iload_n 1, 1) := by decide +kernel
theorem dX10_shop_80 : decode cX10_shop 80 = .ok (.iaload, 1) := by decide +kernel
theorem dX10_shop_81 : decode cX10_shop 81 = .ok (.iastore, 1) := by decide +kernel
theorem dX10_shop_82 : decode cX10_shop 82 = .ok (.aload_n 0, 1) := by decide +kernel
theorem dX10_shop_83 : decode cX10_shop 83 = .ok (.getfield 13, 3) := by decide +kernel
theorem dX10_shop_86 : decode cX10_shop 86 = .ok (.iload_n 1, 1) := by decide +kernel
theorem dX10_shop_87 : decode cX10_shop 87 = .ok (.iload_n 1, 1) := by decide +kernel
theorem dX10_shop_88 : decode cX10_shop 88 = .ok (.ifCond .le 33, 3) := by decide +kernel
theorem dX10_shop_91 : decode cX10_shop 91 = .ok (.aload_n 0, 1) := by decide +kernel
theorem dX10_shop_92 : decode cX10_shop 92 = .ok (.getfield 31, 3) := by decide +kernel
theorem dX10_shop_95 : decode cX10_shop 95 = .ok (.iload_n 1, 1) := by decide +kernel
theorem dX10_shop_96 : decode cX10_shop 96 = .ok (.iconst 1, 1) := by decide +kernel
theorem dX10_shop_97 : decode cX10_shop 97 = .ok (.isub, 1) := by decide +kernel
theorem dX10_shop_98 : decode cX10_shop 98 = .ok (.iaload, 1) := by decide +kernel
theorem dX10_shop_99 : decode cX10_shop 99 = .ok (.aload_n 0, 1) := by decide +kernel
theorem dX10_shop_100 : decode cX10_shop 100 = .ok (.getfield 31, 3) := by decide +kernel
theorem dX10_shop_103 : decode cX10_shop 103 = .ok (.iload_n 1, 1) := by decide +kernel
theorem dX10_shop_104 : decode cX10_shop 104 = .ok (.iaload, 1) := by decide +kernel
theorem dX10_shop_105 : decode cX10_shop 105 = .ok (.if_icmp .ne 16, 3) := by decide +kernel
theorem dX10_shop_108 : decode cX10_shop 108 = .ok (.aload_n 0, 1) := by decide +kernel
theorem dX10_shop_109 : decode cX10_shop 109 = .ok (.getfield 13, 3) := by decide +kernel
theorem dX10_shop_112 : decode cX10_shop 112 = .ok (.iload_n 1, 1) := by decide +kernel
theorem dX10_shop_113 : decode cX10_shop 113 = .ok (.iconst 1, 1) := by decide +kernel
theorem dX10_shop_114 : decode cX10_shop 114 = .ok (.isub, 1) := by decide +kernel
theorem dX10_shop_115 : decode cX10_shop 115 = .ok (.iaload, 1) := by decide +kernel
theorem dX10_shop_116 : decode cX10_shop 116 = .ok (.iconst 1, 1) := by decide +kernel
theorem dX10_shop_117 : decode cX10_shop 117 = .ok (.iadd, 1) := by decide +kernel
theorem dX10_shop_118 : decode cX10_shop 118 = .ok (.goto 4, 3) := by decide +kernel
theorem dX10_shop_121 : decode cX10_shop 121 = .ok (.iconst 0, 1) := by decide +kernel
theorem dX10_shop_122 : decode cX10_shop 122 = .ok (.iastore, 1) := by decide +kernel
theorem dX10_shop_123 : decode cX10_shop 123 = .ok (.aload_n 0, 1) := by decide +kernel
theorem dX10_shop_124 : decode cX10_shop 124 = .ok (.getfield 16, 3) := by decide +kernel
theorem dX10_shop_127 : decode cX10_shop 127 = .ok (.iload_n 1, 1) := by decide +kernel
theorem dX10_shop_128 : decode cX10_shop 128 = .ok (.aload_n 0, 1) := by decide +kernel
theorem dX10_shop_129 : decode cX10_shop 129 = .ok (.getfield 34, 3) := by decide +kernel
theorem dX10_shop_132 : decode cX10_shop 132 = .ok (.iload_n 1, 1) := by decide +kernel
theorem dX10_shop_133 : decode cX10_shop 133 = .ok (.iaload, 1) := by decide +kernel
theorem dX10_shop_134 : decode cX10_shop 134 = .ok (.iastore, 1) := by decide +kernel
theorem dX10_shop_135 : decode cX10_shop 135 = .ok (.aload_n 0, 1) := by decide +kernel
theorem dX10_shop_136 : decode cX10_shop 136 = .ok (.getfield 19, 3) := by decide +kernel
theorem dX10_shop_139 : decode cX10_shop 139 = .ok (.iload_n 1, 1) := by decide +kernel
theorem dX10_shop_140 : decode cX10_shop 140 = .ok (.aload_n 0, 1) := by decide +kernel
theorem dX10_shop_141 : decode cX10_shop 141 = .ok (.getfield 37, 3) := by decide +kernel
theorem dX10_shop_144 : decode cX10_shop 144 = .ok (.iload_n 1, 1) := by decide +kernel
theorem dX10_shop_145 : decode cX10_shop 145 = .ok (.iaload, 1) := by decide +kernel
theorem dX10_shop_146 : decode cX10_shop 146 = .ok (.iastore, 1) := by decide +kernel
theorem dX10_shop_147 : decode cX10_shop 147 = .ok (.aload_n 0, 1) := by decide +kernel
theorem dX10_shop_148 : decode cX10_shop 148 = .ok (.iload_n 1, 1) := by decide +kernel
theorem dX10_shop_149 : decode cX10_shop 149 = .ok (.invokevirtual 153, 3) := by decide +kernel
theorem dX10_shop_152 : decode cX10_shop 152 = .ok (.iinc 1 1, 3) := by decide +kernel
theorem dX10_shop_155 : decode cX10_shop 155 = .ok (.goto (-93), 3) := by decide +kernel
theorem dX10_shop_158 : decode cX10_shop 158 = .ok (.aload_n 0, 1) := by decide +kernel
theorem dX10_shop_159 : decode cX10_shop 159 = .ok (.invokevirtual 156, 3) := by decide +kernel
theorem dX10_shop_162 : decode cX10_shop 162 = .ok (.aload_n 0, 1) := by decide +kernel
theorem dX10_shop_163 : decode cX10_shop 163 = .ok (.getfield 105, 3) := by decide +kernel
theorem dX10_shop_166 : decode cX10_shop 166 = .ok (.ireturn, 1) := by decide +kernel
theorem dX10_puts_0 : decode cX10_puts 0 = .ok (.aload_n 0, 1) := by decide +kernel
theorem dX10_puts_1 : decode cX10_puts 1 = .ok (.getfield 16, 3) := by decide +kernel
theorem dX10_puts_4 : decode cX10_puts 4 = .ok (.iload_n 1, 1) := by decide +kernel
theorem dX10_puts_5 : decode cX10_puts 5 = .ok (.iaload, 1) := by decide +kernel
theorem dX10_puts_6 : decode cX10_puts 6 = .ok (.istore_n 2, 1) := by decide +kernel
theorem dX10_puts_7 : decode cX10_puts 7 = .ok (.aload_n 0, 1) := by decide +kernel
theorem dX10_puts_8 : decode cX10_puts 8 = .ok (.getfield 22, 3) := by decide +kernel
theorem dX10_puts_11 : decode cX10_puts 11 = .ok (.bipush 24, 2) := by decide +kernel
theorem dX10_puts_13 : decode cX10_puts 13 = .ok (.iload_n 2, 1) := by decide +kernel
theorem dX10_puts_14 : decode cX10_puts 14 = .ok (.imul, 1) := by decide +kernel
theorem dX10_puts_15 : decode cX10_puts 15 = .ok (.aload_n 0, 1) := by decide +kernel
theorem dX10_puts_16 : decode cX10_puts 16 = .ok (.getfield 25, 3) := by decide +kernel
theorem dX10_puts_19 : decode cX10_puts 19 = .ok (.iload_n 2, 1) := by decide +kernel
theorem dX10_puts_20 : decode cX10_puts 20 = .ok (.iaload, 1) := by decide +kernel
theorem dX10_puts_21 : decode cX10_puts 21 = .ok (.iadd, 1) := by decide +kernel
theorem dX10_puts_22 : decode cX10_puts 22 = .ok (.iload_n 1, 1) := by decide +kernel
theorem dX10_puts_23 : decode cX10_puts 23 = .ok (.iastore, 1) := by decide +kernel
theorem dX10_puts_24 : decode cX10_puts 24 = .ok (.aload_n 0, 1) := by decide +kernel
theorem dX10_puts_25 : decode cX10_puts 25 = .ok (.getfield 25, 3) := by decide +kernel
theorem dX10_puts_28 : decode cX10_puts 28 = .ok (.iload_n 2, 1) := by decide +kernel
theorem dX10_puts_29 : decode cX10_puts 29 = .ok (.dup2, 1) := by decide +kernel
theorem dX10_puts_30 : decode cX10_puts 30 = .ok (.iaload, 1) := by decide +kernel
theorem dX10_puts_31 : decode cX10_puts 31 = .ok (.iconst 1, 1) := by decide +kernel
theorem dX10_puts_32 : decode cX10_puts 32 = .ok (.iadd, 1) := by decide +kernel
theorem dX10_puts_33 : decode cX10_puts 33 = .ok (.iastore, 1) := by decide +kernel
theorem dX10_puts_34 : decode cX10_puts 34 = .ok (.return_, 1) := by decide +kernel
theorem dX10_lays_0 : decode cX10_lays 0 = .ok (.iconst 0, 1) := by decide +kernel
theorem dX10_lays_1 : decode cX10_lays 1 = .ok (.istore_n 1, 1) := by decide +kernel
theorem dX10_lays_2 : decode cX10_lays 2 = .ok (.iload_n 1, 1) := by decide +kernel
theorem dX10_lays_3 : decode cX10_lays 3 = .ok (.bipush 120, 2) := by decide +kernel
theorem dX10_lays_5 : decode cX10_lays 5 = .ok (.if_icmp .ge 29, 3) := by decide +kernel
theorem dX10_lays_8 : decode cX10_lays 8 = .ok (.aload_n 0, 1) := by decide +kernel
theorem dX10_lays_9 : decode cX10_lays 9 = .ok (.getfield 40, 3) := by decide +kernel
theorem dX10_lays_12 : decode cX10_lays 12 = .ok (.bipush 120, 2) := by decide +kernel
theorem dX10_lays_14 : decode cX10_lays 14 = .ok (.aload_n 0, 1) := by decide +kernel
theorem dX10_lays_15 : decode cX10_lays 15 = .ok (.getfield 159, 3) := by decide +kernel
theorem dX10_lays_18 : decode cX10_lays 18 = .ok (.imul, 1) := by decide +kernel
theorem dX10_lays_19 : decode cX10_lays 19 = .ok (.iload_n 1, 1) := by decide +kernel
theorem dX10_lays_20 : decode cX10_lays 20 = .ok (.iadd, 1) := by decide +kernel
theorem dX10_lays_21 : decode cX10_lays 21 = .ok (.aload_n 0, 1) := by decide +kernel
theorem dX10_lays_22 : decode cX10_lays 22 = .ok (.getfield 22, 3) := by decide +kernel
theorem dX10_lays_25 : decode cX10_lays 25 = .ok (.iload_n 1, 1) := by decide +kernel
theorem dX10_lays_26 : decode cX10_lays 26 = .ok (.iaload, 1) := by decide +kernel
theorem dX10_lays_27 : decode cX10_lays 27 = .ok (.iastore, 1) := by decide +kernel
theorem dX10_lays_28 : decode cX10_lays 28 = .ok (.iinc 1 1, 3) := by decide +kernel
theorem dX10_lays_31 : decode cX10_lays 31 = .ok (.goto (-29), 3) := by decide +kernel
theorem dX10_lays_34 : decode cX10_lays 34 = .ok (.return_, 1) := by decide +kernel
theorem dX10_fetches_0 : decode cX10_fetches 0 = .ok (.iconst 0, 1) := by decide +kernel
theorem dX10_fetches_1 : decode cX10_fetches 1 = .ok (.istore_n 1, 1) := by decide +kernel
theorem dX10_fetches_2 : decode cX10_fetches 2 = .ok (.iload_n 1, 1) := by decide +kernel
theorem dX10_fetches_3 : decode cX10_fetches 3 = .ok (.bipush 120, 2) := by decide +kernel
theorem dX10_fetches_5 : decode cX10_fetches 5 = .ok (.if_icmp .ge 29, 3) := by decide +kernel
theorem dX10_fetches_8 : decode cX10_fetches 8 = .ok (.aload_n 0, 1) := by decide +kernel
theorem dX10_fetches_9 : decode cX10_fetches 9 = .ok (.getfield 22, 3) := by decide +kernel
theorem dX10_fetches_12 : decode cX10_fetches 12 = .ok (.iload_n 1, 1) := by decide +kernel
theorem dX10_fetches_13 : decode cX10_fetches 13 = .ok (.aload_n 0, 1) := by decide +kernel
theorem dX10_fetches_14 : decode cX10_fetches 14 = .ok (.getfield 40, 3) := by decide +kernel
theorem dX10_fetches_17 : decode cX10_fetches 17 = .ok (.bipush 120, 2) := by decide +kernel
theorem dX10_fetches_19 : decode cX10_fetches 19 = .ok (.aload_n 0, 1) := by decide +kernel
theorem dX10_fetches_20 : decode cX10_fetches 20 = .ok (.getfield 159, 3) := by decide +kernel
theorem dX10_fetches_23 : decode cX10_fetches 23 = .ok (.imul, 1) := by decide +kernel
theorem dX10_fetches_24 : decode cX10_fetches 24 = .ok (.iload_n 1, 1) := by decide +kernel
theorem dX10_fetches_25 : decode cX10_fetches 25 = .ok (.iadd, 1) := by decide +kernel
theorem dX10_fetches_26 : decode cX10_fetches 26 = .ok (.iaload, 1) := by decide +kernel
theorem dX10_fetches_27 : decode cX10_fetches 27 = .ok (.iastore, 1) := by decide +kernel
theorem dX10_fetches_28 : decode cX10_fetches 28 = .ok (.iinc 1 1, 3) := by decide +kernel
theorem dX10_fetches_31 : decode cX10_fetches 31 = .ok (.goto (-29), 3) := by decide +kernel
theorem dX10_fetches_34 : decode cX10_fetches 34 = .ok (.return_, 1) := by decide +kernel
theorem dX10_changed_0 : decode cX10_changed 0 = .ok (.aload_n 0, 1) := by decide +kernel
theorem dX10_changed_1 : decode cX10_changed 1 = .ok (.getfield 159, 3) := by decide +kernel
theorem dX10_changed_4 : decode cX10_changed 4 = .ok (.bipush 16, 2) := by decide +kernel
theorem dX10_changed_6 : decode cX10_changed 6 = .ok (.if_icmp .ne 43, 3) := by decide +kernel
theorem dX10_changed_9 : decode cX10_changed 9 = .ok (.iconst 0, 1) := by decide +kernel
theorem dX10_changed_10 : decode cX10_changed 10 = .ok (.istore_n 1, 1) := by decide +kernel
theorem dX10_changed_11 : decode cX10_changed 11 = .ok (.iload_n 1, 1) := by decide +kernel
theorem dX10_changed_12 : decode cX10_changed 12 = .ok (.sipush 1920, 3) := by decide +kernel
theorem dX10_changed_15 : decode cX10_changed 15 = .ok (.if_icmp .ge 24, 3) := by decide +kernel
theorem dX10_changed_18 : decode cX10_changed 18 = .ok (.aload_n 0, 1) := by decide +kernel
theorem dX10_changed_19 : decode cX10_changed 19 = .ok (.getfield 40, 3) := by decide +kernel
theorem dX10_changed_22 : decode cX10_changed 22 = .ok (.iload_n 1, 1) := by decide +kernel
theorem dX10_changed_23 : decode cX10_changed 23 = .ok (.aload_n 0, 1) := by decide +kernel
theorem dX10_changed_24 : decode cX10_changed 24 = .ok (.getfield 40, 3) := by decide +kernel
theorem dX10_changed_27 : decode cX10_changed 27 = .ok (.iload_n 1, 1) := by decide +kernel
theorem dX10_changed_28 : decode cX10_changed 28 = .ok (.bipush 120, 2) := by decide +kernel
theorem dX10_changed_30 : decode cX10_changed 30 = .ok (.iadd, 1) := by decide +kernel
theorem dX10_changed_31 : decode cX10_changed 31 = .ok (.iaload, 1) := by decide +kernel
theorem dX10_changed_32 : decode cX10_changed 32 = .ok (.iastore, 1) := by decide +kernel
theorem dX10_changed_33 : decode cX10_changed 33 = .ok (.iinc 1 1, 3) := by decide +kernel
theorem dX10_changed_36 : decode cX10_changed 36 = .ok (.goto (-25), 3) := by decide +kernel
theorem dX10_changed_39 : decode cX10_changed 39 = .ok (.aload_n 0, 1) := by decide +kernel
theorem dX10_changed_40 : decode cX10_changed 40 = .ok (.dup, 1) := by decide +kernel
theorem dX10_changed_41 : decode cX10_changed 41 = .ok (.getfield 159, 3) := by decide +kernel
theorem dX10_changed_44 : decode cX10_changed 44 = .ok (.iconst 1, 1) := by decide +kernel
theorem dX10_changed_45 : decode cX10_changed 45 = .ok (.isub, 1) := by decide +kernel
theorem dX10_changed_46 : decode cX10_changed 46 = .ok (.putfield 159, 3) := by decide +kernel
theorem dX10_changed_49 : decode cX10_changed 49 = .ok (.aload_n 0, 1) := by decide +kernel
theorem dX10_changed_50 : decode cX10_changed 50 = .ok (.dup, 1) := by decide +kernel
theorem dX10_changed_51 : decode cX10_changed 51 = .ok (.getfield 159, 3) := by decide +kernel
theorem dX10_changed_54 : decode cX10_changed 54 = .ok (.iconst 1, 1) := by decide +kernel
theorem dX10_changed_55 : decode cX10_changed 55 = .ok (.iadd, 1) := by decide +kernel
theorem dX10_changed_56 : decode cX10_changed 56 = .ok (.putfield 159, 3) := by decide +kernel
theorem dX10_changed_59 : decode cX10_changed 59 = .ok (.aload_n 0, 1) := by decide +kernel
theorem dX10_changed_60 : decode cX10_changed 60 = .ok (.iconst 0, 1) := by decide +kernel
theorem dX10_changed_61 : decode cX10_changed 61 = .ok (.putfield 162, 3) := by decide +kernel
theorem dX10_changed_64 : decode cX10_changed 64 = .ok (.aload_n 0, 1) := by decide +kernel
theorem dX10_changed_65 : decode cX10_changed 65 = .ok (.invokevirtual 165, 3) := by decide +kernel
theorem dX10_changed_68 : decode cX10_changed 68 = .ok (.return_, 1) := by decide +kernel
theorem dX10_undo_0 : decode cX10_undo 0 = .ok (.aload_n 0, 1) := by decide +kernel
theorem dX10_undo_1 : decode cX10_undo 1 = .ok (.getfield 159, 3) := by decide +kernel
theorem dX10_undo_4 : decode cX10_undo 4 = .ok (.ifCond .ne 6, 3) := by decide +kernel
theorem dX10_undo_7 : decode cX10_undo 7 = .ok (.bipush (-5), 2) := by decide +kernel
theorem dX10_undo_9 : decode cX10_undo 9 = .ok (.ireturn, 1) := by decide +kernel
theorem dX10_undo_10 : decode cX10_undo 10 = .ok (.aload_n 0, 1) := by decide +kernel
theorem dX10_undo_11 : decode cX10_undo 11 = .ok (.dup, 1) := by decide +kernel
theorem dX10_undo_12 : decode cX10_undo 12 = .ok (.getfield 159, 3) := by decide +kernel
theorem dX10_undo_15 : decode cX10_undo 15 = .ok (.iconst 1, 1) := by decide +kernel
theorem dX10_undo_16 : decode cX10_undo 16 = .ok (.isub, 1) := by decide +kernel
theorem dX10_undo_17 : decode cX10_undo 17 = .ok (.putfield 159, 3) := by decide +kernel
theorem dX10_undo_20 : decode cX10_undo 20 = .ok (.aload_n 0, 1) := by decide +kernel
theorem dX10_undo_21 : decode cX10_undo 21 = .ok (.dup, 1) := by decide +kernel
theorem dX10_undo_22 : decode cX10_undo 22 = .ok (.getfield 162, 3) := by decide +kernel
theorem dX10_undo_25 : decode cX10_undo 25 = .ok (.iconst 1, 1) := by decide +kernel
theorem dX10_undo_26 : decode cX10_undo 26 = .ok (.iadd, 1) := by decide +kernel
theorem dX10_undo_27 : decode cX10_undo 27 = .ok (.putfield 162, 3) := by decide +kernel
theorem dX10_undo_30 : decode cX10_undo 30 = .ok (.aload_n 0, 1) := by decide +kernel
theorem dX10_undo_31 : decode cX10_undo 31 = .ok (.invokevirtual 168, 3) := by decide +kernel
theorem dX10_undo_34 : decode cX10_undo 34 = .ok (.aload_n 0, 1) := by decide +kernel
theorem dX10_undo_35 : decode cX10_undo 35 = .ok (.getfield 159, 3) := by decide +kernel
theorem dX10_undo_38 : decode cX10_undo 38 = .ok (.ireturn, 1) := by decide +kernel
theorem dX10_redo_0 : decode cX10_redo 0 = .ok (.aload_n 0, 1) := by decide +kernel
theorem dX10_redo_1 : decode cX10_redo 1 = .ok (.getfield 162, 3) := by decide +kernel
theorem dX10_redo_4 : decode cX10_redo 4 = .ok (.ifCond .ne 6, 3) := by decide +kernel
theorem dX10_redo_7 : decode cX10_redo 7 = .ok (.bipush (-5), 2) := by decide +kernel
theorem dX10_redo_9 : decode cX10_redo 9 = .ok (.ireturn, 1) := by decide +kernel
theorem dX10_redo_10 : decode cX10_redo 10 = .ok (.aload_n 0, 1) := by decide +kernel
theorem dX10_redo_11 : decode cX10_redo 11 = .ok (.dup, 1) := by decide +kernel
theorem dX10_redo_12 : decode cX10_redo 12 = .ok (.getfield 159, 3) := by decide +kernel
theorem dX10_redo_15 : decode cX10_redo 15 = .ok (.iconst 1, 1) := by decide +kernel
theorem dX10_redo_16 : decode cX10_redo 16 = .ok (.iadd, 1) := by decide +kernel
theorem dX10_redo_17 : decode cX10_redo 17 = .ok (.putfield 159, 3) := by decide +kernel
theorem dX10_redo_20 : decode cX10_redo 20 = .ok (.aload_n 0, 1) := by decide +kernel
theorem dX10_redo_21 : decode cX10_redo 21 = .ok (.dup, 1) := by decide +kernel
theorem dX10_redo_22 : decode cX10_redo 22 = .ok (.getfield 162, 3) := by decide +kernel
theorem dX10_redo_25 : decode cX10_redo 25 = .ok (.iconst 1, 1) := by decide +kernel
theorem dX10_redo_26 : decode cX10_redo 26 = .ok (.isub, 1) := by decide +kernel
theorem dX10_redo_27 : decode cX10_redo 27 = .ok (.putfield 162, 3) := by decide +kernel
theorem dX10_redo_30 : decode cX10_redo 30 = .ok (.aload_n 0, 1) := by decide +kernel
theorem dX10_redo_31 : decode cX10_redo 31 = .ok (.invokevirtual 168, 3) := by decide +kernel
theorem dX10_redo_34 : decode cX10_redo 34 = .ok (.aload_n 0, 1) := by decide +kernel
theorem dX10_redo_35 : decode cX10_redo 35 = .ok (.getfield 162, 3) := by decide +kernel
theorem dX10_redo_38 : decode cX10_redo 38 = .ok (.ireturn, 1) := by decide +kernel
theorem dX10_begins_0 : decode cX10_begins 0 = .ok (.aload_n 0, 1) := by decide +kernel
theorem dX10_begins_1 : decode cX10_begins 1 = .ok (.iconst 0, 1) := by decide +kernel
theorem dX10_begins_2 : decode cX10_begins 2 = .ok (.putfield 159, 3) := by decide +kernel
theorem dX10_begins_5 : decode cX10_begins 5 = .ok (.aload_n 0, 1) := by decide +kernel
theorem dX10_begins_6 : decode cX10_begins 6 = .ok (.iconst 0, 1) := by decide +kernel
theorem dX10_begins_7 : decode cX10_begins 7 = .ok (.putfield 162, 3) := by decide +kernel
theorem dX10_begins_10 : decode cX10_begins 10 = .ok (.aload_n 0, 1) := by decide +kernel
theorem dX10_begins_11 : decode cX10_begins 11 = .ok (.invokevirtual 165, 3) := by decide +kernel
theorem dX10_begins_14 : decode cX10_begins 14 = .ok (.aload_n 0, 1) := by decide +kernel
theorem dX10_begins_15 : decode cX10_begins 15 = .ok (.invokevirtual 171, 3) := by decide +kernel
theorem dX10_begins_18 : decode cX10_begins 18 = .ok (.return_, 1) := by decide +kernel
theorem dX10_placeOf_0 : decode cX10_placeOf 0 = .ok (.bipush 24, 2) := by decide +kernel
theorem dX10_placeOf_2 : decode cX10_placeOf 2 = .ok (.aload_n 0, 1) := by decide +kernel
theorem dX10_placeOf_3 : decode cX10_placeOf 3 = .ok (.getfield 16, 3) := by decide +kernel
theorem dX10_placeOf_6 : decode cX10_placeOf 6 = .ok (.iload_n 1, 1) := by decide +kernel
theorem dX10_placeOf_7 : decode cX10_placeOf 7 = .ok (.iaload, 1) := by decide +kernel
theorem dX10_placeOf_8 : decode cX10_placeOf 8 = .ok (.imul, 1) := by decide +kernel
theorem dX10_placeOf_9 : decode cX10_placeOf 9 = .ok (.istore_n 2, 1) := by decide +kernel
theorem dX10_placeOf_10 : decode cX10_placeOf 10 = .ok (.aload_n 0, 1) := by decide +kernel
theorem dX10_placeOf_11 : decode cX10_placeOf 11 = .ok (.getfield 22, 3) := by decide +kernel
theorem dX10_placeOf_14 : decode cX10_placeOf 14 = .ok (.iload_n 2, 1) := by decide +kernel
theorem dX10_placeOf_15 : decode cX10_placeOf 15 = .ok (.iaload, 1) := by decide +kernel
theorem dX10_placeOf_16 : decode cX10_placeOf 16 = .ok (.iload_n 1, 1) := by decide +kernel
theorem dX10_placeOf_17 : decode cX10_placeOf 17 = .ok (.if_icmp .eq 9, 3) := by decide +kernel
theorem dX10_placeOf_20 : decode cX10_placeOf 20 = .ok (.iinc 2 1, 3) := by decide +kernel
theorem dX10_placeOf_23 : decode cX10_placeOf 23 = .ok (.goto (-13), 3) := by decide +kernel
theorem dX10_placeOf_26 : decode cX10_placeOf 26 = .ok (.iload_n 2, 1) := by decide +kernel
theorem dX10_placeOf_27 : decode cX10_placeOf 27 = .ok (.bipush 24, 2) := by decide +kernel
theorem dX10_placeOf_29 : decode cX10_placeOf 29 = .ok (.aload_n 0, 1) := by decide +kernel
theorem dX10_placeOf_30 : decode cX10_placeOf 30 = .ok (.getfield 16, 3) := by decide +kernel
theorem dX10_placeOf_33 : decode cX10_placeOf 33 = .ok (.iload_n 1, 1) := by decide +kernel
theorem dX10_placeOf_34 : decode cX10_placeOf 34 = .ok (.iaload, 1) := by decide +kernel
theorem dX10_placeOf_35 : decode cX10_placeOf 35 = .ok (.imul, 1) := by decide +kernel
theorem dX10_placeOf_36 : decode cX10_placeOf 36 = .ok (.isub, 1) := by decide +kernel
theorem dX10_placeOf_37 : decode cX10_placeOf 37 = .ok (.ireturn, 1) := by decide +kernel
theorem dX10_task_0 : decode cX10_task 0 = .ok (.aload_n 0, 1) := by decide +kernel
theorem dX10_task_1 : decode cX10_task 1 = .ok (.iload_n 1, 1) := by decide +kernel
theorem dX10_task_2 : decode cX10_task 2 = .ok (.invokevirtual 174, 3) := by decide +kernel
theorem dX10_task_5 : decode cX10_task 5 = .ok (.ifCond .eq 12, 3) := by decide +kernel
theorem dX10_task_8 : decode cX10_task 8 = .ok (.iload_n 2, 1) := by decide +kernel
theorem dX10_task_9 : decode cX10_task 9 = .ok (.iconst 0, 1) := by decide +kernel
theorem dX10_task_10 : decode cX10_task 10 = .ok (.iconst 4, 1) := by decide +kernel
theorem dX10_task_11 : decode cX10_task 11 = .ok (.invokestatic 108, 3) := by decide +kernel
theorem dX10_task_14 : decode cX10_task 14 = .ok (.ifCond .ne 5, 3) := by decide +kernel
theorem dX10_task_17 : decode cX10_task 17 = .ok (.iconst (-1), 1) := by decide +kernel
theorem dX10_task_18 : decode cX10_task 18 = .ok (.ireturn, 1) := by decide +kernel
theorem dX10_task_19 : decode cX10_task 19 = .ok (.iload_n 2, 1) := by decide +kernel
theorem dX10_task_20 : decode cX10_task 20 = .ok (.ifCond .ne 12, 3) := by decide +kernel
theorem dX10_task_23 : decode cX10_task 23 = .ok (.aload_n 0, 1) := by decide +kernel
theorem dX10_task_24 : decode cX10_task 24 = .ok (.getfield 9, 3) := by decide +kernel
theorem dX10_task_27 : decode cX10_task 27 = .ok (.iload_n 1, 1) := by decide +kernel
theorem dX10_task_28 : decode cX10_task 28 = .ok (.iaload, 1) := by decide +kernel
theorem dX10_task_29 : decode cX10_task 29 = .ok (.goto 50, 3) := by decide +kernel
theorem dX10_task_32 : decode cX10_task 32 = .ok (.iload_n 2, 1) := by decide +kernel
theorem dX10_task_33 : decode cX10_task 33 = .ok (.iconst 1, 1) := by decide +kernel
theorem dX10_task_34 : decode cX10_task 34 = .ok (.if_icmp .ne 12, 3) := by decide +kernel
theorem dX10_task_37 : decode cX10_task 37 = .ok (.aload_n 0, 1) := by decide +kernel
theorem dX10_task_38 : decode cX10_task 38 = .ok (.getfield 13, 3) := by decide +kernel
theorem dX10_task_41 : decode cX10_task 41 = .ok (.iload_n 1, 1) := by decide +kernel
theorem dX10_task_42 : decode cX10_task 42 = .ok (.iaload, 1) := by decide +kernel
theorem dX10_task_43 : decode cX10_task 43 = .ok (.goto 36, 3) := by decide +kernel
theorem dX10_task_46 : decode cX10_task 46 = .ok (.iload_n 2, 1) := by decide +kernel
theorem dX10_task_47 : decode cX10_task 47 = .ok (.iconst 2, 1) := by decide +kernel
theorem dX10_task_48 : decode cX10_task 48 = .ok (.if_icmp .ne 12, 3) := by decide +kernel
theorem dX10_task_51 : decode cX10_task 51 = .ok (.aload_n 0, 1) := by decide +kernel
theorem dX10_task_52 : decode cX10_task 52 = .ok (.getfield 16, 3) := by decide +kernel
theorem dX10_task_55 : decode cX10_task 55 = .ok (.iload_n 1, 1) := by decide +kernel
theorem dX10_task_56 : decode cX10_task 56 = .ok (.iaload, 1) := by decide +kernel
theorem dX10_task_57 : decode cX10_task 57 = .ok (.goto 22, 3) := by decide +kernel
theorem dX10_task_60 : decode cX10_task 60 = .ok (.iload_n 2, 1) := by decide +kernel
theorem dX10_task_61 : decode cX10_task 61 = .ok (.iconst 3, 1) := by decide +kernel
theorem dX10_task_62 : decode cX10_task 62 = .ok (.if_icmp .ne 12, 3) := by decide +kernel
theorem dX10_task_65 : decode cX10_task 65 = .ok (.aload_n 0, 1) := by decide +kernel
theorem dX10_task_66 : decode cX10_task 66 = .ok (.getfield 19, 3) := by decide +kernel
theorem dX10_task_69 : decode cX10_task 69 = .ok (.iload_n 1, 1) := by decide +kernel
theorem dX10_task_70 : decode cX10_task 70 = .ok (.iaload, 1) := by decide +kernel
theorem dX10_task_71 : decode cX10_task 71 = .ok (.goto 8, 3) := by decide +kernel
theorem dX10_task_74 : decode cX10_task 74 = .ok (.aload_n 0, 1) := by decide +kernel
theorem dX10_task_75 : decode cX10_task 75 = .ok (.iload_n 1, 1) := by decide +kernel
theorem dX10_task_76 : decode cX10_task 76 = .ok (.invokevirtual 177, 3) := by decide +kernel
theorem dX10_task_79 : decode cX10_task 79 = .ok (.ireturn, 1) := by decide +kernel
theorem dX10_order_0 : decode cX10_order 0 = .ok (.iload_n 1, 1) := by decide +kernel
theorem dX10_order_1 : decode cX10_order 1 = .ok (.invokestatic 181, 3) := by decide +kernel
theorem dX10_order_4 : decode cX10_order 4 = .ok (.ifCond .eq 8, 3) := by decide +kernel
theorem dX10_order_7 : decode cX10_order 7 = .ok (.iload_n 2, 1) := by decide +kernel
theorem dX10_order_8 : decode cX10_order 8 = .ok (.iconst (-1), 1) := by decide +kernel
theorem dX10_order_9 : decode cX10_order 9 = .ok (.if_icmp .ge 5, 3) := by decide +kernel
theorem dX10_order_12 : decode cX10_order 12 = .ok (.iconst (-1), 1) := by decide +kernel
theorem dX10_order_13 : decode cX10_order 13 = .ok (.ireturn, 1) := by decide +kernel
theorem dX10_order_14 : decode cX10_order 14 = .ok (.aload_n 0, 1) := by decide +kernel
theorem dX10_order_15 : decode cX10_order 15 = .ok (.getfield 105, 3) := by decide +kernel
theorem dX10_order_18 : decode cX10_order 18 = .ok (.ifCond .ne 6, 3) := by decide +kernel
theorem dX10_order_21 : decode cX10_order 21 = .ok (.bipush (-5), 2) := by decide +kernel
theorem dX10_order_23 : decode cX10_order 23 = .ok (.ireturn, 1) := by decide +kernel
theorem dX10_order_24 : decode cX10_order 24 = .ok (.iload_n 2, 1) := by decide +kernel
theorem dX10_order_25 : decode cX10_order 25 = .ok (.ifCond .ge 12, 3) := by decide +kernel
theorem dX10_order_28 : decode cX10_order 28 = .ok (.aload_n 0, 1) := by decide +kernel
theorem dX10_order_29 : decode cX10_order 29 = .ok (.getfield 25, 3) := by decide +kernel
theorem dX10_order_32 : decode cX10_order 32 = .ok (.iload_n 1, 1) := by decide +kernel
theorem dX10_order_33 : decode cX10_order 33 = .ok (.iaload, 1) := by decide +kernel
theorem dX10_order_34 : decode cX10_order 34 = .ok (.goto 29, 3) := by decide +kernel
theorem dX10_order_37 : decode cX10_order 37 = .ok (.iload_n 2, 1) := by decide +kernel
theorem dX10_order_38 : decode cX10_order 38 = .ok (.aload_n 0, 1) := by decide +kernel
theorem dX10_order_39 : decode cX10_order 39 = .ok (.getfield 25, 3) := by decide +kernel
theorem dX10_order_42 : decode cX10_order 42 = .ok (.iload_n 1, 1) := by decide +kernel
theorem dX10_order_43 : decode cX10_order 43 = .ok (.iaload, 1) := by decide +kernel
theorem dX10_order_44 : decode cX10_order 44 = .ok (.if_icmp .ge 17, 3) := by decide +kernel
theorem dX10_order_47 : decode cX10_order 47 = .ok (.aload_n 0, 1) := by decide +kernel
theorem dX10_order_48 : decode cX10_order 48 = .ok (.getfield 22, 3) := by decide +kernel
theorem dX10_order_51 : decode cX10_order 51 = .ok (.bipush 24, 2) := by decide +kernel
theorem dX10_order_53 : decode cX10_order 53 = .ok (.iload_n 1, 1) := by decide +kernel
theorem dX10_order_54 : decode cX10_order 54 = .ok (.imul, 1) := by decide +kernel
theorem dX10_order_55 : decode cX10_order 55 = .ok (.iload_n 2, 1) := by decide +kernel
theorem dX10_order_56 : decode cX10_order 56 = .ok (.iadd, 1) := by decide +kernel
theorem dX10_order_57 : decode cX10_order 57 = .ok (.iaload, 1) := by decide +kernel
theorem dX10_order_58 : decode cX10_order 58 = .ok (.goto 5, 3) := by decide +kernel
theorem dX10_order_61 : decode cX10_order 61 = .ok (.bipush (-2), 2) := by decide +kernel
theorem dX10_order_63 : decode cX10_order 63 = .ok (.ireturn, 1) := by decide +kernel
theorem dX10_swaps_0 : decode cX10_swaps 0 = .ok (.bipush 24, 2) := by decide +kernel
theorem dX10_swaps_2 : decode cX10_swaps 2 = .ok (.iload_n 1, 1) := by decide +kernel
theorem dX10_swaps_3 : decode cX10_swaps 3 = .ok (.imul, 1) := by decide +kernel
theorem dX10_swaps_4 : decode cX10_swaps 4 = .ok (.iload_n 2, 1) := by decide +kernel
theorem dX10_swaps_5 : decode cX10_swaps 5 = .ok (.iadd, 1) := by decide +kernel
theorem dX10_swaps_6 : decode cX10_swaps 6 = .ok (.istore_n 3, 1) := by decide +kernel
theorem dX10_swaps_7 : decode cX10_swaps 7 = .ok (.aload_n 0, 1) := by decide +kernel
theorem dX10_swaps_8 : decode cX10_swaps 8 = .ok (.getfield 22, 3) := by decide +kernel
theorem dX10_swaps_11 : decode cX10_swaps 11 = .ok (.iload_n 3, 1) := by decide +kernel
theorem dX10_swaps_12 : decode cX10_swaps 12 = .ok (.iaload, 1) := by decide +kernel
theorem dX10_swaps_13 : decode cX10_swaps 13 = .ok (.istore 4, 2) := by decide +kernel
theorem dX10_swaps_15 : decode cX10_swaps 15 = .ok (.aload_n 0, 1) := by decide +kernel
theorem dX10_swaps_16 : decode cX10_swaps 16 = .ok (.getfield 22, 3) := by decide +kernel
theorem dX10_swaps_19 : decode cX10_swaps 19 = .ok (.iload_n 3, 1) := by decide +kernel
theorem dX10_swaps_20 : decode cX10_swaps 20 = .ok (.aload_n 0, 1) := by decide +kernel
theorem dX10_swaps_21 : decode cX10_swaps 21 = .ok (.getfield 22, 3) := by decide +kernel
theorem dX10_swaps_24 : decode cX10_swaps 24 = .ok (.iload_n 3, 1) := by decide +kernel
theorem dX10_swaps_25 : decode cX10_swaps 25 = .ok (.iconst 1, 1) := by decide +kernel
theorem dX10_swaps_26 : decode cX10_swaps 26 = .ok (.iadd, 1) := by decide +kernel
theorem dX10_swaps_27 : decode cX10_swaps 27 = .ok (.iaload, 1) := by decide +kernel
theorem dX10_swaps_28 : decode cX10_swaps 28 = .ok (.iastore, 1) := by decide +kernel
theorem dX10_swaps_29 : decode cX10_swaps 29 = .ok (.aload_n 0, 1) := by decide +kernel
theorem dX10_swaps_30 : decode cX10_swaps 30 = .ok (.getfield 22, 3) := by decide +kernel
theorem dX10_swaps_33 : decode cX10_swaps 33 = .ok (.iload_n 3, 1) := by decide +kernel
theorem dX10_swaps_34 : decode cX10_swaps 34 = .ok (.iconst 1, 1) := by decide +kernel
theorem dX10_swaps_35 : decode cX10_swaps 35 = .ok (.iadd, 1) := by decide +kernel
theorem dX10_swaps_36 : decode cX10_swaps 36 = .ok (.iload 4, 2) := by decide +kernel
theorem dX10_swaps_38 : decode cX10_swaps 38 = .ok (.iastore, 1) := by decide +kernel
theorem dX10_swaps_39 : decode cX10_swaps 39 = .ok (.return_, 1) := by decide +kernel
theorem dX10_turn_0 : decode cX10_turn 0 = .ok (.iload_n 1, 1) := by decide +kernel
theorem dX10_turn_1 : decode cX10_turn 1 = .ok (.invokestatic 181, 3) := by decide +kernel
theorem dX10_turn_4 : decode cX10_turn 4 = .ok (.ifCond .eq 26, 3) := by decide +kernel
theorem dX10_turn_7 : decode cX10_turn 7 = .ok (.iload_n 2, 1) := by decide +kernel
theorem dX10_turn_8 : decode cX10_turn 8 = .ok (.ifCond .lt 22, 3) := by decide +kernel
theorem dX10_turn_11 : decode cX10_turn 11 = .ok (.aload_n 0, 1) := by decide +kernel
theorem dX10_turn_12 : decode cX10_turn 12 = .ok (.getfield 105, 3) := by decide +kernel
theorem dX10_turn_15 : decode cX10_turn 15 = .ok (.ifCond .eq 15, 3) := by decide +kernel
theorem dX10_turn_18 : decode cX10_turn 18 = .ok (.iload_n 2, 1) := by decide +kernel
theorem dX10_turn_19 : decode cX10_turn 19 = .ok (.aload_n 0, 1) := by decide +kernel
theorem dX10_turn_20 : decode cX10_turn 20 = .ok (.getfield 25, 3) := by decide +kernel
theorem dX10_turn_23 : decode cX10_turn 23 = .ok (.iload_n 1, 1) := by decide +kernel
theorem dX10_turn_24 : decode cX10_turn 24 = .ok (.iaload, 1) := by decide +kernel
theorem dX10_turn_25 : decode cX10_turn 25 = .ok (.iconst 1, 1) := by decide +kernel
theorem dX10_turn_26 : decode cX10_turn 26 = .ok (.isub, 1) := by decide +kernel
theorem dX10_turn_27 : decode cX10_turn 27 = .ok (.if_icmp .lt 5, 3) := by decide +kernel
theorem dX10_turn_30 : decode cX10_turn 30 = .ok (.iconst (-1), 1) := by decide +kernel
theorem dX10_turn_31 : decode cX10_turn 31 = .ok (.ireturn, 1) := by decide +kernel
theorem dX10_turn_32 : decode cX10_turn 32 = .ok (.aload_n 0, 1) := by decide +kernel
theorem dX10_turn_33 : decode cX10_turn 33 = .ok (.iload_n 1, 1) := by decide +kernel
theorem dX10_turn_34 : decode cX10_turn 34 = .ok (.iload_n 2, 1) := by decide +kernel
theorem dX10_turn_35 : decode cX10_turn 35 = .ok (.invokevirtual 184, 3) := by decide +kernel
theorem dX10_turn_38 : decode cX10_turn 38 = .ok (.aload_n 0, 1) := by decide +kernel
theorem dX10_turn_39 : decode cX10_turn 39 = .ok (.invokevirtual 188, 3) := by decide +kernel
theorem dX10_turn_42 : decode cX10_turn 42 = .ok (.aload_n 0, 1) := by decide +kernel
theorem dX10_turn_43 : decode cX10_turn 43 = .ok (.invokevirtual 191, 3) := by decide +kernel
theorem dX10_turn_46 : decode cX10_turn 46 = .ok (.ifCond .eq 10, 3) := by decide +kernel
theorem dX10_turn_49 : decode cX10_turn 49 = .ok (.aload_n 0, 1) := by decide +kernel
theorem dX10_turn_50 : decode cX10_turn 50 = .ok (.getfield 195, 3) := by decide +kernel
theorem dX10_turn_53 : decode cX10_turn 53 = .ok (.goto 5, 3) := by decide +kernel
theorem dX10_turn_56 : decode cX10_turn 56 = .ok (.bipush (-4), 2) := by decide +kernel
theorem dX10_turn_58 : decode cX10_turn 58 = .ok (.ireturn, 1) := by decide +kernel
theorem dX10_jobAhead_0 : decode cX10_jobAhead 0 = .ok (.aload_n 0, 1) := by decide +kernel
theorem dX10_jobAhead_1 : decode cX10_jobAhead 1 = .ok (.getfield 13, 3) := by decide +kernel
theorem dX10_jobAhead_4 : decode cX10_jobAhead 4 = .ok (.iload_n 1, 1) := by decide +kernel
theorem dX10_jobAhead_5 : decode cX10_jobAhead 5 = .ok (.iaload, 1) := by decide +kernel
theorem dX10_jobAhead_6 : decode cX10_jobAhead 6 = .ok (.ifCond .le 9, 3) := by decide +kernel
theorem dX10_jobAhead_9 : decode cX10_jobAhead 9 = .ok (.iload_n 1, 1) := by decide +kernel
theorem dX10_jobAhead_10 : decode cX10_jobAhead 10 = .ok (.iconst 1, 1) := by decide +kernel
theorem dX10_jobAhead_11 : decode cX10_jobAhead 11 = .ok (.isub, 1) := by decide +kernel
theorem dX10_jobAhead_12 : decode cX10_jobAhead 12 = .ok (.goto 4, 3) := by decide +kernel
theorem dX10_jobAhead_15 : decode cX10_jobAhead 15 = .ok (.iconst (-1), 1) := by decide +kernel
theorem dX10_jobAhead_16 : decode cX10_jobAhead 16 = .ok (.ireturn, 1) := by decide +kernel
theorem dX10_jobBehind_0 : decode cX10_jobBehind 0 = .ok (.iload_n 1, 1) := by decide +kernel
theorem dX10_jobBehind_1 : decode cX10_jobBehind 1 = .ok (.iconst 1, 1) := by decide +kernel
theorem dX10_jobBehind_2 : decode cX10_jobBehind 2 = .ok (.iadd, 1) := by decide +kernel
theorem dX10_jobBehind_3 : decode cX10_jobBehind 3 = .ok (.aload_n 0, 1) := by decide +kernel
theorem dX10_jobBehind_4 : decode cX10_jobBehind 4 = .ok (.getfield 105, 3) := by decide +kernel
theorem dX10_jobBehind_7 : decode cX10_jobBehind 7 = .ok (.if_icmp .ge 26, 3) := by decide +kernel
theorem dX10_jobBehind_10 : decode cX10_jobBehind 10 = .ok (.aload_n 0, 1) := by decide +kernel
theorem dX10_jobBehind_11 : decode cX10_jobBehind 11 = .ok (.getfield 9, 3) := by decide +kernel
theorem dX10_jobBehind_14 : decode cX10_jobBehind 14 = .ok (.iload_n 1, 1) := by decide +kernel
theorem dX10_jobBehind_15 : decode cX10_jobBehind 15 = .ok (.iconst 1, 1) := by decide +kernel
theorem dX10_jobBehind_16 : decode cX10_jobBehind 16 = .ok (.iadd, 1) := by decide +kernel
theorem dX10_jobBehind_17 : decode cX10_jobBehind 17 = .ok (.iaload, 1) := by decide +kernel
theorem dX10_jobBehind_18 : decode cX10_jobBehind 18 = .ok (.aload_n 0, 1) := by decide +kernel
theorem dX10_jobBehind_19 : decode cX10_jobBehind 19 = .ok (.getfield 9, 3) := by decide +kernel
theorem dX10_jobBehind_22 : decode cX10_jobBehind 22 = .ok (.iload_n 1, 1) := by decide +kernel
theorem dX10_jobBehind_23 : decode cX10_jobBehind 23 = .ok (.iaload, 1) := by decide +kernel
theorem dX10_jobBehind_24 : decode cX10_jobBehind 24 = .ok (.if_icmp .ne 9, 3) := by decide +kernel
theorem dX10_jobBehind_27 : decode cX10_jobBehind 27 = .ok (.iload_n 1, 1) := by decide +kernel
theorem dX10_jobBehind_28 : decode cX10_jobBehind 28 = .ok (.iconst 1, 1) := by decide +kernel
theorem dX10_jobBehind_29 : decode cX10_jobBehind 29 = .ok (.iadd, 1) := by decide +kernel
theorem dX10_jobBehind_30 : decode cX10_jobBehind 30 = .ok (.goto 4, 3) := by decide +kernel
theorem dX10_jobBehind_33 : decode cX10_jobBehind 33 = .ok (.iconst (-1), 1) := by decide +kernel
theorem dX10_jobBehind_34 : decode cX10_jobBehind 34 = .ok (.ireturn, 1) := by decide +kernel
theorem dX10_endOf_0 : decode cX10_endOf 0 = .ok (.iload_n 1, 1) := by decide +kernel
theorem dX10_endOf_1 : decode cX10_endOf 1 = .ok (.ifCond .ge 7, 3) := by decide +kernel
theorem dX10_endOf_4 : decode cX10_endOf 4 = .ok (.iconst 0, 1) := by decide +kernel
theorem dX10_endOf_5 : decode cX10_endOf 5 = .ok (.goto 16, 3) := by decide +kernel
theorem dX10_endOf_8 : decode cX10_endOf 8 = .ok (.aload_n 0, 1) := by decide +kernel
theorem dX10_endOf_9 : decode cX10_endOf 9 = .ok (.getfield 49, 3) := by decide +kernel
theorem dX10_endOf_12 : decode cX10_endOf 12 = .ok (.iload_n 1, 1) := by decide +kernel
theorem dX10_endOf_13 : decode cX10_endOf 13 = .ok (.iaload, 1) := by decide +kernel
theorem dX10_endOf_14 : decode cX10_endOf 14 = .ok (.aload_n 0, 1) := by decide +kernel
theorem dX10_endOf_15 : decode cX10_endOf 15 = .ok (.getfield 19, 3) := by decide +kernel
theorem dX10_endOf_18 : decode cX10_endOf 18 = .ok (.iload_n 1, 1) := by decide +kernel
theorem dX10_endOf_19 : decode cX10_endOf 19 = .ok (.iaload, 1) := by decide +kernel
theorem dX10_endOf_20 : decode cX10_endOf 20 = .ok (.iadd, 1) := by decide +kernel
theorem dX10_endOf_21 : decode cX10_endOf 21 = .ok (.ireturn, 1) := by decide +kernel
theorem dX10_restOf_0 : decode cX10_restOf 0 = .ok (.iload_n 1, 1) := by decide +kernel
theorem dX10_restOf_1 : decode cX10_restOf 1 = .ok (.ifCond .ge 7, 3) := by decide +kernel
theorem dX10_restOf_4 : decode cX10_restOf 4 = .ok (.iconst 0, 1) := by decide +kernel
theorem dX10_restOf_5 : decode cX10_restOf 5 = .ok (.goto 16, 3) := by decide +kernel
theorem dX10_restOf_8 : decode cX10_restOf 8 = .ok (.aload_n 0, 1) := by decide +kernel
theorem dX10_restOf_9 : decode cX10_restOf 9 = .ok (.getfield 19, 3) := by decide +kernel
theorem dX10_restOf_12 : decode cX10_restOf 12 = .ok (.iload_n 1, 1) := by decide +kernel
theorem dX10_restOf_13 : decode cX10_restOf 13 = .ok (.iaload, 1) := by decide +kernel
theorem dX10_restOf_14 : decode cX10_restOf 14 = .ok (.aload_n 0, 1) := by decide +kernel
theorem dX10_restOf_15 : decode cX10_restOf 15 = .ok (.getfield 52, 3) := by decide +kernel
theorem dX10_restOf_18 : decode cX10_restOf 18 = .ok (.iload_n 1, 1) := by decide +kernel
theorem dX10_restOf_19 : decode cX10_restOf 19 = .ok (.iaload, 1) := by decide +kernel
theorem dX10_restOf_20 : decode cX10_restOf 20 = .ok (.iadd, 1) := by decide +kernel
theorem dX10_restOf_21 : decode cX10_restOf 21 = .ok (.ireturn, 1) := by decide +kernel
theorem dX10_isReady_0 : decode cX10_isReady 0 = .ok (.aload_n 0, 1) := by decide +kernel
theorem dX10_isReady_1 : decode cX10_isReady 1 = .ok (.getfield 58, 3) := by decide +kernel
theorem dX10_isReady_4 : decode cX10_isReady 4 = .ok (.iload_n 1, 1) := by decide +kernel
theorem dX10_isReady_5 : decode cX10_isReady 5 = .ok (.baload, 1) := by decide +kernel
theorem dX10_isReady_6 : decode cX10_isReady 6 = .ok (.ifCond .ne 51, 3) := by decide +kernel
theorem dX10_isReady_9 : decode cX10_isReady 9 = .ok (.aload_n 0, 1) := by decide +kernel
theorem dX10_isReady_10 : decode cX10_isReady 10 = .ok (.iload_n 1, 1) := by decide +kernel
theorem dX10_isReady_11 : decode cX10_isReady 11 = .ok (.invokevirtual 198, 3) := by decide +kernel
theorem dX10_isReady_14 : decode cX10_isReady 14 = .ok (.ifCond .lt 16, 3) := by decide +kernel
theorem dX10_isReady_17 : decode cX10_isReady 17 = .ok (.aload_n 0, 1) := by decide +kernel
theorem dX10_isReady_18 : decode cX10_isReady 18 = .ok (.getfield 58, 3) := by decide +kernel
theorem dX10_isReady_21 : decode cX10_isReady 21 = .ok (.aload_n 0, 1) := by decide +kernel
theorem dX10_isReady_22 : decode cX10_isReady 22 = .ok (.iload_n 1, 1) := by decide +kernel
theorem dX10_isReady_23 : decode cX10_isReady 23 = .ok (.invokevirtual 198, 3) := by decide +kernel
theorem dX10_isReady_26 : decode cX10_isReady 26 = .ok (.baload, 1) := by decide +kernel
theorem dX10_isReady_27 : decode cX10_isReady 27 = .ok (.ifCond .eq 30, 3) := by decide +kernel
theorem dX10_isReady_30 : decode cX10_isReady 30 = .ok (.aload_n 0, 1) := by decide +kernel
theorem dX10_isReady_31 : decode cX10_isReady 31 = .ok (.getfield 43, 3) := by decide +kernel
theorem dX10_isReady_34 : decode cX10_isReady 34 = .ok (.iload_n 1, 1) := by decide +kernel
theorem dX10_isReady_35 : decode cX10_isReady 35 = .ok (.iaload, 1) := by decide +kernel
theorem dX10_isReady_36 : decode cX10_isReady 36 = .ok (.ifCond .lt 17, 3) := by decide +kernel
theorem dX10_isReady_39 : decode cX10_isReady 39 = .ok (.aload_n 0, 1) := by decide +kernel
theorem dX10_isReady_40 : decode cX10_isReady 40 = .ok (.getfield 58, 3) := by decide +kernel
theorem dX10_isReady_43 : decode cX10_isReady 43 = .ok (.aload_n 0, 1) := by decide +kernel
theorem dX10_isReady_44 : decode cX10_isReady 44 = .ok (.getfield 43, 3) := by decide +kernel
theorem dX10_isReady_47 : decode cX10_isReady 47 = .ok (.iload_n 1, 1) := by decide +kernel
theorem dX10_isReady_48 : decode cX10_isReady 48 = .ok (.iaload, 1) := by decide +kernel
theorem dX10_isReady_49 : decode cX10_isReady 49 = .ok (.baload, 1) := by decide +kernel
theorem dX10_isReady_50 : decode cX10_isReady 50 = .ok (.ifCond .eq 7, 3) := by decide +kernel
theorem dX10_isReady_53 : decode cX10_isReady 53 = .ok (.iconst 1, 1) := by decide +kernel
theorem dX10_isReady_54 : decode cX10_isReady 54 = .ok (.goto 4, 3) := by decide +kernel
theorem dX10_isReady_57 : decode cX10_isReady 57 = .ok (.iconst 0, 1) := by decide +kernel
theorem dX10_isReady_58 : decode cX10_isReady 58 = .ok (.ireturn, 1) := by decide +kernel
theorem dX10_nextReady_0 : decode cX10_nextReady 0 = .ok (.iconst 0, 1) := by decide +kernel
theorem dX10_nextReady_1 : decode cX10_nextReady 1 = .ok (.istore_n 1, 1) := by decide +kernel
theorem dX10_nextReady_2 : decode cX10_nextReady 2 = .ok (.iload_n 1, 1) := by decide +kernel
theorem dX10_nextReady_3 : decode cX10_nextReady 3 = .ok (.aload_n 0, 1) := by decide +kernel
theorem dX10_nextReady_4 : decode cX10_nextReady 4 = .ok (.getfield 105, 3) := by decide +kernel
theorem dX10_nextReady_7 : decode cX10_nextReady 7 = .ok (.if_icmp .ge 19, 3) := by decide +kernel
theorem dX10_nextReady_10 : decode cX10_nextReady 10 = .ok (.aload_n 0, 1) := by decide +kernel
theorem dX10_nextReady_11 : decode cX10_nextReady 11 = .ok (.iload_n 1, 1) := by decide +kernel
theorem dX10_nextReady_12 : decode cX10_nextReady 12 = .ok (.invokevirtual 201, 3) := by decide +kernel
theorem dX10_nextReady_15 : decode cX10_nextReady 15 = .ok (.ifCond .eq 5, 3) := by decide +kernel
theorem dX10_nextReady_18 : decode cX10_nextReady 18 = .ok (.iload_n 1, 1) := by decide +kernel
theorem dX10_nextReady_19 : decode cX10_nextReady 19 = .ok (.ireturn, 1) := by decide +kernel
theorem dX10_nextReady_20 : decode cX10_nextReady 20 = .ok (.iinc 1 1, 3) := by decide +kernel
theorem dX10_nextReady_23 : decode cX10_nextReady 23 = .ok (.goto (-21), 3) := by decide +kernel
theorem dX10_nextReady_26 : decode cX10_nextReady 26 = .ok (.iconst (-1), 1) := by decide +kernel
theorem dX10_nextReady_27 : decode cX10_nextReady 27 = .ok (.ireturn, 1) := by decide +kernel
theorem dX10_neighbours_0 : decode cX10_neighbours 0 = .ok (.iconst 0, 1) := by decide +kernel
theorem dX10_neighbours_1 : decode cX10_neighbours 1 = .ok (.istore_n 1, 1) := by decide +kernel
theorem dX10_neighbours_2 : decode cX10_neighbours 2 = .ok (.iload_n 1, 1) := by decide +kernel
theorem dX10_neighbours_3 : decode cX10_neighbours 3 = .ok (.iconst 5, 1) := by decide +kernel
theorem dX10_neighbours_4 : decode cX10_neighbours 4 = .ok (.if_icmp .ge 101, 3) := by decide +kernel
theorem dX10_neighbours_7 : decode cX10_neighbours 7 = .ok (.iconst 0, 1) := by decide +kernel
theorem dX10_neighbours_8 : decode cX10_neighbours 8 = .ok (.istore_n 2, 1) := by decide +kernel
theorem dX10_neighbours_9 : decode cX10_neighbours 9 = .ok (.iload_n 2, 1) := by decide +kernel
theorem dX10_neighbours_10 : decode cX10_neighbours 10 = .ok (.aload_n 0, 1) := by decide +kernel
theorem dX10_neighbours_11 : decode cX10_neighbours 11 = .ok (.getfield 25, 3) := by decide +kernel
theorem dX10_neighbours_14 : decode cX10_neighbours 14 = .ok (.iload_n 1, 1) := by decide +kernel
theorem dX10_neighbours_15 : decode cX10_neighbours 15 = .ok (.iaload, 1) := by decide +kernel
theorem dX10_neighbours_16 : decode cX10_neighbours 16 = .ok (.if_icmp .ge 83, 3) := by decide +kernel
theorem dX10_neighbours_19 : decode cX10_neighbours 19 = .ok (.aload_n 0, 1) := by decide +kernel
theorem dX10_neighbours_20 : decode cX10_neighbours 20 = .ok (.getfield 22, 3) := by decide +kernel
theorem dX10_neighbours_23 : decode cX10_neighbours 23 = .ok (.bipush 24, 2) := by decide +kernel
theorem dX10_neighbours_25 : decode cX10_neighbours 25 = .ok (.iload_n 1, 1) := by decide +kernel
theorem dX10_neighbours_26 : decode cX10_neighbours 26 = .ok (.imul, 1) := by decide +kernel
theorem dX10_neighbours_27 : decode cX10_neighbours 27 = .ok (.iload_n 2, 1) := by decide +kernel
theorem dX10_neighbours_28 : decode cX10_neighbours 28 = .ok (.iadd, 1) := by decide +kernel
theorem dX10_neighbours_29 : decode cX10_neighbours 29 = .ok (.iaload, 1) := by decide +kernel
theorem dX10_neighbours_30 : decode cX10_neighbours 30 = .ok (.istore_n 3, 1) := by decide +kernel
theorem dX10_neighbours_31 : decode cX10_neighbours 31 = .ok (.aload_n 0, 1) := by decide +kernel
theorem dX10_neighbours_32 : decode cX10_neighbours 32 = .ok (.getfield 43, 3) := by decide +kernel
theorem dX10_neighbours_35 : decode cX10_neighbours 35 = .ok (.iload_n 3, 1) := by decide +kernel
theorem dX10_neighbours_36 : decode cX10_neighbours 36 = .ok (.iload_n 2, 1) := by decide +kernel
theorem dX10_neighbours_37 : decode cX10_neighbours 37 = .ok (.ifCond .le 19, 3) := by decide +kernel
theorem dX10_neighbours_40 : decode cX10_neighbours 40 = .ok (.aload_n 0, 1) := by decide +kernel
theorem dX10_neighbours_41 : decode cX10_neighbours 41 = .ok (.getfield 22, 3) := by decide +kernel
theorem dX10_neighbours_44 : decode cX10_neighbours 44 = .ok (.bipush 24, 2) := by decide +kernel
theorem dX10_neighbours_46 : decode cX10_neighbours 46 = .ok (.iload_n 1, 1) := by decide +kernel
theorem dX10_neighbours_47 : decode cX10_neighbours 47 = .ok (.imul, 1) := by decide +kernel
theorem dX10_neighbours_48 : decode cX10_neighbours 48 = .ok (.iload_n 2, 1) := by decide +kernel
theorem dX10_neighbours_49 : decode cX10_neighbours 49 = .ok (.iadd, 1) := by decide +kernel
theorem dX10_neighbours_50 : decode cX10_neighbours 50 = .ok (.iconst 1, 1) := by decide +kernel
theorem dX10_neighbours_51 : decode cX10_neighbours 51 = .ok (.isub, 1) := by decide +kernel
theorem dX10_neighbours_52 : decode cX10_neighbours 52 = .ok (.iaload, 1) := by decide +kernel
theorem dX10_neighbours_53 : decode cX10_neighbours 53 = .ok (.goto 4, 3) := by decide +kernel
theorem dX10_neighbours_56 : decode cX10_neighbours 56 = .ok (.iconst (-1), 1) := by decide +kernel
theorem dX10_neighbours_57 : decode cX10_neighbours 57 = .ok (.iastore, 1) := by decide +kernel
theorem dX10_neighbours_58 : decode cX10_neighbours 58 = .ok (.aload_n 0, 1) := by decide +kernel
theorem dX10_neighbours_59 : decode cX10_neighbours 59 = .ok (.getfield 46, 3) := by decide +kernel
theorem dX10_neighbours_62 : decode cX10_neighbours 62 = .ok (.iload_n 3, 1) := by decide +kernel
theorem dX10_neighbours_63 : decode cX10_neighbours 63 = .ok (.iload_n 2, 1) := by decide +kernel
theorem dX10_neighbours_64 : decode cX10_neighbours 64 = .ok (.iconst 1, 1) := by decide +kernel
theorem dX10_neighbours_65 : decode cX10_neighbours 65 = .ok (.iadd, 1) := by decide +kernel
theorem dX10_neighbours_66 : decode cX10_neighbours 66 = .ok (.aload_n 0, 1) := by decide +kernel
theorem dX10_neighbours_67 : decode cX10_neighbours 67 = .ok (.getfield 25, 3) := by decide +kernel
theorem dX10_neighbours_70 : decode cX10_neighbours 70 = .ok (.iload_n 1, 1) := by decide +kernel
theorem dX10_neighbours_71 : decode cX10_neighbours 71 = .ok (.iaload, 1) := by decide +kernel
theorem dX10_neighbours_72 : decode cX10_neighbours 72 = .ok (.if_icmp .ge 19, 3) := by decide +kernel
theorem dX10_neighbours_75 : decode cX10_neighbours 75 = .ok (.aload_n 0, 1) := by decide +kernel
theorem dX10_neighbours_76 : decode cX10_neighbours 76 = .ok (.getfield 22, 3) := by decide +kernel
theorem dX10_neighbours_79 : decode cX10_neighbours 79 = .ok (.bipush 24, 2) := by decide +kernel
theorem dX10_neighbours_81 : decode cX10_neighbours 81 = .ok (.iload_n 1, 1) := by decide +kernel
theorem dX10_neighbours_82 : decode cX10_neighbours 82 = .ok (.imul, 1) := by decide +kernel
theorem dX10_neighbours_83 : decode cX10_neighbours 83 = .ok (.iload_n 2, 1) := by decide +kernel
theorem dX10_neighbours_84 : decode cX10_neighbours 84 = .ok (.iadd, 1) := by decide +kernel
theorem dX10_neighbours_85 : decode cX10_neighbours 85 = .ok (.iconst 1, 1) := by decide +kernel
theorem dX10_neighbours_86 : decode cX10_neighbours 86 = .ok (.iadd, 1) := by decide +kernel
theorem dX10_neighbours_87 : decode cX10_neighbours 87 = .ok (.iaload, 1) := by decide +kernel
theorem dX10_neighbours_88 : decode cX10_neighbours 88 = .ok (.goto 4, 3) := by decide +kernel
theorem dX10_neighbours_91 : decode cX10_neighbours 91 = .ok (.iconst (-1), 1) := by decide +kernel
theorem dX10_neighbours_92 : decode cX10_neighbours 92 = .ok (.iastore, 1) := by decide +kernel
theorem dX10_neighbours_93 : decode cX10_neighbours 93 = .ok (.iinc 2 1, 3) := by decide +kernel
theorem dX10_neighbours_96 : decode cX10_neighbours 96 = .ok (.goto (-87), 3) := by decide +kernel
theorem dX10_neighbours_99 : decode cX10_neighbours 99 = .ok (.iinc 1 1, 3) := by decide +kernel
theorem dX10_neighbours_102 : decode cX10_neighbours 102 = .ok (.goto (-100), 3) := by decide +kernel
theorem dX10_neighbours_105 : decode cX10_neighbours 105 = .ok (.return_, 1) := by decide +kernel
theorem dX10_reckons_0 : decode cX10_reckons 0 = .ok (.aload_n 0, 1) := by decide +kernel
theorem dX10_reckons_1 : decode cX10_reckons 1 = .ok (.invokevirtual 204, 3) := by decide +kernel
theorem dX10_reckons_4 : decode cX10_reckons 4 = .ok (.aload_n 0, 1) := by decide +kernel
theorem dX10_reckons_5 : decode cX10_reckons 5 = .ok (.iconst 0, 1) := by decide +kernel
theorem dX10_reckons_6 : decode cX10_reckons 6 = .ok (.putfield 195, 3) := by decide +kernel
theorem dX10_reckons_9 : decode cX10_reckons 9 = .ok (.iconst 0, 1) := by decide +kernel
theorem dX10_reckons_10 : decode cX10_reckons 10 = .ok (.istore_n 1, 1) := by decide +kernel
theorem dX10_reckons_11 : decode cX10_reckons 11 = .ok (.iload_n 1, 1) := by decide +kernel
theorem dX10_reckons_12 : decode cX10_reckons 12 = .ok (.aload_n 0, 1) := by decide +kernel
theorem dX10_reckons_13 : decode cX10_reckons 13 = .ok (.getfield 105, 3) := by decide +kernel
theorem dX10_reckons_16 : decode cX10_reckons 16 = .ok (.if_icmp .ge 16, 3) := by decide +kernel
theorem dX10_reckons_19 : decode cX10_reckons 19 = .ok (.aload_n 0, 1) := by decide +kernel
theorem dX10_reckons_20 : decode cX10_reckons 20 = .ok (.getfield 58, 3) := by decide +kernel
theorem dX10_reckons_23 : decode cX10_reckons 23 = .ok (.iload_n 1, 1) := by decide +kernel
theorem dX10_reckons_24 : decode cX10_reckons 24 = .ok (.iconst 0, 1) := by decide +kernel
theorem dX10_reckons_25 : decode cX10_reckons 25 = .ok (.bastore, 1) := by decide +kernel
theorem dX10_reckons_26 : decode cX10_reckons 26 = .ok (.iinc 1 1, 3) := by decide +kernel
theorem dX10_reckons_29 : decode cX10_reckons 29 = .ok (.goto (-18), 3) := by decide +kernel
theorem dX10_reckons_32 : decode cX10_reckons 32 = .ok (.iconst 0, 1) := by decide +kernel
theorem dX10_reckons_33 : decode cX10_reckons 33 = .ok (.istore_n 1, 1) := by decide +kernel
theorem dX10_reckons_34 : decode cX10_reckons 34 = .ok (.iload_n 1, 1) := by decide +kernel
theorem dX10_reckons_35 : decode cX10_reckons 35 = .ok (.aload_n 0, 1) := by decide +kernel
theorem dX10_reckons_36 : decode cX10_reckons 36 = .ok (.getfield 105, 3) := by decide +kernel
theorem dX10_reckons_39 : decode cX10_reckons 39 = .ok (.if_icmp .ge 78, 3) := by decide +kernel
theorem dX10_reckons_42 : decode cX10_reckons 42 = .ok (.aload_n 0, 1) := by decide +kernel
theorem dX10_reckons_43 : decode cX10_reckons 43 = .ok (.invokevirtual 207, 3) := by decide +kernel
theorem dX10_reckons_46 : decode cX10_reckons 46 = .ok (.istore_n 2, 1) := by decide +kernel
theorem dX10_reckons_47 : decode cX10_reckons 47 = .ok (.iload_n 2, 1) := by decide +kernel
theorem dX10_reckons_48 : decode cX10_reckons 48 = .ok (.ifCond .ge 5, 3) := by decide +kernel
theorem dX10_reckons_51 : decode cX10_reckons 51 = .ok (.iconst 0, 1) := by decide +kernel
theorem dX10_reckons_52 : decode cX10_reckons 52 = .ok (.ireturn, 1) := by decide +kernel
theorem dX10_reckons_53 : decode cX10_reckons 53 = .ok (.aload_n 0, 1) := by decide +kernel
theorem dX10_reckons_54 : decode cX10_reckons 54 = .ok (.getfield 58, 3) := by decide +kernel
theorem dX10_reckons_57 : decode cX10_reckons 57 = .ok (.iload_n 2, 1) := by decide +kernel
theorem dX10_reckons_58 : decode cX10_reckons 58 = .ok (.iconst 1, 1) := by decide +kernel
theorem dX10_reckons_59 : decode cX10_reckons 59 = .ok (.bastore, 1) := by decide +kernel
theorem dX10_reckons_60 : decode cX10_reckons 60 = .ok (.aload_n 0, 1) := by decide +kernel
theorem dX10_reckons_61 : decode cX10_reckons 61 = .ok (.getfield 55, 3) := by decide +kernel
theorem dX10_reckons_64 : decode cX10_reckons 64 = .ok (.iload_n 1, 1) := by decide +kernel
theorem dX10_reckons_65 : decode cX10_reckons 65 = .ok (.iload_n 2, 1) := by decide +kernel
theorem dX10_reckons_66 : decode cX10_reckons 66 = .ok (.iastore, 1) := by decide +kernel
theorem dX10_reckons_67 : decode cX10_reckons 67 = .ok (.aload_n 0, 1) := by decide +kernel
theorem dX10_reckons_68 : decode cX10_reckons 68 = .ok (.getfield 49, 3) := by decide +kernel
theorem dX10_reckons_71 : decode cX10_reckons 71 = .ok (.iload_n 2, 1) := by decide +kernel
theorem dX10_reckons_72 : decode cX10_reckons 72 = .ok (.aload_n 0, 1) := by decide +kernel
theorem dX10_reckons_73 : decode cX10_reckons 73 = .ok (.aload_n 0, 1) := by decide +kernel
theorem dX10_reckons_74 : decode cX10_reckons 74 = .ok (.iload_n 2, 1) := by decide +kernel
theorem dX10_reckons_75 : decode cX10_reckons 75 = .ok (.invokevirtual 198, 3) := by decide +kernel
theorem dX10_reckons_78 : decode cX10_reckons 78 = .ok (.invokevirtual 211, 3) := by decide +kernel
theorem dX10_reckons_81 : decode cX10_reckons 81 = .ok (.aload_n 0, 1) := by decide +kernel
theorem dX10_reckons_82 : decode cX10_reckons 82 = .ok (.aload_n 0, 1) := by decide +kernel
theorem dX10_reckons_83 : decode cX10_reckons 83 = .ok (.getfield 43, 3) := by decide +kernel
theorem dX10_reckons_86 : decode cX10_reckons 86 = .ok (.iload_n 2, 1) := by decide +kernel
theorem dX10_reckons_87 : decode cX10_reckons 87 = .ok (.iaload, 1) := by decide +kernel
theorem dX10_reckons_88 : decode cX10_reckons 88 = .ok (.invokevirtual 211, 3) := by decide +kernel
theorem dX10_reckons_91 : decode cX10_reckons 91 = .ok (.invokestatic 214, 3) := by decide +kernel
theorem dX10_reckons_94 : decode cX10_reckons 94 = .ok (.iastore, 1) := by decide +kernel
theorem dX10_reckons_95 : decode cX10_reckons 95 = .ok (.aload_n 0, 1) := by decide +kernel
theorem dX10_reckons_96 : decode cX10_reckons 96 = .ok (.aload_n 0, 1) := by decide +kernel
theorem dX10_reckons_97 : decode cX10_reckons 97 = .ok (.getfield 195, 3) := by decide +kernel
theorem dX10_reckons_100 : decode cX10_reckons 100 = .ok (.aload_n 0, 1) := by decide +kernel
theorem dX10_reckons_101 : decode cX10_reckons 101 = .ok (.iload_n 2, 1) := by decide +kernel
theorem dX10_reckons_102 : decode cX10_reckons 102 = .ok (.invokevirtual 211, 3) := by decide +kernel
theorem dX10_reckons_105 : decode cX10_reckons 105 = .ok (.invokestatic 214, 3) := by decide +kernel
theorem dX10_reckons_108 : decode cX10_reckons 108 = .ok (.putfield 195, 3) := by decide +kernel
theorem dX10_reckons_111 : decode cX10_reckons 111 = .ok (.iinc 1 1, 3) := by decide +kernel
theorem dX10_reckons_114 : decode cX10_reckons 114 = .ok (.goto (-80), 3) := by decide +kernel
theorem dX10_reckons_117 : decode cX10_reckons 117 = .ok (.aload_n 0, 1) := by decide +kernel
theorem dX10_reckons_118 : decode cX10_reckons 118 = .ok (.getfield 105, 3) := by decide +kernel
theorem dX10_reckons_121 : decode cX10_reckons 121 = .ok (.iconst 1, 1) := by decide +kernel
theorem dX10_reckons_122 : decode cX10_reckons 122 = .ok (.isub, 1) := by decide +kernel
theorem dX10_reckons_123 : decode cX10_reckons 123 = .ok (.istore_n 1, 1) := by decide +kernel
theorem dX10_reckons_124 : decode cX10_reckons 124 = .ok (.iload_n 1, 1) := by decide +kernel
theorem dX10_reckons_125 : decode cX10_reckons 125 = .ok (.ifCond .lt 44, 3) := by decide +kernel
theorem dX10_reckons_128 : decode cX10_reckons 128 = .ok (.aload_n 0, 1) := by decide +kernel
theorem dX10_reckons_129 : decode cX10_reckons 129 = .ok (.getfield 55, 3) := by decide +kernel
theorem dX10_reckons_132 : decode cX10_reckons 132 = .ok (.iload_n 1, 1) := by decide +kernel
theorem dX10_reckons_133 : decode cX10_reckons 133 = .ok (.iaload, 1) := by decide +kernel
theorem dX10_reckons_134 : decode cX10_reckons 134 = .ok (.istore_n 2, 1) := by decide +kernel
theorem dX10_reckons_135 : decode cX10_reckons 135 = .ok (.aload_n 0, 1) := by decide +kernel
theorem dX10_reckons_136 : decode cX10_reckons 136 = .ok (.getfield 52, 3) := by decide +kernel
theorem dX10_reckons_139 : decode cX10_reckons 139 = .ok (.iload_n 2, 1) := by decide +kernel
theorem dX10_reckons_140 : decode cX10_reckons 140 = .ok (.aload_n 0, 1) := by decide +kernel
theorem dX10_reckons_141 : decode cX10_reckons 141 = .ok (.aload_n 0, 1) := by decide +kernel
theorem dX10_reckons_142 : decode cX10_reckons 142 = .ok (.iload_n 2, 1) := by decide +kernel
theorem dX10_reckons_143 : decode cX10_reckons 143 = .ok (.invokevirtual 220, 3) := by decide +kernel
theorem dX10_reckons_146 : decode cX10_reckons 146 = .ok (.invokevirtual 223, 3) := by decide +kernel
theorem dX10_reckons_149 : decode cX10_reckons 149 = .ok (.aload_n 0, 1) := by decide +kernel
theorem dX10_reckons_150 : decode cX10_reckons 150 = .ok (.aload_n 0, 1) := by decide +kernel
theorem dX10_reckons_151 : decode cX10_reckons 151 = .ok (.getfield 46, 3) := by decide +kernel
theorem dX10_reckons_154 : decode cX10_reckons 154 = .ok (.iload_n 2, 1) := by decide +kernel
theorem dX10_reckons_155 : decode cX10_reckons 155 = .ok (.iaload, 1) := by decide +kernel
theorem dX10_reckons_156 : decode cX10_reckons 156 = .ok (.invokevirtual 223, 3) := by decide +kernel
theorem dX10_reckons_159 : decode cX10_reckons 159 = .ok (.invokestatic 214, 3) := by decide +kernel
theorem dX10_reckons_162 : decode cX10_reckons 162 = .ok (.iastore, 1) := by decide +kernel
theorem dX10_reckons_163 : decode cX10_reckons 163 = .ok (.iinc 1 (-1), 3) := by decide +kernel
theorem dX10_reckons_166 : decode cX10_reckons 166 = .ok (.goto (-42), 3) := by decide +kernel
theorem dX10_reckons_169 : decode cX10_reckons 169 = .ok (.iconst 1, 1) := by decide +kernel
theorem dX10_reckons_170 : decode cX10_reckons 170 = .ok (.ireturn, 1) := by decide +kernel
theorem dX10_span_0 : decode cX10_span 0 = .ok (.aload_n 0, 1) := by decide +kernel
theorem dX10_span_1 : decode cX10_span 1 = .ok (.getfield 105, 3) := by decide +kernel
theorem dX10_span_4 : decode cX10_span 4 = .ok (.ifCond .ne 6, 3) := by decide +kernel
theorem dX10_span_7 : decode cX10_span 7 = .ok (.bipush (-5), 2) := by decide +kernel
theorem dX10_span_9 : decode cX10_span 9 = .ok (.ireturn, 1) := by decide +kernel
theorem dX10_span_10 : decode cX10_span 10 = .ok (.aload_n 0, 1) := by decide +kernel
theorem dX10_span_11 : decode cX10_span 11 = .ok (.invokevirtual 191, 3) := by decide +kernel
theorem dX10_span_14 : decode cX10_span 14 = .ok (.ifCond .eq 10, 3) := by decide +kernel
theorem dX10_span_17 : decode cX10_span 17 = .ok (.aload_n 0, 1) := by decide +kernel
theorem dX10_span_18 : decode cX10_span 18 = .ok (.getfield 195, 3) := by decide +kernel
theorem dX10_span_21 : decode cX10_span 21 = .ok (.goto 5, 3) := by decide +kernel
theorem dX10_span_24 : decode cX10_span 24 = .ok (.bipush (-4), 2) := by decide +kernel
theorem dX10_span_26 : decode cX10_span 26 = .ok (.ireturn, 1) := by decide +kernel
theorem dX10_isCritical_0 : decode cX10_isCritical 0 = .ok (.aload_n 0, 1) := by decide +kernel
theorem dX10_isCritical_1 : decode cX10_isCritical 1 = .ok (.getfield 49, 3) := by decide +kernel
theorem dX10_isCritical_4 : decode cX10_isCritical 4 = .ok (.iload_n 1, 1) := by decide +kernel
theorem dX10_isCritical_5 : decode cX10_isCritical 5 = .ok (.iaload, 1) := by decide +kernel
theorem dX10_isCritical_6 : decode cX10_isCritical 6 = .ok (.aload_n 0, 1) := by decide +kernel
theorem dX10_isCritical_7 : decode cX10_isCritical 7 = .ok (.getfield 19, 3) := by decide +kernel
theorem dX10_isCritical_10 : decode cX10_isCritical 10 = .ok (.iload_n 1, 1) := by decide +kernel
theorem dX10_isCritical_11 : decode cX10_isCritical 11 = .ok (.iaload, 1) := by decide +kernel
theorem dX10_isCritical_12 : decode cX10_isCritical 12 = .ok (.iadd, 1) := by decide +kernel
theorem dX10_isCritical_13 : decode cX10_isCritical 13 = .ok (.aload_n 0, 1) := by decide +kernel
theorem dX10_isCritical_14 : decode cX10_isCritical 14 = .ok (.getfield 52, 3) := by decide +kernel
theorem dX10_isCritical_17 : decode cX10_isCritical 17 = .ok (.iload_n 1, 1) := by decide +kernel
theorem dX10_isCritical_18 : decode cX10_isCritical 18 = .ok (.iaload, 1) := by decide +kernel
theorem dX10_isCritical_19 : decode cX10_isCritical 19 = .ok (.iadd, 1) := by decide +kernel
theorem dX10_isCritical_20 : decode cX10_isCritical 20 = .ok (.aload_n 0, 1) := by decide +kernel
theorem dX10_isCritical_21 : decode cX10_isCritical 21 = .ok (.getfield 195, 3) := by decide +kernel
theorem dX10_isCritical_24 : decode cX10_isCritical 24 = .ok (.if_icmp .ne 7, 3) := by decide +kernel
theorem dX10_isCritical_27 : decode cX10_isCritical 27 = .ok (.iconst 1, 1) := by decide +kernel
theorem dX10_isCritical_28 : decode cX10_isCritical 28 = .ok (.goto 4, 3) := by decide +kernel
theorem dX10_isCritical_31 : decode cX10_isCritical 31 = .ok (.iconst 0, 1) := by decide +kernel
theorem dX10_isCritical_32 : decode cX10_isCritical 32 = .ok (.ireturn, 1) := by decide +kernel
theorem dX10_of_0 : decode cX10_of 0 = .ok (.aload_n 0, 1) := by decide +kernel
theorem dX10_of_1 : decode cX10_of 1 = .ok (.iload_n 1, 1) := by decide +kernel
theorem dX10_of_2 : decode cX10_of 2 = .ok (.invokevirtual 174, 3) := by decide +kernel
theorem dX10_of_5 : decode cX10_of 5 = .ok (.ifCond .eq 12, 3) := by decide +kernel
theorem dX10_of_8 : decode cX10_of 8 = .ok (.iload_n 2, 1) := by decide +kernel
theorem dX10_of_9 : decode cX10_of 9 = .ok (.iconst 0, 1) := by decide +kernel
theorem dX10_of_10 : decode cX10_of 10 = .ok (.iconst 3, 1) := by decide +kernel
theorem dX10_of_11 : decode cX10_of 11 = .ok (.invokestatic 108, 3) := by decide +kernel
theorem dX10_of_14 : decode cX10_of 14 = .ok (.ifCond .ne 5, 3) := by decide +kernel
theorem dX10_of_17 : decode cX10_of 17 = .ok (.iconst (-1), 1) := by decide +kernel
theorem dX10_of_18 : decode cX10_of 18 = .ok (.ireturn, 1) := by decide +kernel
theorem dX10_of_19 : decode cX10_of 19 = .ok (.aload_n 0, 1) := by decide +kernel
theorem dX10_of_20 : decode cX10_of 20 = .ok (.invokevirtual 191, 3) := by decide +kernel
theorem dX10_of_23 : decode cX10_of 23 = .ok (.ifCond .ne 6, 3) := by decide +kernel
theorem dX10_of_26 : decode cX10_of 26 = .ok (.bipush (-4), 2) := by decide +kernel
theorem dX10_of_28 : decode cX10_of 28 = .ok (.ireturn, 1) := by decide +kernel
theorem dX10_of_29 : decode cX10_of 29 = .ok (.iload_n 2, 1) := by decide +kernel
theorem dX10_of_30 : decode cX10_of 30 = .ok (.tableswitch 66 0 2 #[26, 33, 40], 26) := by decide +kernel
theorem dX10_of_56 : decode cX10_of 56 = .ok (.aload_n 0, 1) := by decide +kernel
theorem dX10_of_57 : decode cX10_of 57 = .ok (.getfield 49, 3) := by decide +kernel
theorem dX10_of_60 : decode cX10_of 60 = .ok (.iload_n 1, 1) := by decide +kernel
theorem dX10_of_61 : decode cX10_of 61 = .ok (.iaload, 1) := by decide +kernel
theorem dX10_of_62 : decode cX10_of 62 = .ok (.ireturn, 1) := by decide +kernel
theorem dX10_of_63 : decode cX10_of 63 = .ok (.aload_n 0, 1) := by decide +kernel
theorem dX10_of_64 : decode cX10_of 64 = .ok (.getfield 52, 3) := by decide +kernel
theorem dX10_of_67 : decode cX10_of 67 = .ok (.iload_n 1, 1) := by decide +kernel
theorem dX10_of_68 : decode cX10_of 68 = .ok (.iaload, 1) := by decide +kernel
theorem dX10_of_69 : decode cX10_of 69 = .ok (.ireturn, 1) := by decide +kernel
theorem dX10_of_70 : decode cX10_of 70 = .ok (.aload_n 0, 1) := by decide +kernel
theorem dX10_of_71 : decode cX10_of 71 = .ok (.getfield 195, 3) := by decide +kernel
theorem dX10_of_74 : decode cX10_of 74 = .ok (.aload_n 0, 1) := by decide +kernel
theorem dX10_of_75 : decode cX10_of 75 = .ok (.getfield 49, 3) := by decide +kernel
theorem dX10_of_78 : decode cX10_of 78 = .ok (.iload_n 1, 1) := by decide +kernel
theorem dX10_of_79 : decode cX10_of 79 = .ok (.iaload, 1) := by decide +kernel
theorem dX10_of_80 : decode cX10_of 80 = .ok (.isub, 1) := by decide +kernel
theorem dX10_of_81 : decode cX10_of 81 = .ok (.aload_n 0, 1) := by decide +kernel
theorem dX10_of_82 : decode cX10_of 82 = .ok (.getfield 19, 3) := by decide +kernel
theorem dX10_of_85 : decode cX10_of 85 = .ok (.iload_n 1, 1) := by decide +kernel
theorem dX10_of_86 : decode cX10_of 86 = .ok (.iaload, 1) := by decide +kernel
theorem dX10_of_87 : decode cX10_of 87 = .ok (.isub, 1) := by decide +kernel
theorem dX10_of_88 : decode cX10_of 88 = .ok (.aload_n 0, 1) := by decide +kernel
theorem dX10_of_89 : decode cX10_of 89 = .ok (.getfield 52, 3) := by decide +kernel
theorem dX10_of_92 : decode cX10_of 92 = .ok (.iload_n 1, 1) := by decide +kernel
theorem dX10_of_93 : decode cX10_of 93 = .ok (.iaload, 1) := by decide +kernel
theorem dX10_of_94 : decode cX10_of 94 = .ok (.isub, 1) := by decide +kernel
theorem dX10_of_95 : decode cX10_of 95 = .ok (.ireturn, 1) := by decide +kernel
theorem dX10_of_96 : decode cX10_of 96 = .ok (.aload_n 0, 1) := by decide +kernel
theorem dX10_of_97 : decode cX10_of 97 = .ok (.iload_n 1, 1) := by decide +kernel
theorem dX10_of_98 : decode cX10_of 98 = .ok (.invokevirtual 226, 3) := by decide +kernel
theorem dX10_of_101 : decode cX10_of 101 = .ok (.ifCond .eq 7, 3) := by decide +kernel
theorem dX10_of_104 : decode cX10_of 104 = .ok (.iconst 1, 1) := by decide +kernel
theorem dX10_of_105 : decode cX10_of 105 = .ok (.goto 4, 3) := by decide +kernel
theorem dX10_of_108 : decode cX10_of 108 = .ok (.iconst 0, 1) := by decide +kernel
theorem dX10_of_109 : decode cX10_of 109 = .ok (.ireturn, 1) := by decide +kernel
theorem dX10_comesBehind_0 : decode cX10_comesBehind 0 = .ok (.iload_n 1, 1) := by decide +kernel
theorem dX10_comesBehind_1 : decode cX10_comesBehind 1 = .ok (.ifCond .lt 29, 3) := by decide +kernel
theorem dX10_comesBehind_4 : decode cX10_comesBehind 4 = .ok (.aload_n 0, 1) := by decide +kernel
theorem dX10_comesBehind_5 : decode cX10_comesBehind 5 = .ok (.iload_n 1, 1) := by decide +kernel
theorem dX10_comesBehind_6 : decode cX10_comesBehind 6 = .ok (.invokevirtual 226, 3) := by decide +kernel
theorem dX10_comesBehind_9 : decode cX10_comesBehind 9 = .ok (.ifCond .eq 21, 3) := by decide +kernel
theorem dX10_comesBehind_12 : decode cX10_comesBehind 12 = .ok (.aload_n 0, 1) := by decide +kernel
theorem dX10_comesBehind_13 : decode cX10_comesBehind 13 = .ok (.getfield 49, 3) := by decide +kernel
theorem dX10_comesBehind_16 : decode cX10_comesBehind 16 = .ok (.iload_n 1, 1) := by decide +kernel
theorem dX10_comesBehind_17 : decode cX10_comesBehind 17 = .ok (.iaload, 1) := by decide +kernel
theorem dX10_comesBehind_18 : decode cX10_comesBehind 18 = .ok (.aload_n 0, 1) := by decide +kernel
theorem dX10_comesBehind_19 : decode cX10_comesBehind 19 = .ok (.iload_n 2, 1) := by decide +kernel
theorem dX10_comesBehind_20 : decode cX10_comesBehind 20 = .ok (.invokevirtual 211, 3) := by decide +kernel
theorem dX10_comesBehind_23 : decode cX10_comesBehind 23 = .ok (.if_icmp .ne 7, 3) := by decide +kernel
theorem dX10_comesBehind_26 : decode cX10_comesBehind 26 = .ok (.iconst 1, 1) := by decide +kernel
theorem dX10_comesBehind_27 : decode cX10_comesBehind 27 = .ok (.goto 4, 3) := by decide +kernel
theorem dX10_comesBehind_30 : decode cX10_comesBehind 30 = .ok (.iconst 0, 1) := by decide +kernel
theorem dX10_comesBehind_31 : decode cX10_comesBehind 31 = .ok (.ireturn, 1) := by decide +kernel
theorem dX10_nextOnWay_0 : decode cX10_nextOnWay 0 = .ok (.aload_n 0, 1) := by decide +kernel
theorem dX10_nextOnWay_1 : decode cX10_nextOnWay 1 = .ok (.iload_n 1, 1) := by decide +kernel
theorem dX10_nextOnWay_2 : decode cX10_nextOnWay 2 = .ok (.invokevirtual 220, 3) := by decide +kernel
theorem dX10_nextOnWay_5 : decode cX10_nextOnWay 5 = .ok (.istore_n 2, 1) := by decide +kernel
theorem dX10_nextOnWay_6 : decode cX10_nextOnWay 6 = .ok (.aload_n 0, 1) := by decide +kernel
theorem dX10_nextOnWay_7 : decode cX10_nextOnWay 7 = .ok (.getfield 46, 3) := by decide +kernel
theorem dX10_nextOnWay_10 : decode cX10_nextOnWay 10 = .ok (.iload_n 1, 1) := by decide +kernel
theorem dX10_nextOnWay_11 : decode cX10_nextOnWay 11 = .ok (.iaload, 1) := by decide +kernel
theorem dX10_nextOnWay_12 : decode cX10_nextOnWay 12 = .ok (.istore_n 3, 1) := by decide +kernel
theorem dX10_nextOnWay_13 : decode cX10_nextOnWay 13 = .ok (.aload_n 0, 1) := by decide +kernel
theorem dX10_nextOnWay_14 : decode cX10_nextOnWay 14 = .ok (.iload_n 2, 1) := by decide +kernel
theorem dX10_nextOnWay_15 : decode cX10_nextOnWay 15 = .ok (.iload_n 1, 1) := by decide +kernel
theorem dX10_nextOnWay_16 : decode cX10_nextOnWay 16 = .ok (.invokevirtual 229, 3) := by decide +kernel
theorem dX10_nextOnWay_19 : decode cX10_nextOnWay 19 = .ok (.istore 4, 2) := by decide +kernel
theorem dX10_nextOnWay_21 : decode cX10_nextOnWay 21 = .ok (.aload_n 0, 1) := by decide +kernel
theorem dX10_nextOnWay_22 : decode cX10_nextOnWay 22 = .ok (.iload_n 3, 1) := by decide +kernel
theorem dX10_nextOnWay_23 : decode cX10_nextOnWay 23 = .ok (.iload_n 1, 1) := by decide +kernel
theorem dX10_nextOnWay_24 : decode cX10_nextOnWay 24 = .ok (.invokevirtual 229, 3) := by decide +kernel
theorem dX10_nextOnWay_27 : decode cX10_nextOnWay 27 = .ok (.istore 5, 2) := by decide +kernel
theorem dX10_nextOnWay_29 : decode cX10_nextOnWay 29 = .ok (.iload 4, 2) := by decide +kernel
theorem dX10_nextOnWay_31 : decode cX10_nextOnWay 31 = .ok (.ifCond .eq 17, 3) := by decide +kernel
theorem dX10_nextOnWay_34 : decode cX10_nextOnWay 34 = .ok (.iload 5, 2) := by decide +kernel
theorem dX10_nextOnWay_36 : decode cX10_nextOnWay 36 = .ok (.ifCond .eq 8, 3) := by decide +kernel
theorem dX10_nextOnWay_39 : decode cX10_nextOnWay 39 = .ok (.iload_n 2, 1) := by decide +kernel
theorem dX10_nextOnWay_40 : decode cX10_nextOnWay 40 = .ok (.iload_n 3, 1) := by decide +kernel
theorem dX10_nextOnWay_41 : decode cX10_nextOnWay 41 = .ok (.if_icmp .ge 7, 3) := by decide +kernel
theorem dX10_nextOnWay_44 : decode cX10_nextOnWay 44 = .ok (.iload_n 2, 1) := by decide +kernel
theorem dX10_nextOnWay_45 : decode cX10_nextOnWay 45 = .ok (.goto 4, 3) := by decide +kernel
theorem dX10_nextOnWay_48 : decode cX10_nextOnWay 48 = .ok (.iload_n 3, 1) := by decide +kernel
theorem dX10_nextOnWay_49 : decode cX10_nextOnWay 49 = .ok (.ireturn, 1) := by decide +kernel
theorem dX10_walks_0 : decode cX10_walks 0 = .ok (.iconst 0, 1) := by decide +kernel
theorem dX10_walks_1 : decode cX10_walks 1 = .ok (.istore_n 1, 1) := by decide +kernel
theorem dX10_walks_2 : decode cX10_walks 2 = .ok (.aload_n 0, 1) := by decide +kernel
theorem dX10_walks_3 : decode cX10_walks 3 = .ok (.iload_n 1, 1) := by decide +kernel
theorem dX10_walks_4 : decode cX10_walks 4 = .ok (.invokevirtual 226, 3) := by decide +kernel
theorem dX10_walks_7 : decode cX10_walks 7 = .ok (.ifCond .eq 12, 3) := by decide +kernel
theorem dX10_walks_10 : decode cX10_walks 10 = .ok (.aload_n 0, 1) := by decide +kernel
theorem dX10_walks_11 : decode cX10_walks 11 = .ok (.getfield 49, 3) := by decide +kernel
theorem dX10_walks_14 : decode cX10_walks 14 = .ok (.iload_n 1, 1) := by decide +kernel
theorem dX10_walks_15 : decode cX10_walks 15 = .ok (.iaload, 1) := by decide +kernel
theorem dX10_walks_16 : decode cX10_walks 16 = .ok (.ifCond .le 9, 3) := by decide +kernel
theorem dX10_walks_19 : decode cX10_walks 19 = .ok (.iinc 1 1, 3) := by decide +kernel
theorem dX10_walks_22 : decode cX10_walks 22 = .ok (.goto (-20), 3) := by decide +kernel
theorem dX10_walks_25 : decode cX10_walks 25 = .ok (.aload_n 0, 1) := by decide +kernel
theorem dX10_walks_26 : decode cX10_walks 26 = .ok (.getfield 62, 3) := by decide +kernel
theorem dX10_walks_29 : decode cX10_walks 29 = .ok (.iconst 0, 1) := by decide +kernel
theorem dX10_walks_30 : decode cX10_walks 30 = .ok (.iload_n 1, 1) := by decide +kernel
theorem dX10_walks_31 : decode cX10_walks 31 = .ok (.iastore, 1) := by decide +kernel
theorem dX10_walks_32 : decode cX10_walks 32 = .ok (.aload_n 0, 1) := by decide +kernel
theorem dX10_walks_33 : decode cX10_walks 33 = .ok (.iconst 1, 1) := by decide +kernel
theorem dX10_walks_34 : decode cX10_walks 34 = .ok (.putfield 232, 3) := by decide +kernel
theorem dX10_walks_37 : decode cX10_walks 37 = .ok (.aload_n 0, 1) := by decide +kernel
theorem dX10_walks_38 : decode cX10_walks 38 = .ok (.iload_n 1, 1) := by decide +kernel
theorem dX10_walks_39 : decode cX10_walks 39 = .ok (.invokevirtual 211, 3) := by decide +kernel
theorem dX10_walks_42 : decode cX10_walks 42 = .ok (.aload_n 0, 1) := by decide +kernel
theorem dX10_walks_43 : decode cX10_walks 43 = .ok (.getfield 195, 3) := by decide +kernel
theorem dX10_walks_46 : decode cX10_walks 46 = .ok (.if_icmp .ge 32, 3) := by decide +kernel
theorem dX10_walks_49 : decode cX10_walks 49 = .ok (.aload_n 0, 1) := by decide +kernel
theorem dX10_walks_50 : decode cX10_walks 50 = .ok (.iload_n 1, 1) := by decide +kernel
theorem dX10_walks_51 : decode cX10_walks 51 = .ok (.invokevirtual 235, 3) := by decide +kernel
theorem dX10_walks_54 : decode cX10_walks 54 = .ok (.istore_n 1, 1) := by decide +kernel
theorem dX10_walks_55 : decode cX10_walks 55 = .ok (.aload_n 0, 1) := by decide +kernel
theorem dX10_walks_56 : decode cX10_walks 56 = .ok (.getfield 62, 3) := by decide +kernel
theorem dX10_walks_59 : decode cX10_walks 59 = .ok (.aload_n 0, 1) := by decide +kernel
theorem dX10_walks_60 : decode cX10_walks 60 = .ok (.getfield 232, 3) := by decide +kernel
theorem dX10_walks_63 : decode cX10_walks 63 = .ok (.iload_n 1, 1) := by decide +kernel
theorem dX10_walks_64 : decode cX10_walks 64 = .ok (.iastore, 1) := by decide +kernel
theorem dX10_walks_65 : decode cX10_walks 65 = .ok (.aload_n 0, 1) := by decide +kernel
theorem dX10_walks_66 : decode cX10_walks 66 = .ok (.dup, 1) := by decide +kernel
theorem dX10_walks_67 : decode cX10_walks 67 = .ok (.getfield 232, 3) := by decide +kernel
theorem dX10_walks_70 : decode cX10_walks 70 = .ok (.iconst 1, 1) := by decide +kernel
theorem dX10_walks_71 : decode cX10_walks 71 = .ok (.iadd, 1) := by decide +kernel
theorem dX10_walks_72 : decode cX10_walks 72 = .ok (.putfield 232, 3) := by decide +kernel
theorem dX10_walks_75 : decode cX10_walks 75 = .ok (.goto (-38), 3) := by decide +kernel
theorem dX10_walks_78 : decode cX10_walks 78 = .ok (.return_, 1) := by decide +kernel
theorem dX10_parts_0 : decode cX10_parts 0 = .ok (.aload_n 0, 1) := by decide +kernel
theorem dX10_parts_1 : decode cX10_parts 1 = .ok (.invokevirtual 238, 3) := by decide +kernel
theorem dX10_parts_4 : decode cX10_parts 4 = .ok (.aload_n 0, 1) := by decide +kernel
theorem dX10_parts_5 : decode cX10_parts 5 = .ok (.iconst 0, 1) := by decide +kernel
theorem dX10_parts_6 : decode cX10_parts 6 = .ok (.putfield 241, 3) := by decide +kernel
theorem dX10_parts_9 : decode cX10_parts 9 = .ok (.iconst 0, 1) := by decide +kernel
theorem dX10_parts_10 : decode cX10_parts 10 = .ok (.istore_n 1, 1) := by decide +kernel
theorem dX10_parts_11 : decode cX10_parts 11 = .ok (.iload_n 1, 1) := by decide +kernel
theorem dX10_parts_12 : decode cX10_parts 12 = .ok (.aload_n 0, 1) := by decide +kernel
theorem dX10_parts_13 : decode cX10_parts 13 = .ok (.getfield 232, 3) := by decide +kernel
theorem dX10_parts_16 : decode cX10_parts 16 = .ok (.if_icmp .ge 60, 3) := by decide +kernel
theorem dX10_parts_19 : decode cX10_parts 19 = .ok (.iload_n 1, 1) := by decide +kernel
theorem dX10_parts_20 : decode cX10_parts 20 = .ok (.ifCond .eq 30, 3) := by decide +kernel
theorem dX10_parts_23 : decode cX10_parts 23 = .ok (.aload_n 0, 1) := by decide +kernel
theorem dX10_parts_24 : decode cX10_parts 24 = .ok (.getfield 16, 3) := by decide +kernel
theorem dX10_parts_27 : decode cX10_parts 27 = .ok (.aload_n 0, 1) := by decide +kernel
theorem dX10_parts_28 : decode cX10_parts 28 = .ok (.getfield 62, 3) := by decide +kernel
theorem dX10_parts_31 : decode cX10_parts 31 = .ok (.iload_n 1, 1) := by decide +kernel
theorem dX10_parts_32 : decode cX10_parts 32 = .ok (.iaload, 1) := by decide +kernel
theorem dX10_parts_33 : decode cX10_parts 33 = .ok (.iaload, 1) := by decide +kernel
theorem dX10_parts_34 : decode cX10_parts 34 = .ok (.aload_n 0, 1) := by decide +kernel
theorem dX10_parts_35 : decode cX10_parts 35 = .ok (.getfield 16, 3) := by decide +kernel
theorem dX10_parts_38 : decode cX10_parts 38 = .ok (.aload_n 0, 1) := by decide +kernel
theorem dX10_parts_39 : decode cX10_parts 39 = .ok (.getfield 62, 3) := by decide +kernel
theorem dX10_parts_42 : decode cX10_parts 42 = .ok (.iload_n 1, 1) := by decide +kernel
theorem dX10_parts_43 : decode cX10_parts 43 = .ok (.iconst 1, 1) := by decide +kernel
theorem dX10_parts_44 : decode cX10_parts 44 = .ok (.isub, 1) := by decide +kernel
theorem dX10_parts_45 : decode cX10_parts 45 = .ok (.iaload, 1) := by decide +kernel
theorem dX10_parts_46 : decode cX10_parts 46 = .ok (.iaload, 1) := by decide +kernel
theorem dX10_parts_47 : decode cX10_parts 47 = .ok (.if_icmp .eq 23, 3) := by decide +kernel
theorem dX10_parts_50 : decode cX10_parts 50 = .ok (.aload_n 0, 1) := by decide +kernel
theorem dX10_parts_51 : decode cX10_parts 51 = .ok (.getfield 65, 3) := by decide +kernel
theorem dX10_parts_54 : decode cX10_parts 54 = .ok (.aload_n 0, 1) := by decide +kernel
theorem dX10_parts_55 : decode cX10_parts 55 = .ok (.getfield 241, 3) := by decide +kernel
theorem dX10_parts_58 : decode cX10_parts 58 = .ok (.iload_n 1, 1) := by decide +kernel
theorem dX10_parts_59 : decode cX10_parts 59 = .ok (.iastore, 1) := by decide +kernel
theorem dX10_parts_60 : decode cX10_parts 60 = .ok (.aload_n 0, 1) := by decide +kernel
theorem dX10_parts_61 : decode cX10_parts 61 = .ok (.dup, 1) := by decide +kernel
theorem dX10_parts_62 : decode cX10_parts 62 = .ok (.getfield 241, 3) := by decide +kernel
theorem dX10_parts_65 : decode cX10_parts 65 = .ok (.iconst 1, 1) := by decide +kernel
theorem dX10_parts_66 : decode cX10_parts 66 = .ok (.iadd, 1) := by decide +kernel
theorem dX10_parts_67 : decode cX10_parts 67 = .ok (.putfield 241, 3) := by decide +kernel
theorem dX10_parts_70 : decode cX10_parts 70 = .ok (.iinc 1 1, 3) := by decide +kernel
theorem dX10_parts_73 : decode cX10_parts 73 = .ok (.goto (-62), 3) := by decide +kernel
theorem dX10_parts_76 : decode cX10_parts 76 = .ok (.aload_n 0, 1) := by decide +kernel
theorem dX10_parts_77 : decode cX10_parts 77 = .ok (.getfield 65, 3) := by decide +kernel
theorem dX10_parts_80 : decode cX10_parts 80 = .ok (.aload_n 0, 1) := by decide +kernel
theorem dX10_parts_81 : decode cX10_parts 81 = .ok (.getfield 241, 3) := by decide +kernel
theorem dX10_parts_84 : decode cX10_parts 84 = .ok (.aload_n 0, 1) := by decide +kernel
theorem dX10_parts_85 : decode cX10_parts 85 = .ok (.getfield 232, 3) := by decide +kernel
theorem dX10_parts_88 : decode cX10_parts 88 = .ok (.iastore, 1) := by decide +kernel
theorem dX10_parts_89 : decode cX10_parts 89 = .ok (.return_, 1) := by decide +kernel
theorem dX10_wrong_0 : decode cX10_wrong 0 = .ok (.aload_n 0, 1) := by decide +kernel
theorem dX10_wrong_1 : decode cX10_wrong 1 = .ok (.getfield 105, 3) := by decide +kernel
theorem dX10_wrong_4 : decode cX10_wrong 4 = .ok (.ifCond .ne 8, 3) := by decide +kernel
theorem dX10_wrong_7 : decode cX10_wrong 7 = .ok (.bipush (-5), 2) := by decide +kernel
theorem dX10_wrong_9 : decode cX10_wrong 9 = .ok (.goto 16, 3) := by decide +kernel
theorem dX10_wrong_12 : decode cX10_wrong 12 = .ok (.aload_n 0, 1) := by decide +kernel
theorem dX10_wrong_13 : decode cX10_wrong 13 = .ok (.invokevirtual 191, 3) := by decide +kernel
theorem dX10_wrong_16 : decode cX10_wrong 16 = .ok (.ifCond .ne 8, 3) := by decide +kernel
theorem dX10_wrong_19 : decode cX10_wrong 19 = .ok (.bipush (-4), 2) := by decide +kernel
theorem dX10_wrong_21 : decode cX10_wrong 21 = .ok (.goto 4, 3) := by decide +kernel
theorem dX10_wrong_24 : decode cX10_wrong 24 = .ok (.iconst 0, 1) := by decide +kernel
theorem dX10_wrong_25 : decode cX10_wrong 25 = .ok (.ireturn, 1) := by decide +kernel
theorem dX10_toldAt_0 : decode cX10_toldAt 0 = .ok (.iload_n 2, 1) := by decide +kernel
theorem dX10_toldAt_1 : decode cX10_toldAt 1 = .ok (.ifCond .ge 7, 3) := by decide +kernel
theorem dX10_toldAt_4 : decode cX10_toldAt 4 = .ok (.iload_n 1, 1) := by decide +kernel
theorem dX10_toldAt_5 : decode cX10_toldAt 5 = .ok (.goto 16, 3) := by decide +kernel
theorem dX10_toldAt_8 : decode cX10_toldAt 8 = .ok (.iload_n 2, 1) := by decide +kernel
theorem dX10_toldAt_9 : decode cX10_toldAt 9 = .ok (.iload_n 1, 1) := by decide +kernel
theorem dX10_toldAt_10 : decode cX10_toldAt 10 = .ok (.if_icmp .ge 9, 3) := by decide +kernel
theorem dX10_toldAt_13 : decode cX10_toldAt 13 = .ok (.aload_n 0, 1) := by decide +kernel
theorem dX10_toldAt_14 : decode cX10_toldAt 14 = .ok (.iload_n 2, 1) := by decide +kernel
theorem dX10_toldAt_15 : decode cX10_toldAt 15 = .ok (.iaload, 1) := by decide +kernel
theorem dX10_toldAt_16 : decode cX10_toldAt 16 = .ok (.goto 5, 3) := by decide +kernel
theorem dX10_toldAt_19 : decode cX10_toldAt 19 = .ok (.bipush (-2), 2) := by decide +kernel
theorem dX10_toldAt_21 : decode cX10_toldAt 21 = .ok (.ireturn, 1) := by decide +kernel
theorem dX10_way_0 : decode cX10_way 0 = .ok (.iload_n 1, 1) := by decide +kernel
theorem dX10_way_1 : decode cX10_way 1 = .ok (.iconst (-1), 1) := by decide +kernel
theorem dX10_way_2 : decode cX10_way 2 = .ok (.if_icmp .ge 5, 3) := by decide +kernel
theorem dX10_way_5 : decode cX10_way 5 = .ok (.iconst (-1), 1) := by decide +kernel
theorem dX10_way_6 : decode cX10_way 6 = .ok (.ireturn, 1) := by decide +kernel
theorem dX10_way_7 : decode cX10_way 7 = .ok (.aload_n 0, 1) := by decide +kernel
theorem dX10_way_8 : decode cX10_way 8 = .ok (.invokevirtual 244, 3) := by decide +kernel
theorem dX10_way_11 : decode cX10_way 11 = .ok (.istore_n 2, 1) := by decide +kernel
theorem dX10_way_12 : decode cX10_way 12 = .ok (.iload_n 2, 1) := by decide +kernel
theorem dX10_way_13 : decode cX10_way 13 = .ok (.ifCond .ge 5, 3) := by decide +kernel
theorem dX10_way_16 : decode cX10_way 16 = .ok (.iload_n 2, 1) := by decide +kernel
theorem dX10_way_17 : decode cX10_way 17 = .ok (.ireturn, 1) := by decide +kernel
theorem dX10_way_18 : decode cX10_way 18 = .ok (.aload_n 0, 1) := by decide +kernel
theorem dX10_way_19 : decode cX10_way 19 = .ok (.invokevirtual 238, 3) := by decide +kernel
theorem dX10_way_22 : decode cX10_way 22 = .ok (.aload_n 0, 1) := by decide +kernel
theorem dX10_way_23 : decode cX10_way 23 = .ok (.getfield 62, 3) := by decide +kernel
theorem dX10_way_26 : decode cX10_way 26 = .ok (.aload_n 0, 1) := by decide +kernel
theorem dX10_way_27 : decode cX10_way 27 = .ok (.getfield 232, 3) := by decide +kernel
theorem dX10_way_30 : decode cX10_way 30 = .ok (.iload_n 1, 1) := by decide +kernel
theorem dX10_way_31 : decode cX10_way 31 = .ok (.invokestatic 247, 3) := by decide +kernel
theorem dX10_way_34 : decode cX10_way 34 = .ok (.ireturn, 1) := by decide +kernel
theorem dX10_block_0 : decode cX10_block 0 = .ok (.iload_n 1, 1) := by decide +kernel
theorem dX10_block_1 : decode cX10_block 1 = .ok (.iconst (-1), 1) := by decide +kernel
theorem dX10_block_2 : decode cX10_block 2 = .ok (.if_icmp .ge 5, 3) := by decide +kernel
theorem dX10_block_5 : decode cX10_block 5 = .ok (.iconst (-1), 1) := by decide +kernel
theorem dX10_block_6 : decode cX10_block 6 = .ok (.ireturn, 1) := by decide +kernel
theorem dX10_block_7 : decode cX10_block 7 = .ok (.aload_n 0, 1) := by decide +kernel
theorem dX10_block_8 : decode cX10_block 8 = .ok (.invokevirtual 244, 3) := by decide +kernel
theorem dX10_block_11 : decode cX10_block 11 = .ok (.istore_n 2, 1) := by decide +kernel
theorem dX10_block_12 : decode cX10_block 12 = .ok (.iload_n 2, 1) := by decide +kernel
theorem dX10_block_13 : decode cX10_block 13 = .ok (.ifCond .ge 5, 3) := by decide +kernel
theorem dX10_block_16 : decode cX10_block 16 = .ok (.iload_n 2, 1) := by decide +kernel
theorem dX10_block_17 : decode cX10_block 17 = .ok (.ireturn, 1) := by decide +kernel
theorem dX10_block_18 : decode cX10_block 18 = .ok (.aload_n 0, 1) := by decide +kernel
theorem dX10_block_19 : decode cX10_block 19 = .ok (.invokevirtual 251, 3) := by decide +kernel
theorem dX10_block_22 : decode cX10_block 22 = .ok (.iload_n 1, 1) := by decide +kernel
theorem dX10_block_23 : decode cX10_block 23 = .ok (.ifCond .ge 10, 3) := by decide +kernel
theorem dX10_block_26 : decode cX10_block 26 = .ok (.aload_n 0, 1) := by decide +kernel
theorem dX10_block_27 : decode cX10_block 27 = .ok (.getfield 241, 3) := by decide +kernel
theorem dX10_block_30 : decode cX10_block 30 = .ok (.goto 31, 3) := by decide +kernel
theorem dX10_block_33 : decode cX10_block 33 = .ok (.iload_n 1, 1) := by decide +kernel
theorem dX10_block_34 : decode cX10_block 34 = .ok (.aload_n 0, 1) := by decide +kernel
theorem dX10_block_35 : decode cX10_block 35 = .ok (.getfield 241, 3) := by decide +kernel
theorem dX10_block_38 : decode cX10_block 38 = .ok (.if_icmp .ge 21, 3) := by decide +kernel
theorem dX10_block_41 : decode cX10_block 41 = .ok (.aload_n 0, 1) := by decide +kernel
theorem dX10_block_42 : decode cX10_block 42 = .ok (.getfield 65, 3) := by decide +kernel
theorem dX10_block_45 : decode cX10_block 45 = .ok (.iload_n 1, 1) := by decide +kernel
theorem dX10_block_46 : decode cX10_block 46 = .ok (.iconst 1, 1) := by decide +kernel
theorem dX10_block_47 : decode cX10_block 47 = .ok (.iadd, 1) := by decide +kernel
theorem dX10_block_48 : decode cX10_block 48 = .ok (.iaload, 1) := by decide +kernel
theorem dX10_block_49 : decode cX10_block 49 = .ok (.aload_n 0, 1) := by decide +kernel
theorem dX10_block_50 : decode cX10_block 50 = .ok (.getfield 65, 3) := by decide +kernel
theorem dX10_block_53 : decode cX10_block 53 = .ok (.iload_n 1, 1) := by decide +kernel
theorem dX10_block_54 : decode cX10_block 54 = .ok (.iaload, 1) := by decide +kernel
theorem dX10_block_55 : decode cX10_block 55 = .ok (.isub, 1) := by decide +kernel
theorem dX10_block_56 : decode cX10_block 56 = .ok (.goto 5, 3) := by decide +kernel
theorem dX10_block_59 : decode cX10_block 59 = .ok (.bipush (-2), 2) := by decide +kernel
theorem dX10_block_61 : decode cX10_block 61 = .ok (.ireturn, 1) := by decide +kernel
theorem dX10_comesMove_0 : decode cX10_comesMove 0 = .ok (.aload_n 0, 1) := by decide +kernel
theorem dX10_comesMove_1 : decode cX10_comesMove 1 = .ok (.getfield 62, 3) := by decide +kernel
theorem dX10_comesMove_4 : decode cX10_comesMove 4 = .ok (.iload_n 1, 1) := by decide +kernel
theorem dX10_comesMove_5 : decode cX10_comesMove 5 = .ok (.iaload, 1) := by decide +kernel
theorem dX10_comesMove_6 : decode cX10_comesMove 6 = .ok (.istore_n 2, 1) := by decide +kernel
theorem dX10_comesMove_7 : decode cX10_comesMove 7 = .ok (.aload_n 0, 1) := by decide +kernel
theorem dX10_comesMove_8 : decode cX10_comesMove 8 = .ok (.getfield 62, 3) := by decide +kernel
theorem dX10_comesMove_11 : decode cX10_comesMove 11 = .ok (.iload_n 1, 1) := by decide +kernel
theorem dX10_comesMove_12 : decode cX10_comesMove 12 = .ok (.iconst 1, 1) := by decide +kernel
theorem dX10_comesMove_13 : decode cX10_comesMove 13 = .ok (.iadd, 1) := by decide +kernel
theorem dX10_comesMove_14 : decode cX10_comesMove 14 = .ok (.iaload, 1) := by decide +kernel
theorem dX10_comesMove_15 : decode cX10_comesMove 15 = .ok (.istore_n 3, 1) := by decide +kernel
theorem dX10_comesMove_16 : decode cX10_comesMove 16 = .ok (.aload_n 0, 1) := by decide +kernel
theorem dX10_comesMove_17 : decode cX10_comesMove 17 = .ok (.getfield 9, 3) := by decide +kernel
theorem dX10_comesMove_20 : decode cX10_comesMove 20 = .ok (.iload_n 2, 1) := by decide +kernel
theorem dX10_comesMove_21 : decode cX10_comesMove 21 = .ok (.iaload, 1) := by decide +kernel
theorem dX10_comesMove_22 : decode cX10_comesMove 22 = .ok (.aload_n 0, 1) := by decide +kernel
theorem dX10_comesMove_23 : decode cX10_comesMove 23 = .ok (.getfield 9, 3) := by decide +kernel
theorem dX10_comesMove_26 : decode cX10_comesMove 26 = .ok (.iload_n 3, 1) := by decide +kernel
theorem dX10_comesMove_27 : decode cX10_comesMove 27 = .ok (.iaload, 1) := by decide +kernel
theorem dX10_comesMove_28 : decode cX10_comesMove 28 = .ok (.if_icmp .ne 4, 3) := by decide +kernel
theorem dX10_comesMove_31 : decode cX10_comesMove 31 = .ok (.return_, 1) := by decide +kernel
theorem dX10_comesMove_32 : decode cX10_comesMove 32 = .ok (.aload_n 0, 1) := by decide +kernel
theorem dX10_comesMove_33 : decode cX10_comesMove 33 = .ok (.getfield 68, 3) := by decide +kernel
theorem dX10_comesMove_36 : decode cX10_comesMove 36 = .ok (.aload_n 0, 1) := by decide +kernel
theorem dX10_comesMove_37 : decode cX10_comesMove 37 = .ok (.getfield 254, 3) := by decide +kernel
theorem dX10_comesMove_40 : decode cX10_comesMove 40 = .ok (.bipush 100, 2) := by decide +kernel
theorem dX10_comesMove_42 : decode cX10_comesMove 42 = .ok (.iload_n 2, 1) := by decide +kernel
theorem dX10_comesMove_43 : decode cX10_comesMove 43 = .ok (.imul, 1) := by decide +kernel
theorem dX10_comesMove_44 : decode cX10_comesMove 44 = .ok (.iload_n 3, 1) := by decide +kernel
theorem dX10_comesMove_45 : decode cX10_comesMove 45 = .ok (.iadd, 1) := by decide +kernel
theorem dX10_comesMove_46 : decode cX10_comesMove 46 = .ok (.iastore, 1) := by decide +kernel
theorem dX10_comesMove_47 : decode cX10_comesMove 47 = .ok (.aload_n 0, 1) := by decide +kernel
theorem dX10_comesMove_48 : decode cX10_comesMove 48 = .ok (.getfield 71, 3) := by decide +kernel
theorem dX10_comesMove_51 : decode cX10_comesMove 51 = .ok (.aload_n 0, 1) := by decide +kernel
theorem dX10_comesMove_52 : decode cX10_comesMove 52 = .ok (.getfield 254, 3) := by decide +kernel
theorem dX10_comesMove_55 : decode cX10_comesMove 55 = .ok (.aload_n 0, 1) := by decide +kernel
theorem dX10_comesMove_56 : decode cX10_comesMove 56 = .ok (.iload_n 2, 1) := by decide +kernel
theorem dX10_comesMove_57 : decode cX10_comesMove 57 = .ok (.iload_n 3, 1) := by decide +kernel
theorem dX10_comesMove_58 : decode cX10_comesMove 58 = .ok (.invokevirtual 257, 3) := by decide +kernel
theorem dX10_comesMove_61 : decode cX10_comesMove 61 = .ok (.iastore, 1) := by decide +kernel
theorem dX10_comesMove_62 : decode cX10_comesMove 62 = .ok (.aload_n 0, 1) := by decide +kernel
theorem dX10_comesMove_63 : decode cX10_comesMove 63 = .ok (.dup, 1) := by decide +kernel
theorem dX10_comesMove_64 : decode cX10_comesMove 64 = .ok (.getfield 254, 3) := by decide +kernel
theorem dX10_comesMove_67 : decode cX10_comesMove 67 = .ok (.iconst 1, 1) := by decide +kernel
theorem dX10_comesMove_68 : decode cX10_comesMove 68 = .ok (.iadd, 1) := by decide +kernel
theorem dX10_comesMove_69 : decode cX10_comesMove 69 = .ok (.putfield 254, 3) := by decide +kernel
theorem dX10_comesMove_72 : decode cX10_comesMove 72 = .ok (.return_, 1) := by decide +kernel
theorem dX10_leastBy_0 : decode cX10_leastBy 0 = .ok (.aload_n 0, 1) := by decide +kernel
theorem dX10_leastBy_1 : decode cX10_leastBy 1 = .ok (.aload_n 0, 1) := by decide +kernel
theorem dX10_leastBy_2 : decode cX10_leastBy 2 = .ok (.iload_n 2, 1) := by decide +kernel
theorem dX10_leastBy_3 : decode cX10_leastBy 3 = .ok (.invokevirtual 198, 3) := by decide +kernel
theorem dX10_leastBy_6 : decode cX10_leastBy 6 = .ok (.invokevirtual 211, 3) := by decide +kernel
theorem dX10_leastBy_9 : decode cX10_leastBy 9 = .ok (.aload_n 0, 1) := by decide +kernel
theorem dX10_leastBy_10 : decode cX10_leastBy 10 = .ok (.aload_n 0, 1) := by decide +kernel
theorem dX10_leastBy_11 : decode cX10_leastBy 11 = .ok (.getfield 43, 3) := by decide +kernel
theorem dX10_leastBy_14 : decode cX10_leastBy 14 = .ok (.iload_n 1, 1) := by decide +kernel
theorem dX10_leastBy_15 : decode cX10_leastBy 15 = .ok (.iaload, 1) := by decide +kernel
theorem dX10_leastBy_16 : decode cX10_leastBy 16 = .ok (.invokevirtual 211, 3) := by decide +kernel
theorem dX10_leastBy_19 : decode cX10_leastBy 19 = .ok (.invokestatic 214, 3) := by decide +kernel
theorem dX10_leastBy_22 : decode cX10_leastBy 22 = .ok (.istore_n 3, 1) := by decide +kernel
theorem dX10_leastBy_23 : decode cX10_leastBy 23 = .ok (.iload_n 3, 1) := by decide +kernel
theorem dX10_leastBy_24 : decode cX10_leastBy 24 = .ok (.aload_n 0, 1) := by decide +kernel
theorem dX10_leastBy_25 : decode cX10_leastBy 25 = .ok (.getfield 19, 3) := by decide +kernel
theorem dX10_leastBy_28 : decode cX10_leastBy 28 = .ok (.iload_n 2, 1) := by decide +kernel
theorem dX10_leastBy_29 : decode cX10_leastBy 29 = .ok (.iaload, 1) := by decide +kernel
theorem dX10_leastBy_30 : decode cX10_leastBy 30 = .ok (.iadd, 1) := by decide +kernel
theorem dX10_leastBy_31 : decode cX10_leastBy 31 = .ok (.aload_n 0, 1) := by decide +kernel
theorem dX10_leastBy_32 : decode cX10_leastBy 32 = .ok (.aload_n 0, 1) := by decide +kernel
theorem dX10_leastBy_33 : decode cX10_leastBy 33 = .ok (.iload_n 1, 1) := by decide +kernel
theorem dX10_leastBy_34 : decode cX10_leastBy 34 = .ok (.invokevirtual 198, 3) := by decide +kernel
theorem dX10_leastBy_37 : decode cX10_leastBy 37 = .ok (.invokevirtual 211, 3) := by decide +kernel
theorem dX10_leastBy_40 : decode cX10_leastBy 40 = .ok (.invokestatic 214, 3) := by decide +kernel
theorem dX10_leastBy_43 : decode cX10_leastBy 43 = .ok (.istore 4, 2) := by decide +kernel
theorem dX10_leastBy_45 : decode cX10_leastBy 45 = .ok (.aload_n 0, 1) := by decide +kernel
theorem dX10_leastBy_46 : decode cX10_leastBy 46 = .ok (.aload_n 0, 1) := by decide +kernel
theorem dX10_leastBy_47 : decode cX10_leastBy 47 = .ok (.iload_n 1, 1) := by decide +kernel
theorem dX10_leastBy_48 : decode cX10_leastBy 48 = .ok (.invokevirtual 220, 3) := by decide +kernel
theorem dX10_leastBy_51 : decode cX10_leastBy 51 = .ok (.invokevirtual 223, 3) := by decide +kernel
theorem dX10_leastBy_54 : decode cX10_leastBy 54 = .ok (.aload_n 0, 1) := by decide +kernel
theorem dX10_leastBy_55 : decode cX10_leastBy 55 = .ok (.aload_n 0, 1) := by decide +kernel
theorem dX10_leastBy_56 : decode cX10_leastBy 56 = .ok (.getfield 46, 3) := by decide +kernel
theorem dX10_leastBy_59 : decode cX10_leastBy 59 = .ok (.iload_n 2, 1) := by decide +kernel
theorem dX10_leastBy_60 : decode cX10_leastBy 60 = .ok (.iaload, 1) := by decide +kernel
theorem dX10_leastBy_61 : decode cX10_leastBy 61 = .ok (.invokevirtual 223, 3) := by decide +kernel
theorem dX10_leastBy_64 : decode cX10_leastBy 64 = .ok (.invokestatic 214, 3) := by decide +kernel
theorem dX10_leastBy_67 : decode cX10_leastBy 67 = .ok (.istore 5, 2) := by decide +kernel
theorem dX10_leastBy_69 : decode cX10_leastBy 69 = .ok (.aload_n 0, 1) := by decide +kernel
theorem dX10_leastBy_70 : decode cX10_leastBy 70 = .ok (.aload_n 0, 1) := by decide +kernel
theorem dX10_leastBy_71 : decode cX10_leastBy 71 = .ok (.iload_n 2, 1) := by decide +kernel
theorem dX10_leastBy_72 : decode cX10_leastBy 72 = .ok (.invokevirtual 220, 3) := by decide +kernel
theorem dX10_leastBy_75 : decode cX10_leastBy 75 = .ok (.invokevirtual 223, 3) := by decide +kernel
theorem dX10_leastBy_78 : decode cX10_leastBy 78 = .ok (.aload_n 0, 1) := by decide +kernel
theorem dX10_leastBy_79 : decode cX10_leastBy 79 = .ok (.getfield 19, 3) := by decide +kernel
theorem dX10_leastBy_82 : decode cX10_leastBy 82 = .ok (.iload_n 1, 1) := by decide +kernel
theorem dX10_leastBy_83 : decode cX10_leastBy 83 = .ok (.iaload, 1) := by decide +kernel
theorem dX10_leastBy_84 : decode cX10_leastBy 84 = .ok (.iload 5, 2) := by decide +kernel
theorem dX10_leastBy_86 : decode cX10_leastBy 86 = .ok (.iadd, 1) := by decide +kernel
theorem dX10_leastBy_87 : decode cX10_leastBy 87 = .ok (.invokestatic 214, 3) := by decide +kernel
theorem dX10_leastBy_90 : decode cX10_leastBy 90 = .ok (.istore 6, 2) := by decide +kernel
theorem dX10_leastBy_92 : decode cX10_leastBy 92 = .ok (.iload_n 3, 1) := by decide +kernel
theorem dX10_leastBy_93 : decode cX10_leastBy 93 = .ok (.aload_n 0, 1) := by decide +kernel
theorem dX10_leastBy_94 : decode cX10_leastBy 94 = .ok (.getfield 19, 3) := by decide +kernel
theorem dX10_leastBy_97 : decode cX10_leastBy 97 = .ok (.iload_n 2, 1) := by decide +kernel
theorem dX10_leastBy_98 : decode cX10_leastBy 98 = .ok (.iaload, 1) := by decide +kernel
theorem dX10_leastBy_99 : decode cX10_leastBy 99 = .ok (.iadd, 1) := by decide +kernel
theorem dX10_leastBy_100 : decode cX10_leastBy 100 = .ok (.iload 6, 2) := by decide +kernel
theorem dX10_leastBy_102 : decode cX10_leastBy 102 = .ok (.iadd, 1) := by decide +kernel
theorem dX10_leastBy_103 : decode cX10_leastBy 103 = .ok (.iload 4, 2) := by decide +kernel
theorem dX10_leastBy_105 : decode cX10_leastBy 105 = .ok (.aload_n 0, 1) := by decide +kernel
theorem dX10_leastBy_106 : decode cX10_leastBy 106 = .ok (.getfield 19, 3) := by decide +kernel
theorem dX10_leastBy_109 : decode cX10_leastBy 109 = .ok (.iload_n 1, 1) := by decide +kernel
theorem dX10_leastBy_110 : decode cX10_leastBy 110 = .ok (.iaload, 1) := by decide +kernel
theorem dX10_leastBy_111 : decode cX10_leastBy 111 = .ok (.iadd, 1) := by decide +kernel
theorem dX10_leastBy_112 : decode cX10_leastBy 112 = .ok (.iload 5, 2) := by decide +kernel
theorem dX10_leastBy_114 : decode cX10_leastBy 114 = .ok (.iadd, 1) := by decide +kernel
theorem dX10_leastBy_115 : decode cX10_leastBy 115 = .ok (.invokestatic 214, 3) := by decide +kernel
theorem dX10_leastBy_118 : decode cX10_leastBy 118 = .ok (.ireturn, 1) := by decide +kernel
theorem dX10_findsMoves_0 : decode cX10_findsMoves 0 = .ok (.aload_n 0, 1) := by decide +kernel
theorem dX10_findsMoves_1 : decode cX10_findsMoves 1 = .ok (.invokevirtual 251, 3) := by decide +kernel
theorem dX10_findsMoves_4 : decode cX10_findsMoves 4 = .ok (.aload_n 0, 1) := by decide +kernel
theorem dX10_findsMoves_5 : decode cX10_findsMoves 5 = .ok (.iconst 0, 1) := by decide +kernel
theorem dX10_findsMoves_6 : decode cX10_findsMoves 6 = .ok (.putfield 254, 3) := by decide +kernel
theorem dX10_findsMoves_9 : decode cX10_findsMoves 9 = .ok (.iconst 0, 1) := by decide +kernel
theorem dX10_findsMoves_10 : decode cX10_findsMoves 10 = .ok (.istore_n 1, 1) := by decide +kernel
theorem dX10_findsMoves_11 : decode cX10_findsMoves 11 = .ok (.iload_n 1, 1) := by decide +kernel
theorem dX10_findsMoves_12 : decode cX10_findsMoves 12 = .ok (.aload_n 0, 1) := by decide +kernel
theorem dX10_findsMoves_13 : decode cX10_findsMoves 13 = .ok (.getfield 241, 3) := by decide +kernel
theorem dX10_findsMoves_16 : decode cX10_findsMoves 16 = .ok (.if_icmp .ge 82, 3) := by decide +kernel
theorem dX10_findsMoves_19 : decode cX10_findsMoves 19 = .ok (.aload_n 0, 1) := by decide +kernel
theorem dX10_findsMoves_20 : decode cX10_findsMoves 20 = .ok (.getfield 241, 3) := by decide +kernel
theorem dX10_findsMoves_23 : decode cX10_findsMoves 23 = .ok (.iconst 1, 1) := by decide +kernel
theorem dX10_findsMoves_24 : decode cX10_findsMoves 24 = .ok (.if_icmp .le 74, 3) := by decide +kernel
theorem dX10_findsMoves_27 : decode cX10_findsMoves 27 = .ok (.aload_n 0, 1) := by decide +kernel
theorem dX10_findsMoves_28 : decode cX10_findsMoves 28 = .ok (.getfield 65, 3) := by decide +kernel
theorem dX10_findsMoves_31 : decode cX10_findsMoves 31 = .ok (.iload_n 1, 1) := by decide +kernel
theorem dX10_findsMoves_32 : decode cX10_findsMoves 32 = .ok (.iaload, 1) := by decide +kernel
theorem dX10_findsMoves_33 : decode cX10_findsMoves 33 = .ok (.istore_n 2, 1) := by decide +kernel
theorem dX10_findsMoves_34 : decode cX10_findsMoves 34 = .ok (.aload_n 0, 1) := by decide +kernel
theorem dX10_findsMoves_35 : decode cX10_findsMoves 35 = .ok (.getfield 65, 3) := by decide +kernel
theorem dX10_findsMoves_38 : decode cX10_findsMoves 38 = .ok (.iload_n 1, 1) := by decide +kernel
theorem dX10_findsMoves_39 : decode cX10_findsMoves 39 = .ok (.iconst 1, 1) := by decide +kernel
theorem dX10_findsMoves_40 : decode cX10_findsMoves 40 = .ok (.iadd, 1) := by decide +kernel
theorem dX10_findsMoves_41 : decode cX10_findsMoves 41 = .ok (.iaload, 1) := by decide +kernel
theorem dX10_findsMoves_42 : decode cX10_findsMoves 42 = .ok (.iconst 1, 1) := by decide +kernel
theorem dX10_findsMoves_43 : decode cX10_findsMoves 43 = .ok (.isub, 1) := by decide +kernel
theorem dX10_findsMoves_44 : decode cX10_findsMoves 44 = .ok (.istore_n 3, 1) := by decide +kernel
theorem dX10_findsMoves_45 : decode cX10_findsMoves 45 = .ok (.iload_n 3, 1) := by decide +kernel
theorem dX10_findsMoves_46 : decode cX10_findsMoves 46 = .ok (.iload_n 2, 1) := by decide +kernel
theorem dX10_findsMoves_47 : decode cX10_findsMoves 47 = .ok (.if_icmp .le 12, 3) := by decide +kernel
theorem dX10_findsMoves_50 : decode cX10_findsMoves 50 = .ok (.iload_n 1, 1) := by decide +kernel
theorem dX10_findsMoves_51 : decode cX10_findsMoves 51 = .ok (.ifCond .le 8, 3) := by decide +kernel
theorem dX10_findsMoves_54 : decode cX10_findsMoves 54 = .ok (.aload_n 0, 1) := by decide +kernel
theorem dX10_findsMoves_55 : decode cX10_findsMoves 55 = .ok (.iload_n 2, 1) := by decide +kernel
theorem dX10_findsMoves_56 : decode cX10_findsMoves 56 = .ok (.invokevirtual 260, 3) := by decide +kernel
theorem dX10_findsMoves_59 : decode cX10_findsMoves 59 = .ok (.iload_n 3, 1) := by decide +kernel
theorem dX10_findsMoves_60 : decode cX10_findsMoves 60 = .ok (.iload_n 2, 1) := by decide +kernel
theorem dX10_findsMoves_61 : decode cX10_findsMoves 61 = .ok (.if_icmp .le 31, 3) := by decide +kernel
theorem dX10_findsMoves_64 : decode cX10_findsMoves 64 = .ok (.iload_n 1, 1) := by decide +kernel
theorem dX10_findsMoves_65 : decode cX10_findsMoves 65 = .ok (.aload_n 0, 1) := by decide +kernel
theorem dX10_findsMoves_66 : decode cX10_findsMoves 66 = .ok (.getfield 241, 3) := by decide +kernel
theorem dX10_findsMoves_69 : decode cX10_findsMoves 69 = .ok (.iconst 1, 1) := by decide +kernel
theorem dX10_findsMoves_70 : decode cX10_findsMoves 70 = .ok (.isub, 1) := by decide +kernel
theorem dX10_findsMoves_71 : decode cX10_findsMoves 71 = .ok (.if_icmp .ge 21, 3) := by decide +kernel
theorem dX10_findsMoves_74 : decode cX10_findsMoves 74 = .ok (.iload_n 1, 1) := by decide +kernel
theorem dX10_findsMoves_75 : decode cX10_findsMoves 75 = .ok (.ifCond .eq 10, 3) := by decide +kernel
theorem dX10_findsMoves_78 : decode cX10_findsMoves 78 = .ok (.iload_n 3, 1) := by decide +kernel
theorem dX10_findsMoves_79 : decode cX10_findsMoves 79 = .ok (.iconst 1, 1) := by decide +kernel
theorem dX10_findsMoves_80 : decode cX10_findsMoves 80 = .ok (.isub, 1) := by decide +kernel
theorem dX10_findsMoves_81 : decode cX10_findsMoves 81 = .ok (.iload_n 2, 1) := by decide +kernel
theorem dX10_findsMoves_82 : decode cX10_findsMoves 82 = .ok (.if_icmp .le 10, 3) := by decide +kernel
theorem dX10_findsMoves_85 : decode cX10_findsMoves 85 = .ok (.aload_n 0, 1) := by decide +kernel
theorem dX10_findsMoves_86 : decode cX10_findsMoves 86 = .ok (.iload_n 3, 1) := by decide +kernel
theorem dX10_findsMoves_87 : decode cX10_findsMoves 87 = .ok (.iconst 1, 1) := by decide +kernel
theorem dX10_findsMoves_88 : decode cX10_findsMoves 88 = .ok (.isub, 1) := by decide +kernel
theorem dX10_findsMoves_89 : decode cX10_findsMoves 89 = .ok (.invokevirtual 260, 3) := by decide +kernel
theorem dX10_findsMoves_92 : decode cX10_findsMoves 92 = .ok (.iinc 1 1, 3) := by decide +kernel
theorem dX10_findsMoves_95 : decode cX10_findsMoves 95 = .ok (.goto (-84), 3) := by decide +kernel
theorem dX10_findsMoves_98 : decode cX10_findsMoves 98 = .ok (.return_, 1) := by decide +kernel
theorem dX10_swapsMove_0 : decode cX10_swapsMove 0 = .ok (.iload_n 1, 1) := by decide +kernel
theorem dX10_swapsMove_1 : decode cX10_swapsMove 1 = .ok (.bipush 100, 2) := by decide +kernel
theorem dX10_swapsMove_3 : decode cX10_swapsMove 3 = .ok (.idiv, 1) := by decide +kernel
theorem dX10_swapsMove_4 : decode cX10_swapsMove 4 = .ok (.istore_n 2, 1) := by decide +kernel
theorem dX10_swapsMove_5 : decode cX10_swapsMove 5 = .ok (.iload_n 1, 1) := by decide +kernel
theorem dX10_swapsMove_6 : decode cX10_swapsMove 6 = .ok (.bipush 100, 2) := by decide +kernel
theorem dX10_swapsMove_8 : decode cX10_swapsMove 8 = .ok (.irem, 1) := by decide +kernel
theorem dX10_swapsMove_9 : decode cX10_swapsMove 9 = .ok (.istore_n 3, 1) := by decide +kernel
theorem dX10_swapsMove_10 : decode cX10_swapsMove 10 = .ok (.aload_n 0, 1) := by decide +kernel
theorem dX10_swapsMove_11 : decode cX10_swapsMove 11 = .ok (.aload_n 0, 1) := by decide +kernel
theorem dX10_swapsMove_12 : decode cX10_swapsMove 12 = .ok (.getfield 16, 3) := by decide +kernel
theorem dX10_swapsMove_15 : decode cX10_swapsMove 15 = .ok (.iload_n 2, 1) := by decide +kernel
theorem dX10_swapsMove_16 : decode cX10_swapsMove 16 = .ok (.iaload, 1) := by decide +kernel
theorem dX10_swapsMove_17 : decode cX10_swapsMove 17 = .ok (.aload_n 0, 1) := by decide +kernel
theorem dX10_swapsMove_18 : decode cX10_swapsMove 18 = .ok (.iload_n 2, 1) := by decide +kernel
theorem dX10_swapsMove_19 : decode cX10_swapsMove 19 = .ok (.invokevirtual 177, 3) := by decide +kernel
theorem dX10_swapsMove_22 : decode cX10_swapsMove 22 = .ok (.aload_n 0, 1) := by decide +kernel
theorem dX10_swapsMove_23 : decode cX10_swapsMove 23 = .ok (.iload_n 3, 1) := by decide +kernel
theorem dX10_swapsMove_24 : decode cX10_swapsMove 24 = .ok (.invokevirtual 177, 3) := by decide +kernel
theorem dX10_swapsMove_27 : decode cX10_swapsMove 27 = .ok (.invokestatic 263, 3) := by decide +kernel
theorem dX10_swapsMove_30 : decode cX10_swapsMove 30 = .ok (.invokevirtual 184, 3) := by decide +kernel
theorem dX10_swapsMove_33 : decode cX10_swapsMove 33 = .ok (.return_, 1) := by decide +kernel
theorem dX10_spanBehind_0 : decode cX10_spanBehind 0 = .ok (.aload_n 0, 1) := by decide +kernel
theorem dX10_spanBehind_1 : decode cX10_spanBehind 1 = .ok (.iload_n 1, 1) := by decide +kernel
theorem dX10_spanBehind_2 : decode cX10_spanBehind 2 = .ok (.invokevirtual 266, 3) := by decide +kernel
theorem dX10_spanBehind_5 : decode cX10_spanBehind 5 = .ok (.aload_n 0, 1) := by decide +kernel
theorem dX10_spanBehind_6 : decode cX10_spanBehind 6 = .ok (.invokevirtual 191, 3) := by decide +kernel
theorem dX10_spanBehind_9 : decode cX10_spanBehind 9 = .ok (.istore_n 2, 1) := by decide +kernel
theorem dX10_spanBehind_10 : decode cX10_spanBehind 10 = .ok (.aload_n 0, 1) := by decide +kernel
theorem dX10_spanBehind_11 : decode cX10_spanBehind 11 = .ok (.iload_n 1, 1) := by decide +kernel
theorem dX10_spanBehind_12 : decode cX10_spanBehind 12 = .ok (.invokevirtual 266, 3) := by decide +kernel
theorem dX10_spanBehind_15 : decode cX10_spanBehind 15 = .ok (.iload_n 2, 1) := by decide +kernel
theorem dX10_spanBehind_16 : decode cX10_spanBehind 16 = .ok (.ifCond .eq 10, 3) := by decide +kernel
theorem dX10_spanBehind_19 : decode cX10_spanBehind 19 = .ok (.aload_n 0, 1) := by decide +kernel
theorem dX10_spanBehind_20 : decode cX10_spanBehind 20 = .ok (.getfield 195, 3) := by decide +kernel
theorem dX10_spanBehind_23 : decode cX10_spanBehind 23 = .ok (.goto 5, 3) := by decide +kernel
theorem dX10_spanBehind_26 : decode cX10_spanBehind 26 = .ok (.bipush (-4), 2) := by decide +kernel
theorem dX10_spanBehind_28 : decode cX10_spanBehind 28 = .ok (.ireturn, 1) := by decide +kernel
theorem dX10_move_0 : decode cX10_move 0 = .ok (.iload_n 1, 1) := by decide +kernel
theorem dX10_move_1 : decode cX10_move 1 = .ok (.iconst (-1), 1) := by decide +kernel
theorem dX10_move_2 : decode cX10_move 2 = .ok (.if_icmp .ge 5, 3) := by decide +kernel
theorem dX10_move_5 : decode cX10_move 5 = .ok (.iconst (-1), 1) := by decide +kernel
theorem dX10_move_6 : decode cX10_move 6 = .ok (.ireturn, 1) := by decide +kernel
theorem dX10_move_7 : decode cX10_move 7 = .ok (.aload_n 0, 1) := by decide +kernel
theorem dX10_move_8 : decode cX10_move 8 = .ok (.invokevirtual 244, 3) := by decide +kernel
theorem dX10_move_11 : decode cX10_move 11 = .ok (.istore_n 2, 1) := by decide +kernel
theorem dX10_move_12 : decode cX10_move 12 = .ok (.iload_n 2, 1) := by decide +kernel
theorem dX10_move_13 : decode cX10_move 13 = .ok (.ifCond .ge 5, 3) := by decide +kernel
theorem dX10_move_16 : decode cX10_move 16 = .ok (.iload_n 2, 1) := by decide +kernel
theorem dX10_move_17 : decode cX10_move 17 = .ok (.ireturn, 1) := by decide +kernel
theorem dX10_move_18 : decode cX10_move 18 = .ok (.aload_n 0, 1) := by decide +kernel
theorem dX10_move_19 : decode cX10_move 19 = .ok (.invokevirtual 269, 3) := by decide +kernel
theorem dX10_move_22 : decode cX10_move 22 = .ok (.aload_n 0, 1) := by decide +kernel
theorem dX10_move_23 : decode cX10_move 23 = .ok (.getfield 68, 3) := by decide +kernel
theorem dX10_move_26 : decode cX10_move 26 = .ok (.aload_n 0, 1) := by decide +kernel
theorem dX10_move_27 : decode cX10_move 27 = .ok (.getfield 254, 3) := by decide +kernel
theorem dX10_move_30 : decode cX10_move 30 = .ok (.iload_n 1, 1) := by decide +kernel
theorem dX10_move_31 : decode cX10_move 31 = .ok (.invokestatic 247, 3) := by decide +kernel
theorem dX10_move_34 : decode cX10_move 34 = .ok (.ireturn, 1) := by decide +kernel
theorem dX10_brings_0 : decode cX10_brings 0 = .ok (.iload_n 1, 1) := by decide +kernel
theorem dX10_brings_1 : decode cX10_brings 1 = .ok (.ifCond .lt 12, 3) := by decide +kernel
theorem dX10_brings_4 : decode cX10_brings 4 = .ok (.iload_n 2, 1) := by decide +kernel
theorem dX10_brings_5 : decode cX10_brings 5 = .ok (.iconst 0, 1) := by decide +kernel
theorem dX10_brings_6 : decode cX10_brings 6 = .ok (.iconst 2, 1) := by decide +kernel
theorem dX10_brings_7 : decode cX10_brings 7 = .ok (.invokestatic 108, 3) := by decide +kernel
theorem dX10_brings_10 : decode cX10_brings 10 = .ok (.ifCond .ne 5, 3) := by decide +kernel
theorem dX10_brings_13 : decode cX10_brings 13 = .ok (.iconst (-1), 1) := by decide +kernel
theorem dX10_brings_14 : decode cX10_brings 14 = .ok (.ireturn, 1) := by decide +kernel
theorem dX10_brings_15 : decode cX10_brings 15 = .ok (.aload_n 0, 1) := by decide +kernel
theorem dX10_brings_16 : decode cX10_brings 16 = .ok (.invokevirtual 244, 3) := by decide +kernel
theorem dX10_brings_19 : decode cX10_brings 19 = .ok (.istore_n 3, 1) := by decide +kernel
theorem dX10_brings_20 : decode cX10_brings 20 = .ok (.iload_n 3, 1) := by decide +kernel
theorem dX10_brings_21 : decode cX10_brings 21 = .ok (.ifCond .ge 5, 3) := by decide +kernel
theorem dX10_brings_24 : decode cX10_brings 24 = .ok (.iload_n 3, 1) := by decide +kernel
theorem dX10_brings_25 : decode cX10_brings 25 = .ok (.ireturn, 1) := by decide +kernel
theorem dX10_brings_26 : decode cX10_brings 26 = .ok (.aload_n 0, 1) := by decide +kernel
theorem dX10_brings_27 : decode cX10_brings 27 = .ok (.invokevirtual 269, 3) := by decide +kernel
theorem dX10_brings_30 : decode cX10_brings 30 = .ok (.iload_n 1, 1) := by decide +kernel
theorem dX10_brings_31 : decode cX10_brings 31 = .ok (.aload_n 0, 1) := by decide +kernel
theorem dX10_brings_32 : decode cX10_brings 32 = .ok (.getfield 254, 3) := by decide +kernel
theorem dX10_brings_35 : decode cX10_brings 35 = .ok (.if_icmp .lt 6, 3) := by decide +kernel
theorem dX10_brings_38 : decode cX10_brings 38 = .ok (.bipush (-2), 2) := by decide +kernel
theorem dX10_brings_40 : decode cX10_brings 40 = .ok (.ireturn, 1) := by decide +kernel
theorem dX10_brings_41 : decode cX10_brings 41 = .ok (.iload_n 2, 1) := by decide +kernel
theorem dX10_brings_42 : decode cX10_brings 42 = .ok (.ifCond .ne 12, 3) := by decide +kernel
theorem dX10_brings_45 : decode cX10_brings 45 = .ok (.aload_n 0, 1) := by decide +kernel
theorem dX10_brings_46 : decode cX10_brings 46 = .ok (.getfield 71, 3) := by decide +kernel
theorem dX10_brings_49 : decode cX10_brings 49 = .ok (.iload_n 1, 1) := by decide +kernel
theorem dX10_brings_50 : decode cX10_brings 50 = .ok (.iaload, 1) := by decide +kernel
theorem dX10_brings_51 : decode cX10_brings 51 = .ok (.goto 39, 3) := by decide +kernel
theorem dX10_brings_54 : decode cX10_brings 54 = .ok (.iload_n 2, 1) := by decide +kernel
theorem dX10_brings_55 : decode cX10_brings 55 = .ok (.iconst 1, 1) := by decide +kernel
theorem dX10_brings_56 : decode cX10_brings 56 = .ok (.if_icmp .ne 16, 3) := by decide +kernel
theorem dX10_brings_59 : decode cX10_brings 59 = .ok (.aload_n 0, 1) := by decide +kernel
theorem dX10_brings_60 : decode cX10_brings 60 = .ok (.aload_n 0, 1) := by decide +kernel
theorem dX10_brings_61 : decode cX10_brings 61 = .ok (.getfield 68, 3) := by decide +kernel
theorem dX10_brings_64 : decode cX10_brings 64 = .ok (.iload_n 1, 1) := by decide +kernel
theorem dX10_brings_65 : decode cX10_brings 65 = .ok (.iaload, 1) := by decide +kernel
theorem dX10_brings_66 : decode cX10_brings 66 = .ok (.invokevirtual 272, 3) := by decide +kernel
theorem dX10_brings_69 : decode cX10_brings 69 = .ok (.goto 21, 3) := by decide +kernel
theorem dX10_brings_72 : decode cX10_brings 72 = .ok (.aload_n 0, 1) := by decide +kernel
theorem dX10_brings_73 : decode cX10_brings 73 = .ok (.aload_n 0, 1) := by decide +kernel
theorem dX10_brings_74 : decode cX10_brings 74 = .ok (.getfield 68, 3) := by decide +kernel
theorem dX10_brings_77 : decode cX10_brings 77 = .ok (.iload_n 1, 1) := by decide +kernel
theorem dX10_brings_78 : decode cX10_brings 78 = .ok (.iaload, 1) := by decide +kernel
theorem dX10_brings_79 : decode cX10_brings 79 = .ok (.invokevirtual 275, 3) := by decide +kernel
theorem dX10_brings_82 : decode cX10_brings 82 = .ok (.ifCond .ge 7, 3) := by decide +kernel
theorem dX10_brings_85 : decode cX10_brings 85 = .ok (.iconst 0, 1) := by decide +kernel
theorem dX10_brings_86 : decode cX10_brings 86 = .ok (.goto 4, 3) := by decide +kernel
theorem dX10_brings_89 : decode cX10_brings 89 = .ok (.iconst 1, 1) := by decide +kernel
theorem dX10_brings_90 : decode cX10_brings 90 = .ok (.ireturn, 1) := by decide +kernel
theorem dX10_does_0 : decode cX10_does 0 = .ok (.iload_n 1, 1) := by decide +kernel
theorem dX10_does_1 : decode cX10_does 1 = .ok (.ifCond .ge 5, 3) := by decide +kernel
theorem dX10_does_4 : decode cX10_does 4 = .ok (.iconst (-1), 1) := by decide +kernel
theorem dX10_does_5 : decode cX10_does 5 = .ok (.ireturn, 1) := by decide +kernel
theorem dX10_does_6 : decode cX10_does 6 = .ok (.aload_n 0, 1) := by decide +kernel
theorem dX10_does_7 : decode cX10_does 7 = .ok (.invokevirtual 244, 3) := by decide +kernel
theorem dX10_does_10 : decode cX10_does 10 = .ok (.istore_n 2, 1) := by decide +kernel
theorem dX10_does_11 : decode cX10_does 11 = .ok (.iload_n 2, 1) := by decide +kernel
theorem dX10_does_12 : decode cX10_does 12 = .ok (.ifCond .ge 5, 3) := by decide +kernel
theorem dX10_does_15 : decode cX10_does 15 = .ok (.iload_n 2, 1) := by decide +kernel
theorem dX10_does_16 : decode cX10_does 16 = .ok (.ireturn, 1) := by decide +kernel
theorem dX10_does_17 : decode cX10_does 17 = .ok (.aload_n 0, 1) := by decide +kernel
theorem dX10_does_18 : decode cX10_does 18 = .ok (.invokevirtual 269, 3) := by decide +kernel
theorem dX10_does_21 : decode cX10_does 21 = .ok (.iload_n 1, 1) := by decide +kernel
theorem dX10_does_22 : decode cX10_does 22 = .ok (.aload_n 0, 1) := by decide +kernel
theorem dX10_does_23 : decode cX10_does 23 = .ok (.getfield 254, 3) := by decide +kernel
theorem dX10_does_26 : decode cX10_does 26 = .ok (.if_icmp .lt 6, 3) := by decide +kernel
theorem dX10_does_29 : decode cX10_does 29 = .ok (.bipush (-2), 2) := by decide +kernel
theorem dX10_does_31 : decode cX10_does 31 = .ok (.ireturn, 1) := by decide +kernel
theorem dX10_does_32 : decode cX10_does 32 = .ok (.aload_n 0, 1) := by decide +kernel
theorem dX10_does_33 : decode cX10_does 33 = .ok (.aload_n 0, 1) := by decide +kernel
theorem dX10_does_34 : decode cX10_does 34 = .ok (.getfield 68, 3) := by decide +kernel
theorem dX10_does_37 : decode cX10_does 37 = .ok (.iload_n 1, 1) := by decide +kernel
theorem dX10_does_38 : decode cX10_does 38 = .ok (.iaload, 1) := by decide +kernel
theorem dX10_does_39 : decode cX10_does 39 = .ok (.invokevirtual 266, 3) := by decide +kernel
theorem dX10_does_42 : decode cX10_does 42 = .ok (.aload_n 0, 1) := by decide +kernel
theorem dX10_does_43 : decode cX10_does 43 = .ok (.invokevirtual 188, 3) := by decide +kernel
theorem dX10_does_46 : decode cX10_does 46 = .ok (.aload_n 0, 1) := by decide +kernel
theorem dX10_does_47 : decode cX10_does 47 = .ok (.invokevirtual 191, 3) := by decide +kernel
theorem dX10_does_50 : decode cX10_does 50 = .ok (.ifCond .eq 10, 3) := by decide +kernel
theorem dX10_does_53 : decode cX10_does 53 = .ok (.aload_n 0, 1) := by decide +kernel
theorem dX10_does_54 : decode cX10_does 54 = .ok (.getfield 195, 3) := by decide +kernel
theorem dX10_does_57 : decode cX10_does 57 = .ok (.goto 5, 3) := by decide +kernel
theorem dX10_does_60 : decode cX10_does 60 = .ok (.bipush (-4), 2) := by decide +kernel
theorem dX10_does_62 : decode cX10_does 62 = .ok (.ireturn, 1) := by decide +kernel
theorem dX10_forgets_0 : decode cX10_forgets 0 = .ok (.aload_n 0, 1) := by decide +kernel
theorem dX10_forgets_1 : decode cX10_forgets 1 = .ok (.iconst 0, 1) := by decide +kernel
theorem dX10_forgets_2 : decode cX10_forgets 2 = .ok (.putfield 278, 3) := by decide +kernel
theorem dX10_forgets_5 : decode cX10_forgets 5 = .ok (.aload_n 0, 1) := by decide +kernel
theorem dX10_forgets_6 : decode cX10_forgets 6 = .ok (.iconst 0, 1) := by decide +kernel
theorem dX10_forgets_7 : decode cX10_forgets 7 = .ok (.putfield 281, 3) := by decide +kernel
theorem dX10_forgets_10 : decode cX10_forgets 10 = .ok (.return_, 1) := by decide +kernel
theorem dX10_tabu_0 : decode cX10_tabu 0 = .ok (.iload_n 1, 1) := by decide +kernel
theorem dX10_tabu_1 : decode cX10_tabu 1 = .ok (.iconst 0, 1) := by decide +kernel
theorem dX10_tabu_2 : decode cX10_tabu 2 = .ok (.bipush 9, 2) := by decide +kernel
theorem dX10_tabu_4 : decode cX10_tabu 4 = .ok (.invokestatic 108, 3) := by decide +kernel
theorem dX10_tabu_7 : decode cX10_tabu 7 = .ok (.ifCond .ne 5, 3) := by decide +kernel
theorem dX10_tabu_10 : decode cX10_tabu 10 = .ok (.iconst (-1), 1) := by decide +kernel
theorem dX10_tabu_11 : decode cX10_tabu 11 = .ok (.ireturn, 1) := by decide +kernel
theorem dX10_tabu_12 : decode cX10_tabu 12 = .ok (.aload_n 0, 1) := by decide +kernel
theorem dX10_tabu_13 : decode cX10_tabu 13 = .ok (.getfield 74, 3) := by decide +kernel
theorem dX10_tabu_16 : decode cX10_tabu 16 = .ok (.istore_n 2, 1) := by decide +kernel
theorem dX10_tabu_17 : decode cX10_tabu 17 = .ok (.aload_n 0, 1) := by decide +kernel
theorem dX10_tabu_18 : decode cX10_tabu 18 = .ok (.iload_n 1, 1) := by decide +kernel
theorem dX10_tabu_19 : decode cX10_tabu 19 = .ok (.putfield 74, 3) := by decide +kernel
theorem dX10_tabu_22 : decode cX10_tabu 22 = .ok (.aload_n 0, 1) := by decide +kernel
theorem dX10_tabu_23 : decode cX10_tabu 23 = .ok (.invokevirtual 171, 3) := by decide +kernel
theorem dX10_tabu_26 : decode cX10_tabu 26 = .ok (.iload_n 2, 1) := by decide +kernel
theorem dX10_tabu_27 : decode cX10_tabu 27 = .ok (.ireturn, 1) := by decide +kernel
theorem dX10_tabuAt_0 : decode cX10_tabuAt 0 = .ok (.iconst 0, 1) := by decide +kernel
theorem dX10_tabuAt_1 : decode cX10_tabuAt 1 = .ok (.istore_n 2, 1) := by decide +kernel
theorem dX10_tabuAt_2 : decode cX10_tabuAt 2 = .ok (.iload_n 2, 1) := by decide +kernel
theorem dX10_tabuAt_3 : decode cX10_tabuAt 3 = .ok (.aload_n 0, 1) := by decide +kernel
theorem dX10_tabuAt_4 : decode cX10_tabuAt 4 = .ok (.getfield 278, 3) := by decide +kernel
theorem dX10_tabuAt_7 : decode cX10_tabuAt 7 = .ok (.if_icmp .ge 21, 3) := by decide +kernel
theorem dX10_tabuAt_10 : decode cX10_tabuAt 10 = .ok (.aload_n 0, 1) := by decide +kernel
theorem dX10_tabuAt_11 : decode cX10_tabuAt 11 = .ok (.getfield 78, 3) := by decide +kernel
theorem dX10_tabuAt_14 : decode cX10_tabuAt 14 = .ok (.iload_n 2, 1) := by decide +kernel
theorem dX10_tabuAt_15 : decode cX10_tabuAt 15 = .ok (.iaload, 1) := by decide +kernel
theorem dX10_tabuAt_16 : decode cX10_tabuAt 16 = .ok (.iload_n 1, 1) := by decide +kernel
theorem dX10_tabuAt_17 : decode cX10_tabuAt 17 = .ok (.if_icmp .ne 5, 3) := by decide +kernel
theorem dX10_tabuAt_20 : decode cX10_tabuAt 20 = .ok (.iload_n 2, 1) := by decide +kernel
theorem dX10_tabuAt_21 : decode cX10_tabuAt 21 = .ok (.ireturn, 1) := by decide +kernel
theorem dX10_tabuAt_22 : decode cX10_tabuAt 22 = .ok (.iinc 2 1, 3) := by decide +kernel
theorem dX10_tabuAt_25 : decode cX10_tabuAt 25 = .ok (.goto (-23), 3) := by decide +kernel
theorem dX10_tabuAt_28 : decode cX10_tabuAt 28 = .ok (.iconst (-1), 1) := by decide +kernel
theorem dX10_tabuAt_29 : decode cX10_tabuAt 29 = .ok (.ireturn, 1) := by decide +kernel
theorem dX10_takesOff_0 : decode cX10_takesOff 0 = .ok (.aload_n 0, 1) := by decide +kernel
theorem dX10_takesOff_1 : decode cX10_takesOff 1 = .ok (.dup, 1) := by decide +kernel
theorem dX10_takesOff_2 : decode cX10_takesOff 2 = .ok (.getfield 278, 3) := by decide +kernel
theorem dX10_takesOff_5 : decode cX10_takesOff 5 = .ok (.iconst 1, 1) := by decide +kernel
theorem dX10_takesOff_6 : decode cX10_takesOff 6 = .ok (.isub, 1) := by decide +kernel
theorem dX10_takesOff_7 : decode cX10_takesOff 7 = .ok (.putfield 278, 3) := by decide +kernel
theorem dX10_takesOff_10 : decode cX10_takesOff 10 = .ok (.iload_n 1, 1) := by decide +kernel
theorem dX10_takesOff_11 : decode cX10_takesOff 11 = .ok (.istore_n 2, 1) := by decide +kernel
theorem dX10_takesOff_12 : decode cX10_takesOff 12 = .ok (.iload_n 2, 1) := by decide +kernel
theorem dX10_takesOff_13 : decode cX10_takesOff 13 = .ok (.aload_n 0, 1) := by decide +kernel
theorem dX10_takesOff_14 : decode cX10_takesOff 14 = .ok (.getfield 278, 3) := by decide +kernel
theorem dX10_takesOff_17 : decode cX10_takesOff 17 = .ok (.if_icmp .ge 23, 3) := by decide +kernel
theorem dX10_takesOff_20 : decode cX10_takesOff 20 = .ok (.aload_n 0, 1) := by decide +kernel
theorem dX10_takesOff_21 : decode cX10_takesOff 21 = .ok (.getfield 78, 3) := by decide +kernel
theorem dX10_takesOff_24 : decode cX10_takesOff 24 = .ok (.iload_n 2, 1) := by decide +kernel
theorem dX10_takesOff_25 : decode cX10_takesOff 25 = .ok (.aload_n 0, 1) := by decide +kernel
theorem dX10_takesOff_26 : decode cX10_takesOff 26 = .ok (.getfield 78, 3) := by decide +kernel
theorem dX10_takesOff_29 : decode cX10_takesOff 29 = .ok (.iload_n 2, 1) := by decide +kernel
theorem dX10_takesOff_30 : decode cX10_takesOff 30 = .ok (.iconst 1, 1) := by decide +kernel
theorem dX10_takesOff_31 : decode cX10_takesOff 31 = .ok (.iadd, 1) := by decide +kernel
theorem dX10_takesOff_32 : decode cX10_takesOff 32 = .ok (.iaload, 1) := by decide +kernel
theorem dX10_takesOff_33 : decode cX10_takesOff 33 = .ok (.iastore, 1) := by decide +kernel
theorem dX10_takesOff_34 : decode cX10_takesOff 34 = .ok (.iinc 2 1, 3) := by decide +kernel
theorem dX10_takesOff_37 : decode cX10_takesOff 37 = .ok (.goto (-25), 3) := by decide +kernel
theorem dX10_takesOff_40 : decode cX10_takesOff 40 = .ok (.return_, 1) := by decide +kernel
theorem dX10_keepsMove_0 : decode cX10_keepsMove 0 = .ok (.aload_n 0, 1) := by decide +kernel
theorem dX10_keepsMove_1 : decode cX10_keepsMove 1 = .ok (.iload_n 1, 1) := by decide +kernel
theorem dX10_keepsMove_2 : decode cX10_keepsMove 2 = .ok (.invokevirtual 275, 3) := by decide +kernel
theorem dX10_keepsMove_5 : decode cX10_keepsMove 5 = .ok (.ifCond .lt 12, 3) := by decide +kernel
theorem dX10_keepsMove_8 : decode cX10_keepsMove 8 = .ok (.aload_n 0, 1) := by decide +kernel
theorem dX10_keepsMove_9 : decode cX10_keepsMove 9 = .ok (.aload_n 0, 1) := by decide +kernel
theorem dX10_keepsMove_10 : decode cX10_keepsMove 10 = .ok (.iload_n 1, 1) := by decide +kernel
theorem dX10_keepsMove_11 : decode cX10_keepsMove 11 = .ok (.invokevirtual 275, 3) := by decide +kernel
theorem dX10_keepsMove_14 : decode cX10_keepsMove 14 = .ok (.invokevirtual 284, 3) := by decide +kernel
theorem dX10_keepsMove_17 : decode cX10_keepsMove 17 = .ok (.aload_n 0, 1) := by decide +kernel
theorem dX10_keepsMove_18 : decode cX10_keepsMove 18 = .ok (.getfield 78, 3) := by decide +kernel
theorem dX10_keepsMove_21 : decode cX10_keepsMove 21 = .ok (.aload_n 0, 1) := by decide +kernel
theorem dX10_keepsMove_22 : decode cX10_keepsMove 22 = .ok (.getfield 278, 3) := by decide +kernel
theorem dX10_keepsMove_25 : decode cX10_keepsMove 25 = .ok (.iload_n 1, 1) := by decide +kernel
theorem dX10_keepsMove_26 : decode cX10_keepsMove 26 = .ok (.iastore, 1) := by decide +kernel
theorem dX10_keepsMove_27 : decode cX10_keepsMove 27 = .ok (.aload_n 0, 1) := by decide +kernel
theorem dX10_keepsMove_28 : decode cX10_keepsMove 28 = .ok (.dup, 1) := by decide +kernel
theorem dX10_keepsMove_29 : decode cX10_keepsMove 29 = .ok (.getfield 278, 3) := by decide +kernel
theorem dX10_keepsMove_32 : decode cX10_keepsMove 32 = .ok (.iconst 1, 1) := by decide +kernel
theorem dX10_keepsMove_33 : decode cX10_keepsMove 33 = .ok (.iadd, 1) := by decide +kernel
theorem dX10_keepsMove_34 : decode cX10_keepsMove 34 = .ok (.putfield 278, 3) := by decide +kernel
theorem dX10_keepsMove_37 : decode cX10_keepsMove 37 = .ok (.aload_n 0, 1) := by decide +kernel
theorem dX10_keepsMove_38 : decode cX10_keepsMove 38 = .ok (.getfield 278, 3) := by decide +kernel
theorem dX10_keepsMove_41 : decode cX10_keepsMove 41 = .ok (.aload_n 0, 1) := by decide +kernel
theorem dX10_keepsMove_42 : decode cX10_keepsMove 42 = .ok (.getfield 74, 3) := by decide +kernel
theorem dX10_keepsMove_45 : decode cX10_keepsMove 45 = .ok (.if_icmp .le 8, 3) := by decide +kernel
theorem dX10_keepsMove_48 : decode cX10_keepsMove 48 = .ok (.aload_n 0, 1) := by decide +kernel
theorem dX10_keepsMove_49 : decode cX10_keepsMove 49 = .ok (.iconst 0, 1) := by decide +kernel
theorem dX10_keepsMove_50 : decode cX10_keepsMove 50 = .ok (.invokevirtual 284, 3) := by decide +kernel
theorem dX10_keepsMove_53 : decode cX10_keepsMove 53 = .ok (.return_, 1) := by decide +kernel
theorem dX10_notes_0 : decode cX10_notes 0 = .ok (.aload_n 0, 1) := by decide +kernel
theorem dX10_notes_1 : decode cX10_notes 1 = .ok (.getfield 281, 3) := by decide +kernel
theorem dX10_notes_4 : decode cX10_notes 4 = .ok (.ifCond .eq 12, 3) := by decide +kernel
theorem dX10_notes_7 : decode cX10_notes 7 = .ok (.iload_n 1, 1) := by decide +kernel
theorem dX10_notes_8 : decode cX10_notes 8 = .ok (.aload_n 0, 1) := by decide +kernel
theorem dX10_notes_9 : decode cX10_notes 9 = .ok (.getfield 287, 3) := by decide +kernel
theorem dX10_notes_12 : decode cX10_notes 12 = .ok (.if_icmp .lt 4, 3) := by decide +kernel
theorem dX10_notes_15 : decode cX10_notes 15 = .ok (.return_, 1) := by decide +kernel
theorem dX10_notes_16 : decode cX10_notes 16 = .ok (.aload_n 0, 1) := by decide +kernel
theorem dX10_notes_17 : decode cX10_notes 17 = .ok (.iconst 1, 1) := by decide +kernel
theorem dX10_notes_18 : decode cX10_notes 18 = .ok (.putfield 281, 3) := by decide +kernel
theorem dX10_notes_21 : decode cX10_notes 21 = .ok (.aload_n 0, 1) := by decide +kernel
theorem dX10_notes_22 : decode cX10_notes 22 = .ok (.iload_n 1, 1) := by decide +kernel
theorem dX10_notes_23 : decode cX10_notes 23 = .ok (.putfield 287, 3) := by decide +kernel
theorem dX10_notes_26 : decode cX10_notes 26 = .ok (.iconst 0, 1) := by decide +kernel
theorem dX10_notes_27 : decode cX10_notes 27 = .ok (.istore_n 2, 1) := by decide +kernel
theorem dX10_notes_28 : decode cX10_notes 28 = .ok (.iload_n 2, 1) := by decide +kernel
theorem dX10_notes_29 : decode cX10_notes 29 = .ok (.bipush 120, 2) := by decide +kernel
theorem dX10_notes_31 : decode cX10_notes 31 = .ok (.if_icmp .ge 21, 3) := by decide +kernel
theorem dX10_notes_34 : decode cX10_notes 34 = .ok (.aload_n 0, 1) := by decide +kernel
theorem dX10_notes_35 : decode cX10_notes 35 = .ok (.getfield 81, 3) := by decide +kernel
theorem dX10_notes_38 : decode cX10_notes 38 = .ok (.iload_n 2, 1) := by decide +kernel
theorem dX10_notes_39 : decode cX10_notes 39 = .ok (.aload_n 0, 1) := by decide +kernel
theorem dX10_notes_40 : decode cX10_notes 40 = .ok (.getfield 22, 3) := by decide +kernel
theorem dX10_notes_43 : decode cX10_notes 43 = .ok (.iload_n 2, 1) := by decide +kernel
theorem dX10_notes_44 : decode cX10_notes 44 = .ok (.iaload, 1) := by decide +kernel
theorem dX10_notes_45 : decode cX10_notes 45 = .ok (.iastore, 1) := by decide +kernel
theorem dX10_notes_46 : decode cX10_notes 46 = .ok (.iinc 2 1, 3) := by decide +kernel
theorem dX10_notes_49 : decode cX10_notes 49 = .ok (.goto (-21), 3) := by decide +kernel
theorem dX10_notes_52 : decode cX10_notes 52 = .ok (.return_, 1) := by decide +kernel
theorem dX10_chosen_0 : decode cX10_chosen 0 = .ok (.iconst (-1), 1) := by decide +kernel
theorem dX10_chosen_1 : decode cX10_chosen 1 = .ok (.istore_n 1, 1) := by decide +kernel
theorem dX10_chosen_2 : decode cX10_chosen 2 = .ok (.iconst 0, 1) := by decide +kernel
theorem dX10_chosen_3 : decode cX10_chosen 3 = .ok (.istore_n 2, 1) := by decide +kernel
theorem dX10_chosen_4 : decode cX10_chosen 4 = .ok (.iload_n 2, 1) := by decide +kernel
theorem dX10_chosen_5 : decode cX10_chosen 5 = .ok (.aload_n 0, 1) := by decide +kernel
theorem dX10_chosen_6 : decode cX10_chosen 6 = .ok (.getfield 254, 3) := by decide +kernel
theorem dX10_chosen_9 : decode cX10_chosen 9 = .ok (.if_icmp .ge 82, 3) := by decide +kernel
theorem dX10_chosen_12 : decode cX10_chosen 12 = .ok (.aload_n 0, 1) := by decide +kernel
theorem dX10_chosen_13 : decode cX10_chosen 13 = .ok (.getfield 84, 3) := by decide +kernel
theorem dX10_chosen_16 : decode cX10_chosen 16 = .ok (.iload_n 2, 1) := by decide +kernel
theorem dX10_chosen_17 : decode cX10_chosen 17 = .ok (.aload_n 0, 1) := by decide +kernel
theorem dX10_chosen_18 : decode cX10_chosen 18 = .ok (.aload_n 0, 1) := by decide +kernel
theorem dX10_chosen_19 : decode cX10_chosen 19 = .ok (.getfield 68, 3) := by decide +kernel
theorem dX10_chosen_22 : decode cX10_chosen 22 = .ok (.iload_n 2, 1) := by decide +kernel
theorem dX10_chosen_23 : decode cX10_chosen 23 = .ok (.iaload, 1) := by decide +kernel
theorem dX10_chosen_24 : decode cX10_chosen 24 = .ok (.invokevirtual 272, 3) := by decide +kernel
theorem dX10_chosen_27 : decode cX10_chosen 27 = .ok (.iastore, 1) := by decide +kernel
theorem dX10_chosen_28 : decode cX10_chosen 28 = .ok (.aload_n 0, 1) := by decide +kernel
theorem dX10_chosen_29 : decode cX10_chosen 29 = .ok (.aload_n 0, 1) := by decide +kernel
theorem dX10_chosen_30 : decode cX10_chosen 30 = .ok (.getfield 68, 3) := by decide +kernel
theorem dX10_chosen_33 : decode cX10_chosen 33 = .ok (.iload_n 2, 1) := by decide +kernel
theorem dX10_chosen_34 : decode cX10_chosen 34 = .ok (.iaload, 1) := by decide +kernel
theorem dX10_chosen_35 : decode cX10_chosen 35 = .ok (.invokevirtual 275, 3) := by decide +kernel
theorem dX10_chosen_38 : decode cX10_chosen 38 = .ok (.ifCond .lt 16, 3) := by decide +kernel
theorem dX10_chosen_41 : decode cX10_chosen 41 = .ok (.aload_n 0, 1) := by decide +kernel
theorem dX10_chosen_42 : decode cX10_chosen 42 = .ok (.getfield 84, 3) := by decide +kernel
theorem dX10_chosen_45 : decode cX10_chosen 45 = .ok (.iload_n 2, 1) := by decide +kernel
theorem dX10_chosen_46 : decode cX10_chosen 46 = .ok (.iaload, 1) := by decide +kernel
theorem dX10_chosen_47 : decode cX10_chosen 47 = .ok (.aload_n 0, 1) := by decide +kernel
theorem dX10_chosen_48 : decode cX10_chosen 48 = .ok (.getfield 287, 3) := by decide +kernel
theorem dX10_chosen_51 : decode cX10_chosen 51 = .ok (.if_icmp .ge 7, 3) := by decide +kernel
theorem dX10_chosen_54 : decode cX10_chosen 54 = .ok (.iconst 1, 1) := by decide +kernel
theorem dX10_chosen_55 : decode cX10_chosen 55 = .ok (.goto 4, 3) := by decide +kernel
theorem dX10_chosen_58 : decode cX10_chosen 58 = .ok (.iconst 0, 1) := by decide +kernel
theorem dX10_chosen_59 : decode cX10_chosen 59 = .ok (.istore_n 3, 1) := by decide +kernel
theorem dX10_chosen_60 : decode cX10_chosen 60 = .ok (.iload_n 3, 1) := by decide +kernel
theorem dX10_chosen_61 : decode cX10_chosen 61 = .ok (.ifCond .eq 24, 3) := by decide +kernel
theorem dX10_chosen_64 : decode cX10_chosen 64 = .ok (.iload_n 1, 1) := by decide +kernel
theorem dX10_chosen_65 : decode cX10_chosen 65 = .ok (.ifCond .lt 18, 3) := by decide +kernel
theorem dX10_chosen_68 : decode cX10_chosen 68 = .ok (.aload_n 0, 1) := by decide +kernel
theorem dX10_chosen_69 : decode cX10_chosen 69 = .ok (.getfield 84, 3) := by decide +kernel
theorem dX10_chosen_72 : decode cX10_chosen 72 = .ok (.iload_n 2, 1) := by decide +kernel
theorem dX10_chosen_73 : decode cX10_chosen 73 = .ok (.iaload, 1) := by decide +kernel
theorem dX10_chosen_74 : decode cX10_chosen 74 = .ok (.aload_n 0, 1) := by decide +kernel
theorem dX10_chosen_75 : decode cX10_chosen 75 = .ok (.getfield 84, 3) := by decide +kernel
theorem dX10_chosen_78 : decode cX10_chosen 78 = .ok (.iload_n 1, 1) := by decide +kernel
theorem dX10_chosen_79 : decode cX10_chosen 79 = .ok (.iaload, 1) := by decide +kernel
theorem dX10_chosen_80 : decode cX10_chosen 80 = .ok (.if_icmp .ge 5, 3) := by decide +kernel
theorem dX10_chosen_83 : decode cX10_chosen 83 = .ok (.iload_n 2, 1) := by decide +kernel
theorem dX10_chosen_84 : decode cX10_chosen 84 = .ok (.istore_n 1, 1) := by decide +kernel
theorem dX10_chosen_85 : decode cX10_chosen 85 = .ok (.iinc 2 1, 3) := by decide +kernel
theorem dX10_chosen_88 : decode cX10_chosen 88 = .ok (.goto (-84), 3) := by decide +kernel
theorem dX10_chosen_91 : decode cX10_chosen 91 = .ok (.iconst 0, 1) := by decide +kernel
theorem dX10_chosen_92 : decode cX10_chosen 92 = .ok (.istore_n 2, 1) := by decide +kernel
theorem dX10_chosen_93 : decode cX10_chosen 93 = .ok (.iload_n 2, 1) := by decide +kernel
theorem dX10_chosen_94 : decode cX10_chosen 94 = .ok (.aload_n 0, 1) := by decide +kernel
theorem dX10_chosen_95 : decode cX10_chosen 95 = .ok (.getfield 254, 3) := by decide +kernel
theorem dX10_chosen_98 : decode cX10_chosen 98 = .ok (.if_icmp .ge 27, 3) := by decide +kernel
theorem dX10_chosen_101 : decode cX10_chosen 101 = .ok (.iload_n 1, 1) := by decide +kernel
theorem dX10_chosen_102 : decode cX10_chosen 102 = .ok (.ifCond .ge 23, 3) := by decide +kernel
theorem dX10_chosen_105 : decode cX10_chosen 105 = .ok (.aload_n 0, 1) := by decide +kernel
theorem dX10_chosen_106 : decode cX10_chosen 106 = .ok (.iload_n 2, 1) := by decide +kernel
theorem dX10_chosen_107 : decode cX10_chosen 107 = .ok (.invokevirtual 290, 3) := by decide +kernel
theorem dX10_chosen_110 : decode cX10_chosen 110 = .ok (.ifCond .eq 7, 3) := by decide +kernel
theorem dX10_chosen_113 : decode cX10_chosen 113 = .ok (.iload_n 2, 1) := by decide +kernel
theorem dX10_chosen_114 : decode cX10_chosen 114 = .ok (.goto 4, 3) := by decide +kernel
theorem dX10_chosen_117 : decode cX10_chosen 117 = .ok (.iload_n 1, 1) := by decide +kernel
theorem dX10_chosen_118 : decode cX10_chosen 118 = .ok (.istore_n 1, 1) := by decide +kernel
theorem dX10_chosen_119 : decode cX10_chosen 119 = .ok (.iinc 2 1, 3) := by decide +kernel
theorem dX10_chosen_122 : decode cX10_chosen 122 = .ok (.goto (-29), 3) := by decide +kernel
theorem dX10_chosen_125 : decode cX10_chosen 125 = .ok (.iload_n 1, 1) := by decide +kernel
theorem dX10_chosen_126 : decode cX10_chosen 126 = .ok (.ireturn, 1) := by decide +kernel
theorem dX10_isLongest_0 : decode cX10_isLongest 0 = .ok (.iconst 1, 1) := by decide +kernel
theorem dX10_isLongest_1 : decode cX10_isLongest 1 = .ok (.istore_n 2, 1) := by decide +kernel
theorem dX10_isLongest_2 : decode cX10_isLongest 2 = .ok (.iconst 0, 1) := by decide +kernel
theorem dX10_isLongest_3 : decode cX10_isLongest 3 = .ok (.istore_n 3, 1) := by decide +kernel
theorem dX10_isLongest_4 : decode cX10_isLongest 4 = .ok (.iload_n 3, 1) := by decide +kernel
theorem dX10_isLongest_5 : decode cX10_isLongest 5 = .ok (.aload_n 0, 1) := by decide +kernel
theorem dX10_isLongest_6 : decode cX10_isLongest 6 = .ok (.getfield 254, 3) := by decide +kernel
theorem dX10_isLongest_9 : decode cX10_isLongest 9 = .ok (.if_icmp .ge 42, 3) := by decide +kernel
theorem dX10_isLongest_12 : decode cX10_isLongest 12 = .ok (.iload_n 2, 1) := by decide +kernel
theorem dX10_isLongest_13 : decode cX10_isLongest 13 = .ok (.ifCond .eq 30, 3) := by decide +kernel
theorem dX10_isLongest_16 : decode cX10_isLongest 16 = .ok (.aload_n 0, 1) := by decide +kernel
theorem dX10_isLongest_17 : decode cX10_isLongest 17 = .ok (.aload_n 0, 1) := by decide +kernel
theorem dX10_isLongest_18 : decode cX10_isLongest 18 = .ok (.getfield 68, 3) := by decide +kernel
theorem dX10_isLongest_21 : decode cX10_isLongest 21 = .ok (.iload_n 3, 1) := by decide +kernel
theorem dX10_isLongest_22 : decode cX10_isLongest 22 = .ok (.iaload, 1) := by decide +kernel
theorem dX10_isLongest_23 : decode cX10_isLongest 23 = .ok (.invokevirtual 275, 3) := by decide +kernel
theorem dX10_isLongest_26 : decode cX10_isLongest 26 = .ok (.aload_n 0, 1) := by decide +kernel
theorem dX10_isLongest_27 : decode cX10_isLongest 27 = .ok (.aload_n 0, 1) := by decide +kernel
theorem dX10_isLongest_28 : decode cX10_isLongest 28 = .ok (.getfield 68, 3) := by decide +kernel
theorem dX10_isLongest_31 : decode cX10_isLongest 31 = .ok (.iload_n 1, 1) := by decide +kernel
theorem dX10_isLongest_32 : decode cX10_isLongest 32 = .ok (.iaload, 1) := by decide +kernel
theorem dX10_isLongest_33 : decode cX10_isLongest 33 = .ok (.invokevirtual 275, 3) := by decide +kernel
theorem dX10_isLongest_36 : decode cX10_isLongest 36 = .ok (.if_icmp .lt 7, 3) := by decide +kernel
theorem dX10_isLongest_39 : decode cX10_isLongest 39 = .ok (.iconst 1, 1) := by decide +kernel
theorem dX10_isLongest_40 : decode cX10_isLongest 40 = .ok (.goto 4, 3) := by decide +kernel
theorem dX10_isLongest_43 : decode cX10_isLongest 43 = .ok (.iconst 0, 1) := by decide +kernel
theorem dX10_isLongest_44 : decode cX10_isLongest 44 = .ok (.istore_n 2, 1) := by decide +kernel
theorem dX10_isLongest_45 : decode cX10_isLongest 45 = .ok (.iinc 3 1, 3) := by decide +kernel
theorem dX10_isLongest_48 : decode cX10_isLongest 48 = .ok (.goto (-44), 3) := by decide +kernel
theorem dX10_isLongest_51 : decode cX10_isLongest 51 = .ok (.iload_n 2, 1) := by decide +kernel
theorem dX10_isLongest_52 : decode cX10_isLongest 52 = .ok (.ireturn, 1) := by decide +kernel
theorem dX10_steps_0 : decode cX10_steps 0 = .ok (.aload_n 0, 1) := by decide +kernel
theorem dX10_steps_1 : decode cX10_steps 1 = .ok (.invokevirtual 191, 3) := by decide +kernel
theorem dX10_steps_4 : decode cX10_steps 4 = .ok (.istore_n 1, 1) := by decide +kernel
theorem dX10_steps_5 : decode cX10_steps 5 = .ok (.aload_n 0, 1) := by decide +kernel
theorem dX10_steps_6 : decode cX10_steps 6 = .ok (.aload_n 0, 1) := by decide +kernel
theorem dX10_steps_7 : decode cX10_steps 7 = .ok (.getfield 195, 3) := by decide +kernel
theorem dX10_steps_10 : decode cX10_steps 10 = .ok (.invokevirtual 293, 3) := by decide +kernel
theorem dX10_steps_13 : decode cX10_steps 13 = .ok (.aload_n 0, 1) := by decide +kernel
theorem dX10_steps_14 : decode cX10_steps 14 = .ok (.invokevirtual 269, 3) := by decide +kernel
theorem dX10_steps_17 : decode cX10_steps 17 = .ok (.aload_n 0, 1) := by decide +kernel
theorem dX10_steps_18 : decode cX10_steps 18 = .ok (.invokevirtual 296, 3) := by decide +kernel
theorem dX10_steps_21 : decode cX10_steps 21 = .ok (.istore_n 2, 1) := by decide +kernel
theorem dX10_steps_22 : decode cX10_steps 22 = .ok (.iload_n 2, 1) := by decide +kernel
theorem dX10_steps_23 : decode cX10_steps 23 = .ok (.ifCond .lt 7, 3) := by decide +kernel
theorem dX10_steps_26 : decode cX10_steps 26 = .ok (.iload_n 1, 1) := by decide +kernel
theorem dX10_steps_27 : decode cX10_steps 27 = .ok (.ifCond .ne 5, 3) := by decide +kernel
