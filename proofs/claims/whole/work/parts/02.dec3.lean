theorem dX6_rank_0 : decode cX6_rank 0 = .ok (.iload_n 0, 1) := by decide +kernel
theorem dX6_rank_1 : decode cX6_rank 1 = .ok (.bipush 124, 2) := by decide +kernel
theorem dX6_rank_3 : decode cX6_rank 3 = .ok (.if_icmp .eq 9, 3) := by decide +kernel
theorem dX6_rank_6 : decode cX6_rank 6 = .ok (.iload_n 0, 1) := by decide +kernel
theorem dX6_rank_7 : decode cX6_rank 7 = .ok (.bipush 94, 2) := by decide +kernel
theorem dX6_rank_9 : decode cX6_rank 9 = .ok (.if_icmp .ne 7, 3) := by decide +kernel
theorem dX6_rank_12 : decode cX6_rank 12 = .ok (.iconst 1, 1) := by decide +kernel
theorem dX6_rank_13 : decode cX6_rank 13 = .ok (.goto 20, 3) := by decide +kernel
theorem dX6_rank_16 : decode cX6_rank 16 = .ok (.iload_n 0, 1) := by decide +kernel
theorem dX6_rank_17 : decode cX6_rank 17 = .ok (.bipush 38, 2) := by decide +kernel
theorem dX6_rank_19 : decode cX6_rank 19 = .ok (.if_icmp .eq 9, 3) := by decide +kernel
theorem dX6_rank_22 : decode cX6_rank 22 = .ok (.iload_n 0, 1) := by decide +kernel
theorem dX6_rank_23 : decode cX6_rank 23 = .ok (.bipush 45, 2) := by decide +kernel
theorem dX6_rank_25 : decode cX6_rank 25 = .ok (.if_icmp .ne 7, 3) := by decide +kernel
theorem dX6_rank_28 : decode cX6_rank 28 = .ok (.iconst 2, 1) := by decide +kernel
theorem dX6_rank_29 : decode cX6_rank 29 = .ok (.goto 4, 3) := by decide +kernel
theorem dX6_rank_32 : decode cX6_rank 32 = .ok (.iconst 0, 1) := by decide +kernel
theorem dX6_rank_33 : decode cX6_rank 33 = .ok (.ireturn, 1) := by decide +kernel
theorem dX6_operationOf_0 : decode cX6_operationOf 0 = .ok (.iload_n 0, 1) := by decide +kernel
theorem dX6_operationOf_1 : decode cX6_operationOf 1 = .ok (.bipush 38, 2) := by decide +kernel
theorem dX6_operationOf_3 : decode cX6_operationOf 3 = .ok (.if_icmp .ne 7, 3) := by decide +kernel
theorem dX6_operationOf_6 : decode cX6_operationOf 6 = .ok (.iconst 0, 1) := by decide +kernel
theorem dX6_operationOf_7 : decode cX6_operationOf 7 = .ok (.goto 24, 3) := by decide +kernel
theorem dX6_operationOf_10 : decode cX6_operationOf 10 = .ok (.iload_n 0, 1) := by decide +kernel
theorem dX6_operationOf_11 : decode cX6_operationOf 11 = .ok (.bipush 124, 2) := by decide +kernel
theorem dX6_operationOf_13 : decode cX6_operationOf 13 = .ok (.if_icmp .ne 7, 3) := by decide +kernel
theorem dX6_operationOf_16 : decode cX6_operationOf 16 = .ok (.iconst 1, 1) := by decide +kernel
theorem dX6_operationOf_17 : decode cX6_operationOf 17 = .ok (.goto 14, 3) := by decide +kernel
theorem dX6_operationOf_20 : decode cX6_operationOf 20 = .ok (.iload_n 0, 1) := by decide +kernel
theorem dX6_operationOf_21 : decode cX6_operationOf 21 = .ok (.bipush 45, 2) := by decide +kernel
theorem dX6_operationOf_23 : decode cX6_operationOf 23 = .ok (.if_icmp .ne 7, 3) := by decide +kernel
theorem dX6_operationOf_26 : decode cX6_operationOf 26 = .ok (.iconst 2, 1) := by decide +kernel
theorem dX6_operationOf_27 : decode cX6_operationOf 27 = .ok (.goto 4, 3) := by decide +kernel
theorem dX6_operationOf_30 : decode cX6_operationOf 30 = .ok (.iconst 3, 1) := by decide +kernel
theorem dX6_operationOf_31 : decode cX6_operationOf 31 = .ok (.ireturn, 1) := by decide +kernel
theorem dX6_doTo_0 : decode cX6_doTo 0 = .ok (.aload_n 0, 1) := by decide +kernel
theorem dX6_doTo_1 : decode cX6_doTo 1 = .ok (.invokevirtual 130, 3) := by decide +kernel
theorem dX6_doTo_4 : decode cX6_doTo 4 = .ok (.invokestatic 133, 3) := by decide +kernel
theorem dX6_doTo_7 : decode cX6_doTo 7 = .ok (.iload_n 1, 1) := by decide +kernel
theorem dX6_doTo_8 : decode cX6_doTo 8 = .ok (.if_icmp .lt 61, 3) := by decide +kernel
theorem dX6_doTo_11 : decode cX6_doTo 11 = .ok (.aload_n 0, 1) := by decide +kernel
theorem dX6_doTo_12 : decode cX6_doTo 12 = .ok (.invokevirtual 136, 3) := by decide +kernel
theorem dX6_doTo_15 : decode cX6_doTo 15 = .ok (.istore_n 2, 1) := by decide +kernel
theorem dX6_doTo_16 : decode cX6_doTo 16 = .ok (.aload_n 0, 1) := by decide +kernel
theorem dX6_doTo_17 : decode cX6_doTo 17 = .ok (.dup, 1) := by decide +kernel
theorem dX6_doTo_18 : decode cX6_doTo 18 = .ok (.getfield 139, 3) := by decide +kernel
theorem dX6_doTo_21 : decode cX6_doTo 21 = .ok (.iconst 1, 1) := by decide +kernel
theorem dX6_doTo_22 : decode cX6_doTo 22 = .ok (.isub, 1) := by decide +kernel
theorem dX6_doTo_23 : decode cX6_doTo 23 = .ok (.putfield 139, 3) := by decide +kernel
theorem dX6_doTo_26 : decode cX6_doTo 26 = .ok (.aload_n 0, 1) := by decide +kernel
theorem dX6_doTo_27 : decode cX6_doTo 27 = .ok (.getfield 142, 3) := by decide +kernel
theorem dX6_doTo_30 : decode cX6_doTo 30 = .ok (.ifCond .eq 36, 3) := by decide +kernel
theorem dX6_doTo_33 : decode cX6_doTo 33 = .ok (.aload_n 0, 1) := by decide +kernel
theorem dX6_doTo_34 : decode cX6_doTo 34 = .ok (.iload_n 2, 1) := by decide +kernel
theorem dX6_doTo_35 : decode cX6_doTo 35 = .ok (.invokestatic 146, 3) := by decide +kernel
theorem dX6_doTo_38 : decode cX6_doTo 38 = .ok (.aload_n 0, 1) := by decide +kernel
theorem dX6_doTo_39 : decode cX6_doTo 39 = .ok (.getfield 139, 3) := by decide +kernel
theorem dX6_doTo_42 : decode cX6_doTo 42 = .ok (.iconst 1, 1) := by decide +kernel
theorem dX6_doTo_43 : decode cX6_doTo 43 = .ok (.isub, 1) := by decide +kernel
theorem dX6_doTo_44 : decode cX6_doTo 44 = .ok (.invokestatic 54, 3) := by decide +kernel
theorem dX6_doTo_47 : decode cX6_doTo 47 = .ok (.aload_n 0, 1) := by decide +kernel
theorem dX6_doTo_48 : decode cX6_doTo 48 = .ok (.getfield 139, 3) := by decide +kernel
theorem dX6_doTo_51 : decode cX6_doTo 51 = .ok (.invokestatic 54, 3) := by decide +kernel
theorem dX6_doTo_54 : decode cX6_doTo 54 = .ok (.aload_n 0, 1) := by decide +kernel
theorem dX6_doTo_55 : decode cX6_doTo 55 = .ok (.getfield 139, 3) := by decide +kernel
theorem dX6_doTo_58 : decode cX6_doTo 58 = .ok (.iconst 1, 1) := by decide +kernel
theorem dX6_doTo_59 : decode cX6_doTo 59 = .ok (.isub, 1) := by decide +kernel
theorem dX6_doTo_60 : decode cX6_doTo 60 = .ok (.invokestatic 54, 3) := by decide +kernel
theorem dX6_doTo_63 : decode cX6_doTo 63 = .ok (.invokevirtual 91, 3) := by decide +kernel
theorem dX6_doTo_66 : decode cX6_doTo 66 = .ok (.goto (-66), 3) := by decide +kernel
theorem dX6_doTo_69 : decode cX6_doTo 69 = .ok (.return_, 1) := by decide +kernel
theorem dX6_closeFactor_0 : decode cX6_closeFactor 0 = .ok (.aload_n 0, 1) := by decide +kernel
theorem dX6_closeFactor_1 : decode cX6_closeFactor 1 = .ok (.invokevirtual 130, 3) := by decide +kernel
theorem dX6_closeFactor_4 : decode cX6_closeFactor 4 = .ok (.bipush 126, 2) := by decide +kernel
theorem dX6_closeFactor_6 : decode cX6_closeFactor 6 = .ok (.if_icmp .ne 31, 3) := by decide +kernel
theorem dX6_closeFactor_9 : decode cX6_closeFactor 9 = .ok (.aload_n 0, 1) := by decide +kernel
theorem dX6_closeFactor_10 : decode cX6_closeFactor 10 = .ok (.invokevirtual 136, 3) := by decide +kernel
theorem dX6_closeFactor_13 : decode cX6_closeFactor 13 = .ok (.pop, 1) := by decide +kernel
theorem dX6_closeFactor_14 : decode cX6_closeFactor 14 = .ok (.aload_n 0, 1) := by decide +kernel
theorem dX6_closeFactor_15 : decode cX6_closeFactor 15 = .ok (.getfield 142, 3) := by decide +kernel
theorem dX6_closeFactor_18 : decode cX6_closeFactor 18 = .ok (.ifCond .eq (-18), 3) := by decide +kernel
theorem dX6_closeFactor_21 : decode cX6_closeFactor 21 = .ok (.aload_n 0, 1) := by decide +kernel
theorem dX6_closeFactor_22 : decode cX6_closeFactor 22 = .ok (.aload_n 0, 1) := by decide +kernel
theorem dX6_closeFactor_23 : decode cX6_closeFactor 23 = .ok (.getfield 139, 3) := by decide +kernel
theorem dX6_closeFactor_26 : decode cX6_closeFactor 26 = .ok (.iconst 1, 1) := by decide +kernel
theorem dX6_closeFactor_27 : decode cX6_closeFactor 27 = .ok (.isub, 1) := by decide +kernel
theorem dX6_closeFactor_28 : decode cX6_closeFactor 28 = .ok (.invokestatic 54, 3) := by decide +kernel
theorem dX6_closeFactor_31 : decode cX6_closeFactor 31 = .ok (.invokevirtual 95, 3) := by decide +kernel
theorem dX6_closeFactor_34 : decode cX6_closeFactor 34 = .ok (.goto (-34), 3) := by decide +kernel
theorem dX6_closeFactor_37 : decode cX6_closeFactor 37 = .ok (.return_, 1) := by decide +kernel
theorem dX6_readsRow_0 : decode cX6_readsRow 0 = .ok (.aload_n 0, 1) := by decide +kernel
theorem dX6_readsRow_1 : decode cX6_readsRow 1 = .ok (.getfield 108, 3) := by decide +kernel
theorem dX6_readsRow_4 : decode cX6_readsRow 4 = .ok (.istore_n 1, 1) := by decide +kernel
theorem dX6_readsRow_5 : decode cX6_readsRow 5 = .ok (.aload_n 0, 1) := by decide +kernel
theorem dX6_readsRow_6 : decode cX6_readsRow 6 = .ok (.invokevirtual 149, 3) := by decide +kernel
theorem dX6_readsRow_9 : decode cX6_readsRow 9 = .ok (.ifCond .ne 5, 3) := by decide +kernel
theorem dX6_readsRow_12 : decode cX6_readsRow 12 = .ok (.iconst 0, 1) := by decide +kernel
theorem dX6_readsRow_13 : decode cX6_readsRow 13 = .ok (.ireturn, 1) := by decide +kernel
theorem dX6_readsRow_14 : decode cX6_readsRow 14 = .ok (.aload_n 0, 1) := by decide +kernel
theorem dX6_readsRow_15 : decode cX6_readsRow 15 = .ok (.aload_n 0, 1) := by decide +kernel
theorem dX6_readsRow_16 : decode cX6_readsRow 16 = .ok (.aload_n 0, 1) := by decide +kernel
theorem dX6_readsRow_17 : decode cX6_readsRow 17 = .ok (.getfield 124, 3) := by decide +kernel
theorem dX6_readsRow_20 : decode cX6_readsRow 20 = .ok (.invokevirtual 74, 3) := by decide +kernel
theorem dX6_readsRow_23 : decode cX6_readsRow 23 = .ok (.ifCond .ne 7, 3) := by decide +kernel
theorem dX6_readsRow_26 : decode cX6_readsRow 26 = .ok (.iconst 1, 1) := by decide +kernel
theorem dX6_readsRow_27 : decode cX6_readsRow 27 = .ok (.goto 4, 3) := by decide +kernel
theorem dX6_readsRow_30 : decode cX6_readsRow 30 = .ok (.iconst 0, 1) := by decide +kernel
theorem dX6_readsRow_31 : decode cX6_readsRow 31 = .ok (.iload_n 1, 1) := by decide +kernel
theorem dX6_readsRow_32 : decode cX6_readsRow 32 = .ok (.invokevirtual 153, 3) := by decide +kernel
theorem dX6_readsRow_35 : decode cX6_readsRow 35 = .ok (.aload_n 0, 1) := by decide +kernel
theorem dX6_readsRow_36 : decode cX6_readsRow 36 = .ok (.getfield 142, 3) := by decide +kernel
theorem dX6_readsRow_39 : decode cX6_readsRow 39 = .ok (.ifCond .eq 21, 3) := by decide +kernel
theorem dX6_readsRow_42 : decode cX6_readsRow 42 = .ok (.aload_n 0, 1) := by decide +kernel
theorem dX6_readsRow_43 : decode cX6_readsRow 43 = .ok (.aload_n 0, 1) := by decide +kernel
theorem dX6_readsRow_44 : decode cX6_readsRow 44 = .ok (.getfield 124, 3) := by decide +kernel
theorem dX6_readsRow_47 : decode cX6_readsRow 47 = .ok (.invokestatic 71, 3) := by decide +kernel
theorem dX6_readsRow_50 : decode cX6_readsRow 50 = .ok (.aload_n 0, 1) := by decide +kernel
theorem dX6_readsRow_51 : decode cX6_readsRow 51 = .ok (.getfield 139, 3) := by decide +kernel
theorem dX6_readsRow_54 : decode cX6_readsRow 54 = .ok (.invokestatic 54, 3) := by decide +kernel
theorem dX6_readsRow_57 : decode cX6_readsRow 57 = .ok (.invokevirtual 65, 3) := by decide +kernel
theorem dX6_readsRow_60 : decode cX6_readsRow 60 = .ok (.aload_n 0, 1) := by decide +kernel
theorem dX6_readsRow_61 : decode cX6_readsRow 61 = .ok (.dup, 1) := by decide +kernel
theorem dX6_readsRow_62 : decode cX6_readsRow 62 = .ok (.getfield 139, 3) := by decide +kernel
theorem dX6_readsRow_65 : decode cX6_readsRow 65 = .ok (.iconst 1, 1) := by decide +kernel
theorem dX6_readsRow_66 : decode cX6_readsRow 66 = .ok (.iadd, 1) := by decide +kernel
theorem dX6_readsRow_67 : decode cX6_readsRow 67 = .ok (.putfield 139, 3) := by decide +kernel
theorem dX6_readsRow_70 : decode cX6_readsRow 70 = .ok (.aload_n 0, 1) := by decide +kernel
theorem dX6_readsRow_71 : decode cX6_readsRow 71 = .ok (.invokevirtual 120, 3) := by decide +kernel
theorem dX6_readsRow_74 : decode cX6_readsRow 74 = .ok (.istore_n 2, 1) := by decide +kernel
theorem dX6_readsRow_75 : decode cX6_readsRow 75 = .ok (.iload_n 2, 1) := by decide +kernel
theorem dX6_readsRow_76 : decode cX6_readsRow 76 = .ok (.bipush 60, 2) := by decide +kernel
theorem dX6_readsRow_78 : decode cX6_readsRow 78 = .ok (.if_icmp .eq 9, 3) := by decide +kernel
theorem dX6_readsRow_81 : decode cX6_readsRow 81 = .ok (.iload_n 2, 1) := by decide +kernel
theorem dX6_readsRow_82 : decode cX6_readsRow 82 = .ok (.bipush 62, 2) := by decide +kernel
theorem dX6_readsRow_84 : decode cX6_readsRow 84 = .ok (.if_icmp .ne 90, 3) := by decide +kernel
theorem dX6_readsRow_87 : decode cX6_readsRow 87 = .ok (.aload_n 0, 1) := by decide +kernel
theorem dX6_readsRow_88 : decode cX6_readsRow 88 = .ok (.dup, 1) := by decide +kernel
theorem dX6_readsRow_89 : decode cX6_readsRow 89 = .ok (.getfield 108, 3) := by decide +kernel
theorem dX6_readsRow_92 : decode cX6_readsRow 92 = .ok (.iconst 1, 1) := by decide +kernel
theorem dX6_readsRow_93 : decode cX6_readsRow 93 = .ok (.iadd, 1) := by decide +kernel
theorem dX6_readsRow_94 : decode cX6_readsRow 94 = .ok (.putfield 108, 3) := by decide +kernel
theorem dX6_readsRow_97 : decode cX6_readsRow 97 = .ok (.aload_n 0, 1) := by decide +kernel
theorem dX6_readsRow_98 : decode cX6_readsRow 98 = .ok (.invokevirtual 120, 3) := by decide +kernel
theorem dX6_readsRow_101 : decode cX6_readsRow 101 = .ok (.pop, 1) := by decide +kernel
theorem dX6_readsRow_102 : decode cX6_readsRow 102 = .ok (.aload_n 0, 1) := by decide +kernel
theorem dX6_readsRow_103 : decode cX6_readsRow 103 = .ok (.getfield 108, 3) := by decide +kernel
theorem dX6_readsRow_106 : decode cX6_readsRow 106 = .ok (.istore_n 1, 1) := by decide +kernel
theorem dX6_readsRow_107 : decode cX6_readsRow 107 = .ok (.aload_n 0, 1) := by decide +kernel
theorem dX6_readsRow_108 : decode cX6_readsRow 108 = .ok (.invokevirtual 149, 3) := by decide +kernel
theorem dX6_readsRow_111 : decode cX6_readsRow 111 = .ok (.ifCond .ne 5, 3) := by decide +kernel
theorem dX6_readsRow_114 : decode cX6_readsRow 114 = .ok (.iconst 0, 1) := by decide +kernel
theorem dX6_readsRow_115 : decode cX6_readsRow 115 = .ok (.ireturn, 1) := by decide +kernel
theorem dX6_readsRow_116 : decode cX6_readsRow 116 = .ok (.aload_n 0, 1) := by decide +kernel
theorem dX6_readsRow_117 : decode cX6_readsRow 117 = .ok (.aload_n 0, 1) := by decide +kernel
theorem dX6_readsRow_118 : decode cX6_readsRow 118 = .ok (.getfield 124, 3) := by decide +kernel
theorem dX6_readsRow_121 : decode cX6_readsRow 121 = .ok (.sipush 600, 3) := by decide +kernel
theorem dX6_readsRow_124 : decode cX6_readsRow 124 = .ok (.if_icmp .le 7, 3) := by decide +kernel
theorem dX6_readsRow_127 : decode cX6_readsRow 127 = .ok (.iconst 1, 1) := by decide +kernel
theorem dX6_readsRow_128 : decode cX6_readsRow 128 = .ok (.goto 4, 3) := by decide +kernel
theorem dX6_readsRow_131 : decode cX6_readsRow 131 = .ok (.iconst 0, 1) := by decide +kernel
theorem dX6_readsRow_132 : decode cX6_readsRow 132 = .ok (.iload_n 1, 1) := by decide +kernel
theorem dX6_readsRow_133 : decode cX6_readsRow 133 = .ok (.invokevirtual 153, 3) := by decide +kernel
theorem dX6_readsRow_136 : decode cX6_readsRow 136 = .ok (.aload_n 0, 1) := by decide +kernel
theorem dX6_readsRow_137 : decode cX6_readsRow 137 = .ok (.getfield 142, 3) := by decide +kernel
theorem dX6_readsRow_140 : decode cX6_readsRow 140 = .ok (.ifCond .eq 34, 3) := by decide +kernel
theorem dX6_readsRow_143 : decode cX6_readsRow 143 = .ok (.aload_n 0, 1) := by decide +kernel
theorem dX6_readsRow_144 : decode cX6_readsRow 144 = .ok (.aload_n 0, 1) := by decide +kernel
theorem dX6_readsRow_145 : decode cX6_readsRow 145 = .ok (.getfield 139, 3) := by decide +kernel
theorem dX6_readsRow_148 : decode cX6_readsRow 148 = .ok (.iconst 1, 1) := by decide +kernel
theorem dX6_readsRow_149 : decode cX6_readsRow 149 = .ok (.isub, 1) := by decide +kernel
theorem dX6_readsRow_150 : decode cX6_readsRow 150 = .ok (.invokestatic 54, 3) := by decide +kernel
theorem dX6_readsRow_153 : decode cX6_readsRow 153 = .ok (.iload_n 2, 1) := by decide +kernel
theorem dX6_readsRow_154 : decode cX6_readsRow 154 = .ok (.bipush 60, 2) := by decide +kernel
theorem dX6_readsRow_156 : decode cX6_readsRow 156 = .ok (.if_icmp .ne 10, 3) := by decide +kernel
theorem dX6_readsRow_159 : decode cX6_readsRow 159 = .ok (.aload_n 0, 1) := by decide +kernel
theorem dX6_readsRow_160 : decode cX6_readsRow 160 = .ok (.getfield 124, 3) := by decide +kernel
theorem dX6_readsRow_163 : decode cX6_readsRow 163 = .ok (.goto 8, 3) := by decide +kernel
theorem dX6_readsRow_166 : decode cX6_readsRow 166 = .ok (.aload_n 0, 1) := by decide +kernel
theorem dX6_readsRow_167 : decode cX6_readsRow 167 = .ok (.getfield 124, 3) := by decide +kernel
theorem dX6_readsRow_170 : decode cX6_readsRow 170 = .ok (.ineg, 1) := by decide +kernel
theorem dX6_readsRow_171 : decode cX6_readsRow 171 = .ok (.invokevirtual 102, 3) := by decide +kernel
theorem dX6_readsRow_174 : decode cX6_readsRow 174 = .ok (.aload_n 0, 1) := by decide +kernel
theorem dX6_readsRow_175 : decode cX6_readsRow 175 = .ok (.invokevirtual 157, 3) := by decide +kernel
theorem dX6_readsRow_178 : decode cX6_readsRow 178 = .ok (.iconst 1, 1) := by decide +kernel
theorem dX6_readsRow_179 : decode cX6_readsRow 179 = .ok (.ireturn, 1) := by decide +kernel
theorem dX6_readsFactor_0 : decode cX6_readsFactor 0 = .ok (.aload_n 0, 1) := by decide +kernel
theorem dX6_readsFactor_1 : decode cX6_readsFactor 1 = .ok (.invokevirtual 120, 3) := by decide +kernel
theorem dX6_readsFactor_4 : decode cX6_readsFactor 4 = .ok (.istore_n 1, 1) := by decide +kernel
theorem dX6_readsFactor_5 : decode cX6_readsFactor 5 = .ok (.iload_n 1, 1) := by decide +kernel
theorem dX6_readsFactor_6 : decode cX6_readsFactor 6 = .ok (.bipush 40, 2) := by decide +kernel
theorem dX6_readsFactor_8 : decode cX6_readsFactor 8 = .ok (.if_icmp .eq 9, 3) := by decide +kernel
theorem dX6_readsFactor_11 : decode cX6_readsFactor 11 = .ok (.iload_n 1, 1) := by decide +kernel
theorem dX6_readsFactor_12 : decode cX6_readsFactor 12 = .ok (.bipush 126, 2) := by decide +kernel
theorem dX6_readsFactor_14 : decode cX6_readsFactor 14 = .ok (.if_icmp .ne 35, 3) := by decide +kernel
theorem dX6_readsFactor_17 : decode cX6_readsFactor 17 = .ok (.aload_n 0, 1) := by decide +kernel
theorem dX6_readsFactor_18 : decode cX6_readsFactor 18 = .ok (.getfield 114, 3) := by decide +kernel
theorem dX6_readsFactor_21 : decode cX6_readsFactor 21 = .ok (.bipush 8, 2) := by decide +kernel
theorem dX6_readsFactor_23 : decode cX6_readsFactor 23 = .ok (.if_icmp .ge 26, 3) := by decide +kernel
theorem dX6_readsFactor_26 : decode cX6_readsFactor 26 = .ok (.aload_n 0, 1) := by decide +kernel
theorem dX6_readsFactor_27 : decode cX6_readsFactor 27 = .ok (.iload_n 1, 1) := by decide +kernel
theorem dX6_readsFactor_28 : decode cX6_readsFactor 28 = .ok (.invokevirtual 160, 3) := by decide +kernel
theorem dX6_readsFactor_31 : decode cX6_readsFactor 31 = .ok (.aload_n 0, 1) := by decide +kernel
theorem dX6_readsFactor_32 : decode cX6_readsFactor 32 = .ok (.dup, 1) := by decide +kernel
theorem dX6_readsFactor_33 : decode cX6_readsFactor 33 = .ok (.getfield 108, 3) := by decide +kernel
theorem dX6_readsFactor_36 : decode cX6_readsFactor 36 = .ok (.iconst 1, 1) := by decide +kernel
theorem dX6_readsFactor_37 : decode cX6_readsFactor 37 = .ok (.iadd, 1) := by decide +kernel
theorem dX6_readsFactor_38 : decode cX6_readsFactor 38 = .ok (.putfield 108, 3) := by decide +kernel
theorem dX6_readsFactor_41 : decode cX6_readsFactor 41 = .ok (.aload_n 0, 1) := by decide +kernel
theorem dX6_readsFactor_42 : decode cX6_readsFactor 42 = .ok (.invokevirtual 120, 3) := by decide +kernel
theorem dX6_readsFactor_45 : decode cX6_readsFactor 45 = .ok (.istore_n 1, 1) := by decide +kernel
theorem dX6_readsFactor_46 : decode cX6_readsFactor 46 = .ok (.goto (-41), 3) := by decide +kernel
theorem dX6_readsFactor_49 : decode cX6_readsFactor 49 = .ok (.iload_n 1, 1) := by decide +kernel
theorem dX6_readsFactor_50 : decode cX6_readsFactor 50 = .ok (.bipush 48, 2) := by decide +kernel
theorem dX6_readsFactor_52 : decode cX6_readsFactor 52 = .ok (.bipush 57, 2) := by decide +kernel
theorem dX6_readsFactor_54 : decode cX6_readsFactor 54 = .ok (.invokestatic 31, 3) := by decide +kernel
theorem dX6_readsFactor_57 : decode cX6_readsFactor 57 = .ok (.ifCond .eq 14, 3) := by decide +kernel
theorem dX6_readsFactor_60 : decode cX6_readsFactor 60 = .ok (.aload_n 0, 1) := by decide +kernel
theorem dX6_readsFactor_61 : decode cX6_readsFactor 61 = .ok (.invokevirtual 162, 3) := by decide +kernel
theorem dX6_readsFactor_64 : decode cX6_readsFactor 64 = .ok (.ifCond .eq 7, 3) := by decide +kernel
theorem dX6_readsFactor_67 : decode cX6_readsFactor 67 = .ok (.iconst 1, 1) := by decide +kernel
theorem dX6_readsFactor_68 : decode cX6_readsFactor 68 = .ok (.goto 4, 3) := by decide +kernel
theorem dX6_readsFactor_71 : decode cX6_readsFactor 71 = .ok (.iconst 0, 1) := by decide +kernel
theorem dX6_readsFactor_72 : decode cX6_readsFactor 72 = .ok (.ireturn, 1) := by decide +kernel
theorem dX6_readsOn_0 : decode cX6_readsOn 0 = .ok (.aload_n 0, 1) := by decide +kernel
theorem dX6_readsOn_1 : decode cX6_readsOn 1 = .ok (.invokevirtual 120, 3) := by decide +kernel
theorem dX6_readsOn_4 : decode cX6_readsOn 4 = .ok (.istore_n 1, 1) := by decide +kernel
theorem dX6_readsOn_5 : decode cX6_readsOn 5 = .ok (.iload_n 1, 1) := by decide +kernel
theorem dX6_readsOn_6 : decode cX6_readsOn 6 = .ok (.bipush 41, 2) := by decide +kernel
theorem dX6_readsOn_8 : decode cX6_readsOn 8 = .ok (.if_icmp .ne 46, 3) := by decide +kernel
theorem dX6_readsOn_11 : decode cX6_readsOn 11 = .ok (.aload_n 0, 1) := by decide +kernel
theorem dX6_readsOn_12 : decode cX6_readsOn 12 = .ok (.iconst 1, 1) := by decide +kernel
theorem dX6_readsOn_13 : decode cX6_readsOn 13 = .ok (.invokevirtual 165, 3) := by decide +kernel
theorem dX6_readsOn_16 : decode cX6_readsOn 16 = .ok (.aload_n 0, 1) := by decide +kernel
theorem dX6_readsOn_17 : decode cX6_readsOn 17 = .ok (.invokevirtual 130, 3) := by decide +kernel
theorem dX6_readsOn_20 : decode cX6_readsOn 20 = .ok (.bipush 40, 2) := by decide +kernel
theorem dX6_readsOn_22 : decode cX6_readsOn 22 = .ok (.if_icmp .eq 5, 3) := by decide +kernel
theorem dX6_readsOn_25 : decode cX6_readsOn 25 = .ok (.iconst 0, 1) := by decide +kernel
theorem dX6_readsOn_26 : decode cX6_readsOn 26 = .ok (.ireturn, 1) := by decide +kernel
theorem dX6_readsOn_27 : decode cX6_readsOn 27 = .ok (.aload_n 0, 1) := by decide +kernel
theorem dX6_readsOn_28 : decode cX6_readsOn 28 = .ok (.invokevirtual 136, 3) := by decide +kernel
theorem dX6_readsOn_31 : decode cX6_readsOn 31 = .ok (.pop, 1) := by decide +kernel
theorem dX6_readsOn_32 : decode cX6_readsOn 32 = .ok (.aload_n 0, 1) := by decide +kernel
theorem dX6_readsOn_33 : decode cX6_readsOn 33 = .ok (.invokevirtual 157, 3) := by decide +kernel
theorem dX6_readsOn_36 : decode cX6_readsOn 36 = .ok (.aload_n 0, 1) := by decide +kernel
theorem dX6_readsOn_37 : decode cX6_readsOn 37 = .ok (.dup, 1) := by decide +kernel
theorem dX6_readsOn_38 : decode cX6_readsOn 38 = .ok (.getfield 108, 3) := by decide +kernel
theorem dX6_readsOn_41 : decode cX6_readsOn 41 = .ok (.iconst 1, 1) := by decide +kernel
theorem dX6_readsOn_42 : decode cX6_readsOn 42 = .ok (.iadd, 1) := by decide +kernel
theorem dX6_readsOn_43 : decode cX6_readsOn 43 = .ok (.putfield 108, 3) := by decide +kernel
theorem dX6_readsOn_46 : decode cX6_readsOn 46 = .ok (.aload_n 0, 1) := by decide +kernel
theorem dX6_readsOn_47 : decode cX6_readsOn 47 = .ok (.invokevirtual 120, 3) := by decide +kernel
theorem dX6_readsOn_50 : decode cX6_readsOn 50 = .ok (.istore_n 1, 1) := by decide +kernel
theorem dX6_readsOn_51 : decode cX6_readsOn 51 = .ok (.goto (-46), 3) := by decide +kernel
theorem dX6_readsOn_54 : decode cX6_readsOn 54 = .ok (.iload_n 1, 1) := by decide +kernel
theorem dX6_readsOn_55 : decode cX6_readsOn 55 = .ok (.invokestatic 133, 3) := by decide +kernel
theorem dX6_readsOn_58 : decode cX6_readsOn 58 = .ok (.ifCond .ne 5, 3) := by decide +kernel
theorem dX6_readsOn_61 : decode cX6_readsOn 61 = .ok (.iconst 0, 1) := by decide +kernel
theorem dX6_readsOn_62 : decode cX6_readsOn 62 = .ok (.ireturn, 1) := by decide +kernel
theorem dX6_readsOn_63 : decode cX6_readsOn 63 = .ok (.aload_n 0, 1) := by decide +kernel
theorem dX6_readsOn_64 : decode cX6_readsOn 64 = .ok (.iload_n 1, 1) := by decide +kernel
theorem dX6_readsOn_65 : decode cX6_readsOn 65 = .ok (.invokestatic 133, 3) := by decide +kernel
theorem dX6_readsOn_68 : decode cX6_readsOn 68 = .ok (.invokevirtual 165, 3) := by decide +kernel
theorem dX6_readsOn_71 : decode cX6_readsOn 71 = .ok (.aload_n 0, 1) := by decide +kernel
theorem dX6_readsOn_72 : decode cX6_readsOn 72 = .ok (.iload_n 1, 1) := by decide +kernel
theorem dX6_readsOn_73 : decode cX6_readsOn 73 = .ok (.invokevirtual 160, 3) := by decide +kernel
theorem dX6_readsOn_76 : decode cX6_readsOn 76 = .ok (.aload_n 0, 1) := by decide +kernel
theorem dX6_readsOn_77 : decode cX6_readsOn 77 = .ok (.dup, 1) := by decide +kernel
theorem dX6_readsOn_78 : decode cX6_readsOn 78 = .ok (.getfield 108, 3) := by decide +kernel
theorem dX6_readsOn_81 : decode cX6_readsOn 81 = .ok (.iconst 1, 1) := by decide +kernel
theorem dX6_readsOn_82 : decode cX6_readsOn 82 = .ok (.iadd, 1) := by decide +kernel
theorem dX6_readsOn_83 : decode cX6_readsOn 83 = .ok (.putfield 108, 3) := by decide +kernel
theorem dX6_readsOn_86 : decode cX6_readsOn 86 = .ok (.iconst 1, 1) := by decide +kernel
theorem dX6_readsOn_87 : decode cX6_readsOn 87 = .ok (.ireturn, 1) := by decide +kernel
theorem dX6_reads_0 : decode cX6_reads 0 = .ok (.aload_n 0, 1) := by decide +kernel
theorem dX6_reads_1 : decode cX6_reads 1 = .ok (.iload_n 1, 1) := by decide +kernel
theorem dX6_reads_2 : decode cX6_reads 2 = .ok (.putfield 142, 3) := by decide +kernel
theorem dX6_reads_5 : decode cX6_reads 5 = .ok (.aload_n 0, 1) := by decide +kernel
theorem dX6_reads_6 : decode cX6_reads 6 = .ok (.iconst 0, 1) := by decide +kernel
theorem dX6_reads_7 : decode cX6_reads 7 = .ok (.putfield 108, 3) := by decide +kernel
theorem dX6_reads_10 : decode cX6_reads 10 = .ok (.aload_n 0, 1) := by decide +kernel
theorem dX6_reads_11 : decode cX6_reads 11 = .ok (.iconst 0, 1) := by decide +kernel
theorem dX6_reads_12 : decode cX6_reads 12 = .ok (.putfield 127, 3) := by decide +kernel
theorem dX6_reads_15 : decode cX6_reads 15 = .ok (.aload_n 0, 1) := by decide +kernel
theorem dX6_reads_16 : decode cX6_reads 16 = .ok (.iconst 0, 1) := by decide +kernel
theorem dX6_reads_17 : decode cX6_reads 17 = .ok (.putfield 114, 3) := by decide +kernel
theorem dX6_reads_20 : decode cX6_reads 20 = .ok (.aload_n 0, 1) := by decide +kernel
theorem dX6_reads_21 : decode cX6_reads 21 = .ok (.iconst 0, 1) := by decide +kernel
theorem dX6_reads_22 : decode cX6_reads 22 = .ok (.putfield 139, 3) := by decide +kernel
theorem dX6_reads_25 : decode cX6_reads 25 = .ok (.aload_n 0, 1) := by decide +kernel
theorem dX6_reads_26 : decode cX6_reads 26 = .ok (.iconst (-1), 1) := by decide +kernel
theorem dX6_reads_27 : decode cX6_reads 27 = .ok (.putfield 111, 3) := by decide +kernel
theorem dX6_reads_30 : decode cX6_reads 30 = .ok (.aload_n 0, 1) := by decide +kernel
theorem dX6_reads_31 : decode cX6_reads 31 = .ok (.invokevirtual 168, 3) := by decide +kernel
theorem dX6_reads_34 : decode cX6_reads 34 = .ok (.istore_n 2, 1) := by decide +kernel
theorem dX6_reads_35 : decode cX6_reads 35 = .ok (.iload_n 2, 1) := by decide +kernel
theorem dX6_reads_36 : decode cX6_reads 36 = .ok (.ifCond .eq 18, 3) := by decide +kernel
theorem dX6_reads_39 : decode cX6_reads 39 = .ok (.aload_n 0, 1) := by decide +kernel
theorem dX6_reads_40 : decode cX6_reads 40 = .ok (.invokevirtual 171, 3) := by decide +kernel
theorem dX6_reads_43 : decode cX6_reads 43 = .ok (.ifCond .eq 11, 3) := by decide +kernel
theorem dX6_reads_46 : decode cX6_reads 46 = .ok (.aload_n 0, 1) := by decide +kernel
theorem dX6_reads_47 : decode cX6_reads 47 = .ok (.invokevirtual 168, 3) := by decide +kernel
theorem dX6_reads_50 : decode cX6_reads 50 = .ok (.istore_n 2, 1) := by decide +kernel
theorem dX6_reads_51 : decode cX6_reads 51 = .ok (.goto (-16), 3) := by decide +kernel
theorem dX6_reads_54 : decode cX6_reads 54 = .ok (.iload_n 2, 1) := by decide +kernel
theorem dX6_reads_55 : decode cX6_reads 55 = .ok (.ifCond .eq 14, 3) := by decide +kernel
theorem dX6_reads_58 : decode cX6_reads 58 = .ok (.aload_n 0, 1) := by decide +kernel
theorem dX6_reads_59 : decode cX6_reads 59 = .ok (.getfield 108, 3) := by decide +kernel
theorem dX6_reads_62 : decode cX6_reads 62 = .ok (.aload_n 0, 1) := by decide +kernel
theorem dX6_reads_63 : decode cX6_reads 63 = .ok (.getfield 105, 3) := by decide +kernel
theorem dX6_reads_66 : decode cX6_reads 66 = .ok (.if_icmp .ge 5, 3) := by decide +kernel
theorem dX6_reads_69 : decode cX6_reads 69 = .ok (.iconst 0, 1) := by decide +kernel
theorem dX6_reads_70 : decode cX6_reads 70 = .ok (.ireturn, 1) := by decide +kernel
theorem dX6_reads_71 : decode cX6_reads 71 = .ok (.aload_n 0, 1) := by decide +kernel
theorem dX6_reads_72 : decode cX6_reads 72 = .ok (.iconst 1, 1) := by decide +kernel
theorem dX6_reads_73 : decode cX6_reads 73 = .ok (.invokevirtual 165, 3) := by decide +kernel
theorem dX6_reads_76 : decode cX6_reads 76 = .ok (.aload_n 0, 1) := by decide +kernel
theorem dX6_reads_77 : decode cX6_reads 77 = .ok (.getfield 127, 3) := by decide +kernel
theorem dX6_reads_80 : decode cX6_reads 80 = .ok (.ifCond .ne 7, 3) := by decide +kernel
theorem dX6_reads_83 : decode cX6_reads 83 = .ok (.iconst 1, 1) := by decide +kernel
theorem dX6_reads_84 : decode cX6_reads 84 = .ok (.goto 4, 3) := by decide +kernel
theorem dX6_reads_87 : decode cX6_reads 87 = .ok (.iconst 0, 1) := by decide +kernel
theorem dX6_reads_88 : decode cX6_reads 88 = .ok (.ireturn, 1) := by decide +kernel
theorem dX6_fail_0 : decode cX6_fail 0 = .ok (.aload_n 0, 1) := by decide +kernel
theorem dX6_fail_1 : decode cX6_fail 1 = .ok (.iload_n 1, 1) := by decide +kernel
theorem dX6_fail_2 : decode cX6_fail 2 = .ok (.putfield 174, 3) := by decide +kernel
theorem dX6_fail_5 : decode cX6_fail 5 = .ok (.aload_n 0, 1) := by decide +kernel
theorem dX6_fail_6 : decode cX6_fail 6 = .ok (.iload_n 2, 1) := by decide +kernel
theorem dX6_fail_7 : decode cX6_fail 7 = .ok (.putfield 177, 3) := by decide +kernel
theorem dX6_fail_10 : decode cX6_fail 10 = .ok (.aload_n 0, 1) := by decide +kernel
theorem dX6_fail_11 : decode cX6_fail 11 = .ok (.iload_n 3, 1) := by decide +kernel
theorem dX6_fail_12 : decode cX6_fail 12 = .ok (.putfield 180, 3) := by decide +kernel
theorem dX6_fail_15 : decode cX6_fail 15 = .ok (.sipush (-1000), 3) := by decide +kernel
theorem dX6_fail_18 : decode cX6_fail 18 = .ok (.iload_n 2, 1) := by decide +kernel
theorem dX6_fail_19 : decode cX6_fail 19 = .ok (.isub, 1) := by decide +kernel
theorem dX6_fail_20 : decode cX6_fail 20 = .ok (.ireturn, 1) := by decide +kernel
theorem dX6_evaluate_0 : decode cX6_evaluate 0 = .ok (.aload_n 0, 1) := by decide +kernel
theorem dX6_evaluate_1 : decode cX6_evaluate 1 = .ok (.iload_n 1, 1) := by decide +kernel
theorem dX6_evaluate_2 : decode cX6_evaluate 2 = .ok (.invokevirtual 74, 3) := by decide +kernel
theorem dX6_evaluate_5 : decode cX6_evaluate 5 = .ok (.ifCond .ne 5, 3) := by decide +kernel
theorem dX6_evaluate_8 : decode cX6_evaluate 8 = .ok (.iconst (-1), 1) := by decide +kernel
theorem dX6_evaluate_9 : decode cX6_evaluate 9 = .ok (.ireturn, 1) := by decide +kernel
theorem dX6_evaluate_10 : decode cX6_evaluate 10 = .ok (.aload_n 0, 1) := by decide +kernel
theorem dX6_evaluate_11 : decode cX6_evaluate 11 = .ok (.iconst 0, 1) := by decide +kernel
theorem dX6_evaluate_12 : decode cX6_evaluate 12 = .ok (.invokevirtual 183, 3) := by decide +kernel
theorem dX6_evaluate_15 : decode cX6_evaluate 15 = .ok (.ifCond .ne 17, 3) := by decide +kernel
theorem dX6_evaluate_18 : decode cX6_evaluate 18 = .ok (.aload_n 0, 1) := by decide +kernel
theorem dX6_evaluate_19 : decode cX6_evaluate 19 = .ok (.iconst 1, 1) := by decide +kernel
theorem dX6_evaluate_20 : decode cX6_evaluate 20 = .ok (.aload_n 0, 1) := by decide +kernel
theorem dX6_evaluate_21 : decode cX6_evaluate 21 = .ok (.getfield 108, 3) := by decide +kernel
theorem dX6_evaluate_24 : decode cX6_evaluate 24 = .ok (.aload_n 0, 1) := by decide +kernel
theorem dX6_evaluate_25 : decode cX6_evaluate 25 = .ok (.getfield 114, 3) := by decide +kernel
theorem dX6_evaluate_28 : decode cX6_evaluate 28 = .ok (.invokevirtual 187, 3) := by decide +kernel
theorem dX6_evaluate_31 : decode cX6_evaluate 31 = .ok (.ireturn, 1) := by decide +kernel
theorem dX6_evaluate_32 : decode cX6_evaluate 32 = .ok (.aload_n 0, 1) := by decide +kernel
theorem dX6_evaluate_33 : decode cX6_evaluate 33 = .ok (.getfield 111, 3) := by decide +kernel
theorem dX6_evaluate_36 : decode cX6_evaluate 36 = .ok (.ifCond .lt 17, 3) := by decide +kernel
theorem dX6_evaluate_39 : decode cX6_evaluate 39 = .ok (.aload_n 0, 1) := by decide +kernel
theorem dX6_evaluate_40 : decode cX6_evaluate 40 = .ok (.iconst 2, 1) := by decide +kernel
theorem dX6_evaluate_41 : decode cX6_evaluate 41 = .ok (.aload_n 0, 1) := by decide +kernel
theorem dX6_evaluate_42 : decode cX6_evaluate 42 = .ok (.getfield 111, 3) := by decide +kernel
theorem dX6_evaluate_45 : decode cX6_evaluate 45 = .ok (.aload_n 0, 1) := by decide +kernel
theorem dX6_evaluate_46 : decode cX6_evaluate 46 = .ok (.getfield 117, 3) := by decide +kernel
theorem dX6_evaluate_49 : decode cX6_evaluate 49 = .ok (.invokevirtual 187, 3) := by decide +kernel
theorem dX6_evaluate_52 : decode cX6_evaluate 52 = .ok (.ireturn, 1) := by decide +kernel
theorem dX6_evaluate_53 : decode cX6_evaluate 53 = .ok (.aload_n 0, 1) := by decide +kernel
theorem dX6_evaluate_54 : decode cX6_evaluate 54 = .ok (.invokevirtual 68, 3) := by decide +kernel
theorem dX6_evaluate_57 : decode cX6_evaluate 57 = .ok (.aload_n 0, 1) := by decide +kernel
theorem dX6_evaluate_58 : decode cX6_evaluate 58 = .ok (.iconst 1, 1) := by decide +kernel
theorem dX6_evaluate_59 : decode cX6_evaluate 59 = .ok (.invokevirtual 183, 3) := by decide +kernel
theorem dX6_evaluate_62 : decode cX6_evaluate 62 = .ok (.pop, 1) := by decide +kernel
theorem dX6_evaluate_63 : decode cX6_evaluate 63 = .ok (.aload_n 0, 1) := by decide +kernel
theorem dX6_evaluate_64 : decode cX6_evaluate 64 = .ok (.iconst 0, 1) := by decide +kernel
theorem dX6_evaluate_65 : decode cX6_evaluate 65 = .ok (.invokestatic 54, 3) := by decide +kernel
theorem dX6_evaluate_68 : decode cX6_evaluate 68 = .ok (.iload_n 1, 1) := by decide +kernel
theorem dX6_evaluate_69 : decode cX6_evaluate 69 = .ok (.invokestatic 71, 3) := by decide +kernel
theorem dX6_evaluate_72 : decode cX6_evaluate 72 = .ok (.invokevirtual 65, 3) := by decide +kernel
theorem dX6_evaluate_75 : decode cX6_evaluate 75 = .ok (.aload_n 0, 1) := by decide +kernel
theorem dX6_evaluate_76 : decode cX6_evaluate 76 = .ok (.iload_n 1, 1) := by decide +kernel
theorem dX6_evaluate_77 : decode cX6_evaluate 77 = .ok (.invokestatic 71, 3) := by decide +kernel
theorem dX6_evaluate_80 : decode cX6_evaluate 80 = .ok (.iconst 3, 1) := by decide +kernel
theorem dX6_evaluate_81 : decode cX6_evaluate 81 = .ok (.invokevirtual 82, 3) := by decide +kernel
theorem dX6_evaluate_84 : decode cX6_evaluate 84 = .ok (.ireturn, 1) := by decide +kernel
theorem dX6_failure_0 : decode cX6_failure 0 = .ok (.iload_n 1, 1) := by decide +kernel
theorem dX6_failure_1 : decode cX6_failure 1 = .ok (.iconst 0, 1) := by decide +kernel
theorem dX6_failure_2 : decode cX6_failure 2 = .ok (.iconst 2, 1) := by decide +kernel
theorem dX6_failure_3 : decode cX6_failure 3 = .ok (.invokestatic 31, 3) := by decide +kernel
theorem dX6_failure_6 : decode cX6_failure 6 = .ok (.ifCond .ne 5, 3) := by decide +kernel
theorem dX6_failure_9 : decode cX6_failure 9 = .ok (.iconst (-1), 1) := by decide +kernel
theorem dX6_failure_10 : decode cX6_failure 10 = .ok (.ireturn, 1) := by decide +kernel
theorem dX6_failure_11 : decode cX6_failure 11 = .ok (.aload_n 0, 1) := by decide +kernel
theorem dX6_failure_12 : decode cX6_failure 12 = .ok (.getfield 174, 3) := by decide +kernel
theorem dX6_failure_15 : decode cX6_failure 15 = .ok (.ifCond .ne 8, 3) := by decide +kernel
theorem dX6_failure_18 : decode cX6_failure 18 = .ok (.bipush (-9), 2) := by decide +kernel
theorem dX6_failure_20 : decode cX6_failure 20 = .ok (.goto 30, 3) := by decide +kernel
theorem dX6_failure_23 : decode cX6_failure 23 = .ok (.iload_n 1, 1) := by decide +kernel
theorem dX6_failure_24 : decode cX6_failure 24 = .ok (.ifCond .ne 10, 3) := by decide +kernel
theorem dX6_failure_27 : decode cX6_failure 27 = .ok (.aload_n 0, 1) := by decide +kernel
theorem dX6_failure_28 : decode cX6_failure 28 = .ok (.getfield 174, 3) := by decide +kernel
theorem dX6_failure_31 : decode cX6_failure 31 = .ok (.goto 19, 3) := by decide +kernel
theorem dX6_failure_34 : decode cX6_failure 34 = .ok (.iload_n 1, 1) := by decide +kernel
theorem dX6_failure_35 : decode cX6_failure 35 = .ok (.iconst 1, 1) := by decide +kernel
theorem dX6_failure_36 : decode cX6_failure 36 = .ok (.if_icmp .ne 10, 3) := by decide +kernel
theorem dX6_failure_39 : decode cX6_failure 39 = .ok (.aload_n 0, 1) := by decide +kernel
theorem dX6_failure_40 : decode cX6_failure 40 = .ok (.getfield 177, 3) := by decide +kernel
theorem dX6_failure_43 : decode cX6_failure 43 = .ok (.goto 7, 3) := by decide +kernel
theorem dX6_failure_46 : decode cX6_failure 46 = .ok (.aload_n 0, 1) := by decide +kernel
theorem dX6_failure_47 : decode cX6_failure 47 = .ok (.getfield 180, 3) := by decide +kernel
theorem dX6_failure_50 : decode cX6_failure 50 = .ok (.ireturn, 1) := by decide +kernel
theorem dX6_count_0 : decode cX6_count 0 = .ok (.iconst 0, 1) := by decide +kernel
theorem dX6_count_1 : decode cX6_count 1 = .ok (.istore_n 2, 1) := by decide +kernel
theorem dX6_count_2 : decode cX6_count 2 = .ok (.iconst 0, 1) := by decide +kernel
theorem dX6_count_3 : decode cX6_count 3 = .ok (.istore_n 3, 1) := by decide +kernel
theorem dX6_count_4 : decode cX6_count 4 = .ok (.iconst 0, 1) := by decide +kernel
theorem dX6_count_5 : decode cX6_count 5 = .ok (.istore 4, 2) := by decide +kernel
theorem dX6_count_7 : decode cX6_count 7 = .ok (.iconst 0, 1) := by decide +kernel
theorem dX6_count_8 : decode cX6_count 8 = .ok (.istore 5, 2) := by decide +kernel
theorem dX6_count_10 : decode cX6_count 10 = .ok (.iload 5, 2) := by decide +kernel
theorem dX6_count_12 : decode cX6_count 12 = .ok (.aload_n 0, 1) := by decide +kernel
theorem dX6_count_13 : decode cX6_count 13 = .ok (.getfield 8, 3) := by decide +kernel
theorem dX6_count_16 : decode cX6_count 16 = .ok (.sipush 4808, 3) := by decide +kernel
theorem dX6_count_19 : decode cX6_count 19 = .ok (.iaload, 1) := by decide +kernel
theorem dX6_count_20 : decode cX6_count 20 = .ok (.if_icmp .ge 49, 3) := by decide +kernel
theorem dX6_count_23 : decode cX6_count 23 = .ok (.iload_n 2, 1) := by decide +kernel
theorem dX6_count_24 : decode cX6_count 24 = .ok (.aload_n 0, 1) := by decide +kernel
theorem dX6_count_25 : decode cX6_count 25 = .ok (.getfield 8, 3) := by decide +kernel
theorem dX6_count_28 : decode cX6_count 28 = .ok (.iload 5, 2) := by decide +kernel
theorem dX6_count_30 : decode cX6_count 30 = .ok (.invokestatic 71, 3) := by decide +kernel
theorem dX6_count_33 : decode cX6_count 33 = .ok (.iaload, 1) := by decide +kernel
theorem dX6_count_34 : decode cX6_count 34 = .ok (.iadd, 1) := by decide +kernel
theorem dX6_count_35 : decode cX6_count 35 = .ok (.istore_n 2, 1) := by decide +kernel
theorem dX6_count_36 : decode cX6_count 36 = .ok (.iload_n 3, 1) := by decide +kernel
theorem dX6_count_37 : decode cX6_count 37 = .ok (.aload_n 0, 1) := by decide +kernel
theorem dX6_count_38 : decode cX6_count 38 = .ok (.iload 5, 2) := by decide +kernel
theorem dX6_count_40 : decode cX6_count 40 = .ok (.invokestatic 71, 3) := by decide +kernel
theorem dX6_count_43 : decode cX6_count 43 = .ok (.iconst 3, 1) := by decide +kernel
theorem dX6_count_44 : decode cX6_count 44 = .ok (.invokevirtual 82, 3) := by decide +kernel
theorem dX6_count_47 : decode cX6_count 47 = .ok (.iadd, 1) := by decide +kernel
theorem dX6_count_48 : decode cX6_count 48 = .ok (.istore_n 3, 1) := by decide +kernel
theorem dX6_count_49 : decode cX6_count 49 = .ok (.iload 4, 2) := by decide +kernel
theorem dX6_count_51 : decode cX6_count 51 = .ok (.aload_n 0, 1) := by decide +kernel
theorem dX6_count_52 : decode cX6_count 52 = .ok (.iload 5, 2) := by decide +kernel
theorem dX6_count_54 : decode cX6_count 54 = .ok (.invokestatic 71, 3) := by decide +kernel
theorem dX6_count_57 : decode cX6_count 57 = .ok (.invokevirtual 99, 3) := by decide +kernel
theorem dX6_count_60 : decode cX6_count 60 = .ok (.iadd, 1) := by decide +kernel
theorem dX6_count_61 : decode cX6_count 61 = .ok (.istore 4, 2) := by decide +kernel
theorem dX6_count_63 : decode cX6_count 63 = .ok (.iinc 5 1, 3) := by decide +kernel
theorem dX6_count_66 : decode cX6_count 66 = .ok (.goto (-56), 3) := by decide +kernel
theorem dX6_count_69 : decode cX6_count 69 = .ok (.iload_n 1, 1) := by decide +kernel
theorem dX6_count_70 : decode cX6_count 70 = .ok (.tableswitch 64 0 5 #[38, 47, 49, 51, 54, 59], 38) := by decide +kernel
theorem dX6_count_108 : decode cX6_count 108 = .ok (.aload_n 0, 1) := by decide +kernel
theorem dX6_count_109 : decode cX6_count 109 = .ok (.getfield 8, 3) := by decide +kernel
theorem dX6_count_112 : decode cX6_count 112 = .ok (.sipush 4808, 3) := by decide +kernel
theorem dX6_count_115 : decode cX6_count 115 = .ok (.iaload, 1) := by decide +kernel
theorem dX6_count_116 : decode cX6_count 116 = .ok (.ireturn, 1) := by decide +kernel
theorem dX6_count_117 : decode cX6_count 117 = .ok (.iload_n 2, 1) := by decide +kernel
theorem dX6_count_118 : decode cX6_count 118 = .ok (.ireturn, 1) := by decide +kernel
theorem dX6_count_119 : decode cX6_count 119 = .ok (.iload_n 3, 1) := by decide +kernel
theorem dX6_count_120 : decode cX6_count 120 = .ok (.ireturn, 1) := by decide +kernel
theorem dX6_count_121 : decode cX6_count 121 = .ok (.iload 4, 2) := by decide +kernel
theorem dX6_count_123 : decode cX6_count 123 = .ok (.ireturn, 1) := by decide +kernel
theorem dX6_count_124 : decode cX6_count 124 = .ok (.aload_n 0, 1) := by decide +kernel
theorem dX6_count_125 : decode cX6_count 125 = .ok (.getfield 23, 3) := by decide +kernel
theorem dX6_count_128 : decode cX6_count 128 = .ok (.ireturn, 1) := by decide +kernel
theorem dX6_count_129 : decode cX6_count 129 = .ok (.aload_n 0, 1) := by decide +kernel
theorem dX6_count_130 : decode cX6_count 130 = .ok (.getfield 105, 3) := by decide +kernel
theorem dX6_count_133 : decode cX6_count 133 = .ok (.ireturn, 1) := by decide +kernel
theorem dX6_count_134 : decode cX6_count 134 = .ok (.iconst (-1), 1) := by decide +kernel
theorem dX6_count_135 : decode cX6_count 135 = .ok (.ireturn, 1) := by decide +kernel
theorem dX6_placeOf_0 : decode cX6_placeOf 0 = .ok (.iload_n 2, 1) := by decide +kernel
theorem dX6_placeOf_1 : decode cX6_placeOf 1 = .ok (.istore_n 3, 1) := by decide +kernel
theorem dX6_placeOf_2 : decode cX6_placeOf 2 = .ok (.iconst 0, 1) := by decide +kernel
theorem dX6_placeOf_3 : decode cX6_placeOf 3 = .ok (.istore 4, 2) := by decide +kernel
theorem dX6_placeOf_5 : decode cX6_placeOf 5 = .ok (.iload 4, 2) := by decide +kernel
theorem dX6_placeOf_7 : decode cX6_placeOf 7 = .ok (.aload_n 0, 1) := by decide +kernel
theorem dX6_placeOf_8 : decode cX6_placeOf 8 = .ok (.getfield 8, 3) := by decide +kernel
theorem dX6_placeOf_11 : decode cX6_placeOf 11 = .ok (.iload_n 1, 1) := by decide +kernel
theorem dX6_placeOf_12 : decode cX6_placeOf 12 = .ok (.iaload, 1) := by decide +kernel
theorem dX6_placeOf_13 : decode cX6_placeOf 13 = .ok (.if_icmp .ge 30, 3) := by decide +kernel
theorem dX6_placeOf_16 : decode cX6_placeOf 16 = .ok (.aload_n 0, 1) := by decide +kernel
theorem dX6_placeOf_17 : decode cX6_placeOf 17 = .ok (.iload_n 1, 1) := by decide +kernel
theorem dX6_placeOf_18 : decode cX6_placeOf 18 = .ok (.iload 4, 2) := by decide +kernel
theorem dX6_placeOf_20 : decode cX6_placeOf 20 = .ok (.invokevirtual 35, 3) := by decide +kernel
theorem dX6_placeOf_23 : decode cX6_placeOf 23 = .ok (.iconst 1, 1) := by decide +kernel
theorem dX6_placeOf_24 : decode cX6_placeOf 24 = .ok (.if_icmp .ne 13, 3) := by decide +kernel
theorem dX6_placeOf_27 : decode cX6_placeOf 27 = .ok (.iload_n 3, 1) := by decide +kernel
theorem dX6_placeOf_28 : decode cX6_placeOf 28 = .ok (.ifCond .ne 6, 3) := by decide +kernel
theorem dX6_placeOf_31 : decode cX6_placeOf 31 = .ok (.iload 4, 2) := by decide +kernel
theorem dX6_placeOf_33 : decode cX6_placeOf 33 = .ok (.ireturn, 1) := by decide +kernel
theorem dX6_placeOf_34 : decode cX6_placeOf 34 = .ok (.iinc 3 (-1), 3) := by decide +kernel
theorem dX6_placeOf_37 : decode cX6_placeOf 37 = .ok (.iinc 4 1, 3) := by decide +kernel
theorem dX6_placeOf_40 : decode cX6_placeOf 40 = .ok (.goto (-35), 3) := by decide +kernel
theorem dX6_placeOf_43 : decode cX6_placeOf 43 = .ok (.bipush (-9), 2) := by decide +kernel
theorem dX6_placeOf_45 : decode cX6_placeOf 45 = .ok (.ireturn, 1) := by decide +kernel
theorem dX6_row_0 : decode cX6_row 0 = .ok (.aload_n 0, 1) := by decide +kernel
theorem dX6_row_1 : decode cX6_row 1 = .ok (.iload_n 1, 1) := by decide +kernel
theorem dX6_row_2 : decode cX6_row 2 = .ok (.invokevirtual 74, 3) := by decide +kernel
theorem dX6_row_5 : decode cX6_row 5 = .ok (.ifCond .ne 5, 3) := by decide +kernel
theorem dX6_row_8 : decode cX6_row 8 = .ok (.iconst (-1), 1) := by decide +kernel
theorem dX6_row_9 : decode cX6_row 9 = .ok (.ireturn, 1) := by decide +kernel
theorem dX6_row_10 : decode cX6_row 10 = .ok (.iload_n 1, 1) := by decide +kernel
theorem dX6_row_11 : decode cX6_row 11 = .ok (.invokestatic 71, 3) := by decide +kernel
theorem dX6_row_14 : decode cX6_row 14 = .ok (.istore_n 3, 1) := by decide +kernel
theorem dX6_row_15 : decode cX6_row 15 = .ok (.iload_n 2, 1) := by decide +kernel
theorem dX6_row_16 : decode cX6_row 16 = .ok (.tableswitch 117 0 7 #[48, 55, 62, 69, 69, 78, 84, 91], 48) := by decide +kernel
theorem dX6_row_64 : decode cX6_row 64 = .ok (.aload_n 0, 1) := by decide +kernel
theorem dX6_row_65 : decode cX6_row 65 = .ok (.getfield 8, 3) := by decide +kernel
theorem dX6_row_68 : decode cX6_row 68 = .ok (.iload_n 3, 1) := by decide +kernel
theorem dX6_row_69 : decode cX6_row 69 = .ok (.iaload, 1) := by decide +kernel
theorem dX6_row_70 : decode cX6_row 70 = .ok (.ireturn, 1) := by decide +kernel
theorem dX6_row_71 : decode cX6_row 71 = .ok (.aload_n 0, 1) := by decide +kernel
theorem dX6_row_72 : decode cX6_row 72 = .ok (.iload_n 3, 1) := by decide +kernel
theorem dX6_row_73 : decode cX6_row 73 = .ok (.iconst 3, 1) := by decide +kernel
theorem dX6_row_74 : decode cX6_row 74 = .ok (.invokevirtual 82, 3) := by decide +kernel
theorem dX6_row_77 : decode cX6_row 77 = .ok (.ireturn, 1) := by decide +kernel
theorem dX6_row_78 : decode cX6_row 78 = .ok (.aload_n 0, 1) := by decide +kernel
theorem dX6_row_79 : decode cX6_row 79 = .ok (.iload_n 3, 1) := by decide +kernel
theorem dX6_row_80 : decode cX6_row 80 = .ok (.iconst 2, 1) := by decide +kernel
theorem dX6_row_81 : decode cX6_row 81 = .ok (.invokevirtual 82, 3) := by decide +kernel
theorem dX6_row_84 : decode cX6_row 84 = .ok (.ireturn, 1) := by decide +kernel
theorem dX6_row_85 : decode cX6_row 85 = .ok (.aload_n 0, 1) := by decide +kernel
theorem dX6_row_86 : decode cX6_row 86 = .ok (.iload_n 3, 1) := by decide +kernel
theorem dX6_row_87 : decode cX6_row 87 = .ok (.iload_n 2, 1) := by decide +kernel
theorem dX6_row_88 : decode cX6_row 88 = .ok (.iconst 3, 1) := by decide +kernel
theorem dX6_row_89 : decode cX6_row 89 = .ok (.isub, 1) := by decide +kernel
theorem dX6_row_90 : decode cX6_row 90 = .ok (.invokevirtual 82, 3) := by decide +kernel
theorem dX6_row_93 : decode cX6_row 93 = .ok (.ireturn, 1) := by decide +kernel
theorem dX6_row_94 : decode cX6_row 94 = .ok (.aload_n 0, 1) := by decide +kernel
theorem dX6_row_95 : decode cX6_row 95 = .ok (.iload_n 3, 1) := by decide +kernel
theorem dX6_row_96 : decode cX6_row 96 = .ok (.invokevirtual 99, 3) := by decide +kernel
theorem dX6_row_99 : decode cX6_row 99 = .ok (.ireturn, 1) := by decide +kernel
theorem dX6_row_100 : decode cX6_row 100 = .ok (.aload_n 0, 1) := by decide +kernel
theorem dX6_row_101 : decode cX6_row 101 = .ok (.iload_n 3, 1) := by decide +kernel
theorem dX6_row_102 : decode cX6_row 102 = .ok (.iconst 0, 1) := by decide +kernel
theorem dX6_row_103 : decode cX6_row 103 = .ok (.invokevirtual 190, 3) := by decide +kernel
theorem dX6_row_106 : decode cX6_row 106 = .ok (.ireturn, 1) := by decide +kernel
theorem dX6_row_107 : decode cX6_row 107 = .ok (.aload_n 0, 1) := by decide +kernel
theorem dX6_row_108 : decode cX6_row 108 = .ok (.iload_n 3, 1) := by decide +kernel
theorem dX6_row_109 : decode cX6_row 109 = .ok (.invokevirtual 99, 3) := by decide +kernel
theorem dX6_row_112 : decode cX6_row 112 = .ok (.ifCond .ne 8, 3) := by decide +kernel
theorem dX6_row_115 : decode cX6_row 115 = .ok (.bipush (-9), 2) := by decide +kernel
theorem dX6_row_117 : decode cX6_row 117 = .ok (.goto 15, 3) := by decide +kernel
theorem dX6_row_120 : decode cX6_row 120 = .ok (.aload_n 0, 1) := by decide +kernel
theorem dX6_row_121 : decode cX6_row 121 = .ok (.iload_n 3, 1) := by decide +kernel
theorem dX6_row_122 : decode cX6_row 122 = .ok (.aload_n 0, 1) := by decide +kernel
theorem dX6_row_123 : decode cX6_row 123 = .ok (.iload_n 3, 1) := by decide +kernel
theorem dX6_row_124 : decode cX6_row 124 = .ok (.invokevirtual 99, 3) := by decide +kernel
theorem dX6_row_127 : decode cX6_row 127 = .ok (.iconst 1, 1) := by decide +kernel
theorem dX6_row_128 : decode cX6_row 128 = .ok (.isub, 1) := by decide +kernel
theorem dX6_row_129 : decode cX6_row 129 = .ok (.invokevirtual 190, 3) := by decide +kernel
theorem dX6_row_132 : decode cX6_row 132 = .ok (.ireturn, 1) := by decide +kernel
theorem dX6_row_133 : decode cX6_row 133 = .ok (.iconst (-1), 1) := by decide +kernel
theorem dX6_row_134 : decode cX6_row 134 = .ok (.ireturn, 1) := by decide +kernel
theorem dX6_word_0 : decode cX6_word 0 = .ok (.aload_n 0, 1) := by decide +kernel
theorem dX6_word_1 : decode cX6_word 1 = .ok (.iload_n 1, 1) := by decide +kernel
theorem dX6_word_2 : decode cX6_word 2 = .ok (.invokevirtual 74, 3) := by decide +kernel
theorem dX6_word_5 : decode cX6_word 5 = .ok (.ifCond .eq 7, 3) := by decide +kernel
theorem dX6_word_8 : decode cX6_word 8 = .ok (.iload_n 2, 1) := by decide +kernel
theorem dX6_word_9 : decode cX6_word 9 = .ok (.ifCond .ge 5, 3) := by decide +kernel
theorem dX6_word_12 : decode cX6_word 12 = .ok (.iconst (-1), 1) := by decide +kernel
theorem dX6_word_13 : decode cX6_word 13 = .ok (.ireturn, 1) := by decide +kernel
theorem dX6_word_14 : decode cX6_word 14 = .ok (.iload_n 2, 1) := by decide +kernel
theorem dX6_word_15 : decode cX6_word 15 = .ok (.istore_n 3, 1) := by decide +kernel
theorem dX6_word_16 : decode cX6_word 16 = .ok (.iconst 0, 1) := by decide +kernel
theorem dX6_word_17 : decode cX6_word 17 = .ok (.istore 4, 2) := by decide +kernel
theorem dX6_word_19 : decode cX6_word 19 = .ok (.iload 4, 2) := by decide +kernel
theorem dX6_word_21 : decode cX6_word 21 = .ok (.aload_n 0, 1) := by decide +kernel
theorem dX6_word_22 : decode cX6_word 22 = .ok (.iload_n 1, 1) := by decide +kernel
theorem dX6_word_23 : decode cX6_word 23 = .ok (.invokestatic 71, 3) := by decide +kernel
theorem dX6_word_26 : decode cX6_word 26 = .ok (.invokevirtual 45, 3) := by decide +kernel
theorem dX6_word_29 : decode cX6_word 29 = .ok (.if_icmp .ge 36, 3) := by decide +kernel
theorem dX6_word_32 : decode cX6_word 32 = .ok (.iload_n 3, 1) := by decide +kernel
theorem dX6_word_33 : decode cX6_word 33 = .ok (.ifCond .ne 14, 3) := by decide +kernel
theorem dX6_word_36 : decode cX6_word 36 = .ok (.aload_n 0, 1) := by decide +kernel
theorem dX6_word_37 : decode cX6_word 37 = .ok (.iload_n 1, 1) := by decide +kernel
theorem dX6_word_38 : decode cX6_word 38 = .ok (.invokestatic 71, 3) := by decide +kernel
theorem dX6_word_41 : decode cX6_word 41 = .ok (.iload 4, 2) := by decide +kernel
theorem dX6_word_43 : decode cX6_word 43 = .ok (.invokevirtual 193, 3) := by decide +kernel
theorem dX6_word_46 : decode cX6_word 46 = .ok (.ireturn, 1) := by decide +kernel
theorem dX6_word_47 : decode cX6_word 47 = .ok (.iinc 3 (-1), 3) := by decide +kernel
theorem dX6_word_50 : decode cX6_word 50 = .ok (.aload_n 0, 1) := by decide +kernel
theorem dX6_word_51 : decode cX6_word 51 = .ok (.iload_n 1, 1) := by decide +kernel
theorem dX6_word_52 : decode cX6_word 52 = .ok (.invokestatic 71, 3) := by decide +kernel
theorem dX6_word_55 : decode cX6_word 55 = .ok (.iload 4, 2) := by decide +kernel
theorem dX6_word_57 : decode cX6_word 57 = .ok (.invokevirtual 49, 3) := by decide +kernel
theorem dX6_word_60 : decode cX6_word 60 = .ok (.istore 4, 2) := by decide +kernel
theorem dX6_word_62 : decode cX6_word 62 = .ok (.goto (-43), 3) := by decide +kernel
theorem dX6_word_65 : decode cX6_word 65 = .ok (.bipush (-9), 2) := by decide +kernel
theorem dX6_word_67 : decode cX6_word 67 = .ok (.ireturn, 1) := by decide +kernel
theorem dX6_bit_0 : decode cX6_bit 0 = .ok (.aload_n 0, 1) := by decide +kernel
theorem dX6_bit_1 : decode cX6_bit 1 = .ok (.iload_n 1, 1) := by decide +kernel
theorem dX6_bit_2 : decode cX6_bit 2 = .ok (.iload_n 2, 1) := by decide +kernel
theorem dX6_bit_3 : decode cX6_bit 3 = .ok (.iconst 0, 1) := by decide +kernel
theorem dX6_bit_4 : decode cX6_bit 4 = .ok (.invokevirtual 85, 3) := by decide +kernel
theorem dX6_bit_7 : decode cX6_bit 7 = .ok (.ifCond .eq 15, 3) := by decide +kernel
theorem dX6_bit_10 : decode cX6_bit 10 = .ok (.aload_n 0, 1) := by decide +kernel
theorem dX6_bit_11 : decode cX6_bit 11 = .ok (.iload_n 1, 1) := by decide +kernel
theorem dX6_bit_12 : decode cX6_bit 12 = .ok (.invokestatic 71, 3) := by decide +kernel
theorem dX6_bit_15 : decode cX6_bit 15 = .ok (.iload_n 2, 1) := by decide +kernel
theorem dX6_bit_16 : decode cX6_bit 16 = .ok (.invokevirtual 35, 3) := by decide +kernel
theorem dX6_bit_19 : decode cX6_bit 19 = .ok (.goto 4, 3) := by decide +kernel
theorem dX6_bit_22 : decode cX6_bit 22 = .ok (.iconst (-1), 1) := by decide +kernel
theorem dX6_bit_23 : decode cX6_bit 23 = .ok (.ireturn, 1) := by decide +kernel
theorem dX6_rank__0 : decode cX6_rank_ 0 = .ok (.aload_n 0, 1) := by decide +kernel
theorem dX6_rank__1 : decode cX6_rank_ 1 = .ok (.iload_n 1, 1) := by decide +kernel
theorem dX6_rank__2 : decode cX6_rank_ 2 = .ok (.iload_n 2, 1) := by decide +kernel
theorem dX6_rank__3 : decode cX6_rank_ 3 = .ok (.iconst 1, 1) := by decide +kernel
theorem dX6_rank__4 : decode cX6_rank_ 4 = .ok (.invokevirtual 85, 3) := by decide +kernel
theorem dX6_rank__7 : decode cX6_rank_ 7 = .ok (.ifCond .ne 5, 3) := by decide +kernel
theorem dX6_rank__10 : decode cX6_rank_ 10 = .ok (.iconst (-1), 1) := by decide +kernel
theorem dX6_rank__11 : decode cX6_rank_ 11 = .ok (.ireturn, 1) := by decide +kernel
theorem dX6_rank__12 : decode cX6_rank_ 12 = .ok (.iconst 0, 1) := by decide +kernel
theorem dX6_rank__13 : decode cX6_rank_ 13 = .ok (.istore_n 3, 1) := by decide +kernel
theorem dX6_rank__14 : decode cX6_rank_ 14 = .ok (.iconst 0, 1) := by decide +kernel
theorem dX6_rank__15 : decode cX6_rank_ 15 = .ok (.istore 4, 2) := by decide +kernel
theorem dX6_rank__17 : decode cX6_rank_ 17 = .ok (.iload 4, 2) := by decide +kernel
theorem dX6_rank__19 : decode cX6_rank_ 19 = .ok (.iload_n 2, 1) := by decide +kernel
theorem dX6_rank__20 : decode cX6_rank_ 20 = .ok (.if_icmp .ge 22, 3) := by decide +kernel
theorem dX6_rank__23 : decode cX6_rank_ 23 = .ok (.iload_n 3, 1) := by decide +kernel
theorem dX6_rank__24 : decode cX6_rank_ 24 = .ok (.aload_n 0, 1) := by decide +kernel
theorem dX6_rank__25 : decode cX6_rank_ 25 = .ok (.iload_n 1, 1) := by decide +kernel
theorem dX6_rank__26 : decode cX6_rank_ 26 = .ok (.invokestatic 71, 3) := by decide +kernel
theorem dX6_rank__29 : decode cX6_rank_ 29 = .ok (.iload 4, 2) := by decide +kernel
theorem dX6_rank__31 : decode cX6_rank_ 31 = .ok (.invokevirtual 35, 3) := by decide +kernel
theorem dX6_rank__34 : decode cX6_rank_ 34 = .ok (.iadd, 1) := by decide +kernel
theorem dX6_rank__35 : decode cX6_rank_ 35 = .ok (.istore_n 3, 1) := by decide +kernel
theorem dX6_rank__36 : decode cX6_rank_ 36 = .ok (.iinc 4 1, 3) := by decide +kernel
theorem dX6_rank__39 : decode cX6_rank_ 39 = .ok (.goto (-22), 3) := by decide +kernel
theorem dX6_rank__42 : decode cX6_rank_ 42 = .ok (.iload_n 3, 1) := by decide +kernel
theorem dX6_rank__43 : decode cX6_rank_ 43 = .ok (.ireturn, 1) := by decide +kernel
theorem dX6_select_0 : decode cX6_select 0 = .ok (.aload_n 0, 1) := by decide +kernel
theorem dX6_select_1 : decode cX6_select 1 = .ok (.iload_n 1, 1) := by decide +kernel
theorem dX6_select_2 : decode cX6_select 2 = .ok (.invokevirtual 74, 3) := by decide +kernel
theorem dX6_select_5 : decode cX6_select 5 = .ok (.ifCond .eq 19, 3) := by decide +kernel
theorem dX6_select_8 : decode cX6_select 8 = .ok (.iload_n 2, 1) := by decide +kernel
theorem dX6_select_9 : decode cX6_select 9 = .ok (.ifCond .lt 15, 3) := by decide +kernel
theorem dX6_select_12 : decode cX6_select 12 = .ok (.aload_n 0, 1) := by decide +kernel
theorem dX6_select_13 : decode cX6_select 13 = .ok (.iload_n 1, 1) := by decide +kernel
theorem dX6_select_14 : decode cX6_select 14 = .ok (.invokestatic 71, 3) := by decide +kernel
theorem dX6_select_17 : decode cX6_select 17 = .ok (.iload_n 2, 1) := by decide +kernel
theorem dX6_select_18 : decode cX6_select 18 = .ok (.invokevirtual 190, 3) := by decide +kernel
theorem dX6_select_21 : decode cX6_select 21 = .ok (.goto 4, 3) := by decide +kernel
theorem dX6_select_24 : decode cX6_select 24 = .ok (.iconst (-1), 1) := by decide +kernel
theorem dX6_select_25 : decode cX6_select 25 = .ok (.ireturn, 1) := by decide +kernel
theorem dX6_would_0 : decode cX6_would 0 = .ok (.iload_n 1, 1) := by decide +kernel
theorem dX6_would_1 : decode cX6_would 1 = .ok (.iconst 0, 1) := by decide +kernel
theorem dX6_would_2 : decode cX6_would 2 = .ok (.iconst 3, 1) := by decide +kernel
theorem dX6_would_3 : decode cX6_would 3 = .ok (.invokestatic 31, 3) := by decide +kernel
theorem dX6_would_6 : decode cX6_would 6 = .ok (.ifCond .eq 29, 3) := by decide +kernel
theorem dX6_would_9 : decode cX6_would 9 = .ok (.aload_n 0, 1) := by decide +kernel
theorem dX6_would_10 : decode cX6_would 10 = .ok (.iload_n 2, 1) := by decide +kernel
theorem dX6_would_11 : decode cX6_would 11 = .ok (.invokevirtual 74, 3) := by decide +kernel
theorem dX6_would_14 : decode cX6_would 14 = .ok (.ifCond .eq 21, 3) := by decide +kernel
theorem dX6_would_17 : decode cX6_would 17 = .ok (.aload_n 0, 1) := by decide +kernel
theorem dX6_would_18 : decode cX6_would 18 = .ok (.iload_n 3, 1) := by decide +kernel
theorem dX6_would_19 : decode cX6_would 19 = .ok (.invokevirtual 74, 3) := by decide +kernel
theorem dX6_would_22 : decode cX6_would 22 = .ok (.ifCond .eq 13, 3) := by decide +kernel
theorem dX6_would_25 : decode cX6_would 25 = .ok (.iload 4, 2) := by decide +kernel
theorem dX6_would_27 : decode cX6_would 27 = .ok (.iconst 0, 1) := by decide +kernel
theorem dX6_would_28 : decode cX6_would 28 = .ok (.iconst 2, 1) := by decide +kernel
theorem dX6_would_29 : decode cX6_would 29 = .ok (.invokestatic 31, 3) := by decide +kernel
theorem dX6_would_32 : decode cX6_would 32 = .ok (.ifCond .ne 5, 3) := by decide +kernel
theorem dX6_would_35 : decode cX6_would 35 = .ok (.iconst (-1), 1) := by decide +kernel
theorem dX6_would_36 : decode cX6_would 36 = .ok (.ireturn, 1) := by decide +kernel
theorem dX6_would_37 : decode cX6_would 37 = .ok (.aload_n 0, 1) := by decide +kernel
theorem dX6_would_38 : decode cX6_would 38 = .ok (.iload_n 1, 1) := by decide +kernel
theorem dX6_would_39 : decode cX6_would 39 = .ok (.iload_n 2, 1) := by decide +kernel
theorem dX6_would_40 : decode cX6_would 40 = .ok (.invokestatic 71, 3) := by decide +kernel
theorem dX6_would_43 : decode cX6_would 43 = .ok (.iload_n 3, 1) := by decide +kernel
theorem dX6_would_44 : decode cX6_would 44 = .ok (.invokestatic 71, 3) := by decide +kernel
theorem dX6_would_47 : decode cX6_would 47 = .ok (.iconst 0, 1) := by decide +kernel
theorem dX6_would_48 : decode cX6_would 48 = .ok (.invokestatic 54, 3) := by decide +kernel
theorem dX6_would_51 : decode cX6_would 51 = .ok (.invokevirtual 91, 3) := by decide +kernel
theorem dX6_would_54 : decode cX6_would 54 = .ok (.iload 4, 2) := by decide +kernel
theorem dX6_would_56 : decode cX6_would 56 = .ok (.ifCond .ne 18, 3) := by decide +kernel
theorem dX6_would_59 : decode cX6_would 59 = .ok (.aload_n 0, 1) := by decide +kernel
theorem dX6_would_60 : decode cX6_would 60 = .ok (.iload_n 2, 1) := by decide +kernel
theorem dX6_would_61 : decode cX6_would 61 = .ok (.invokestatic 71, 3) := by decide +kernel
theorem dX6_would_64 : decode cX6_would 64 = .ok (.iload_n 3, 1) := by decide +kernel
theorem dX6_would_65 : decode cX6_would 65 = .ok (.invokestatic 71, 3) := by decide +kernel
theorem dX6_would_68 : decode cX6_would 68 = .ok (.invokevirtual 88, 3) := by decide +kernel
theorem dX6_would_71 : decode cX6_would 71 = .ok (.goto 29, 3) := by decide +kernel
theorem dX6_would_74 : decode cX6_would 74 = .ok (.iload 4, 2) := by decide +kernel
theorem dX6_would_76 : decode cX6_would 76 = .ok (.iconst 1, 1) := by decide +kernel
theorem dX6_would_77 : decode cX6_would 77 = .ok (.if_icmp .ne 15, 3) := by decide +kernel
theorem dX6_would_80 : decode cX6_would 80 = .ok (.aload_n 0, 1) := by decide +kernel
theorem dX6_would_81 : decode cX6_would 81 = .ok (.iconst 0, 1) := by decide +kernel
theorem dX6_would_82 : decode cX6_would 82 = .ok (.invokestatic 54, 3) := by decide +kernel
theorem dX6_would_85 : decode cX6_would 85 = .ok (.iconst 3, 1) := by decide +kernel
theorem dX6_would_86 : decode cX6_would 86 = .ok (.invokevirtual 82, 3) := by decide +kernel
theorem dX6_would_89 : decode cX6_would 89 = .ok (.goto 11, 3) := by decide +kernel
theorem dX6_would_92 : decode cX6_would 92 = .ok (.aload_n 0, 1) := by decide +kernel
theorem dX6_would_93 : decode cX6_would 93 = .ok (.iconst 0, 1) := by decide +kernel
theorem dX6_would_94 : decode cX6_would 94 = .ok (.invokestatic 54, 3) := by decide +kernel
theorem dX6_would_97 : decode cX6_would 97 = .ok (.invokevirtual 99, 3) := by decide +kernel
theorem dX6_would_100 : decode cX6_would 100 = .ok (.ireturn, 1) := by decide +kernel
theorem dX6_areSame_0 : decode cX6_areSame 0 = .ok (.aload_n 0, 1) := by decide +kernel
theorem dX6_areSame_1 : decode cX6_areSame 1 = .ok (.getfield 8, 3) := by decide +kernel
theorem dX6_areSame_4 : decode cX6_areSame 4 = .ok (.iload_n 1, 1) := by decide +kernel
theorem dX6_areSame_5 : decode cX6_areSame 5 = .ok (.iaload, 1) := by decide +kernel
theorem dX6_areSame_6 : decode cX6_areSame 6 = .ok (.aload_n 0, 1) := by decide +kernel
theorem dX6_areSame_7 : decode cX6_areSame 7 = .ok (.getfield 8, 3) := by decide +kernel
theorem dX6_areSame_10 : decode cX6_areSame 10 = .ok (.iload_n 2, 1) := by decide +kernel
theorem dX6_areSame_11 : decode cX6_areSame 11 = .ok (.iaload, 1) := by decide +kernel
theorem dX6_areSame_12 : decode cX6_areSame 12 = .ok (.if_icmp .ne 7, 3) := by decide +kernel
theorem dX6_areSame_15 : decode cX6_areSame 15 = .ok (.iconst 1, 1) := by decide +kernel
theorem dX6_areSame_16 : decode cX6_areSame 16 = .ok (.goto 4, 3) := by decide +kernel
theorem dX6_areSame_19 : decode cX6_areSame 19 = .ok (.iconst 0, 1) := by decide +kernel
theorem dX6_areSame_20 : decode cX6_areSame 20 = .ok (.istore_n 3, 1) := by decide +kernel
theorem dX6_areSame_21 : decode cX6_areSame 21 = .ok (.iconst 0, 1) := by decide +kernel
theorem dX6_areSame_22 : decode cX6_areSame 22 = .ok (.istore 4, 2) := by decide +kernel
theorem dX6_areSame_24 : decode cX6_areSame 24 = .ok (.iload 4, 2) := by decide +kernel
theorem dX6_areSame_26 : decode cX6_areSame 26 = .ok (.aload_n 0, 1) := by decide +kernel
theorem dX6_areSame_27 : decode cX6_areSame 27 = .ok (.getfield 8, 3) := by decide +kernel
theorem dX6_areSame_30 : decode cX6_areSame 30 = .ok (.iload_n 1, 1) := by decide +kernel
theorem dX6_areSame_31 : decode cX6_areSame 31 = .ok (.iaload, 1) := by decide +kernel
theorem dX6_areSame_32 : decode cX6_areSame 32 = .ok (.if_icmp .ge 36, 3) := by decide +kernel
theorem dX6_areSame_35 : decode cX6_areSame 35 = .ok (.iload_n 3, 1) := by decide +kernel
theorem dX6_areSame_36 : decode cX6_areSame 36 = .ok (.ifCond .eq 24, 3) := by decide +kernel
theorem dX6_areSame_39 : decode cX6_areSame 39 = .ok (.aload_n 0, 1) := by decide +kernel
theorem dX6_areSame_40 : decode cX6_areSame 40 = .ok (.iload_n 1, 1) := by decide +kernel
theorem dX6_areSame_41 : decode cX6_areSame 41 = .ok (.iload 4, 2) := by decide +kernel
theorem dX6_areSame_43 : decode cX6_areSame 43 = .ok (.invokevirtual 35, 3) := by decide +kernel
theorem dX6_areSame_46 : decode cX6_areSame 46 = .ok (.aload_n 0, 1) := by decide +kernel
theorem dX6_areSame_47 : decode cX6_areSame 47 = .ok (.iload_n 2, 1) := by decide +kernel
theorem dX6_areSame_48 : decode cX6_areSame 48 = .ok (.iload 4, 2) := by decide +kernel
theorem dX6_areSame_50 : decode cX6_areSame 50 = .ok (.invokevirtual 35, 3) := by decide +kernel
theorem dX6_areSame_53 : decode cX6_areSame 53 = .ok (.if_icmp .ne 7, 3) := by decide +kernel
theorem dX6_areSame_56 : decode cX6_areSame 56 = .ok (.iconst 1, 1) := by decide +kernel
theorem dX6_areSame_57 : decode cX6_areSame 57 = .ok (.goto 4, 3) := by decide +kernel
theorem dX6_areSame_60 : decode cX6_areSame 60 = .ok (.iconst 0, 1) := by decide +kernel
theorem dX6_areSame_61 : decode cX6_areSame 61 = .ok (.istore_n 3, 1) := by decide +kernel
theorem dX6_areSame_62 : decode cX6_areSame 62 = .ok (.iinc 4 1, 3) := by decide +kernel
theorem dX6_areSame_65 : decode cX6_areSame 65 = .ok (.goto (-41), 3) := by decide +kernel
theorem dX6_areSame_68 : decode cX6_areSame 68 = .ok (.iload_n 3, 1) := by decide +kernel
theorem dX6_areSame_69 : decode cX6_areSame 69 = .ok (.ireturn, 1) := by decide +kernel
theorem dX6_same_0 : decode cX6_same 0 = .ok (.aload_n 0, 1) := by decide +kernel
theorem dX6_same_1 : decode cX6_same 1 = .ok (.iload_n 1, 1) := by decide +kernel
theorem dX6_same_2 : decode cX6_same 2 = .ok (.invokevirtual 74, 3) := by decide +kernel
theorem dX6_same_5 : decode cX6_same 5 = .ok (.ifCond .ne 5, 3) := by decide +kernel
theorem dX6_same_8 : decode cX6_same 8 = .ok (.iconst (-1), 1) := by decide +kernel
theorem dX6_same_9 : decode cX6_same 9 = .ok (.ireturn, 1) := by decide +kernel
theorem dX6_same_10 : decode cX6_same 10 = .ok (.iconst 0, 1) := by decide +kernel
theorem dX6_same_11 : decode cX6_same 11 = .ok (.istore_n 2, 1) := by decide +kernel
theorem dX6_same_12 : decode cX6_same 12 = .ok (.aload_n 0, 1) := by decide +kernel
theorem dX6_same_13 : decode cX6_same 13 = .ok (.iload_n 2, 1) := by decide +kernel
theorem dX6_same_14 : decode cX6_same 14 = .ok (.invokestatic 71, 3) := by decide +kernel
theorem dX6_same_17 : decode cX6_same 17 = .ok (.iload_n 1, 1) := by decide +kernel
theorem dX6_same_18 : decode cX6_same 18 = .ok (.invokestatic 71, 3) := by decide +kernel
theorem dX6_same_21 : decode cX6_same 21 = .ok (.invokevirtual 196, 3) := by decide +kernel
theorem dX6_same_24 : decode cX6_same 24 = .ok (.ifCond .ne 9, 3) := by decide +kernel
theorem dX6_same_27 : decode cX6_same 27 = .ok (.iinc 2 1, 3) := by decide +kernel
theorem dX6_same_30 : decode cX6_same 30 = .ok (.goto (-18), 3) := by decide +kernel
theorem dX6_same_33 : decode cX6_same 33 = .ok (.iload_n 2, 1) := by decide +kernel
theorem dX6_same_34 : decode cX6_same 34 = .ok (.ireturn, 1) := by decide +kernel
theorem dX6_bestShift_0 : decode cX6_bestShift 0 = .ok (.aload_n 0, 1) := by decide +kernel
theorem dX6_bestShift_1 : decode cX6_bestShift 1 = .ok (.iload_n 1, 1) := by decide +kernel
theorem dX6_bestShift_2 : decode cX6_bestShift 2 = .ok (.invokevirtual 74, 3) := by decide +kernel
theorem dX6_bestShift_5 : decode cX6_bestShift 5 = .ok (.ifCond .ne 5, 3) := by decide +kernel
theorem dX6_bestShift_8 : decode cX6_bestShift 8 = .ok (.iconst (-1), 1) := by decide +kernel
theorem dX6_bestShift_9 : decode cX6_bestShift 9 = .ok (.ireturn, 1) := by decide +kernel
theorem dX6_bestShift_10 : decode cX6_bestShift 10 = .ok (.iconst 0, 1) := by decide +kernel
theorem dX6_bestShift_11 : decode cX6_bestShift 11 = .ok (.istore_n 2, 1) := by decide +kernel
theorem dX6_bestShift_12 : decode cX6_bestShift 12 = .ok (.iconst 0, 1) := by decide +kernel
theorem dX6_bestShift_13 : decode cX6_bestShift 13 = .ok (.istore_n 3, 1) := by decide +kernel
theorem dX6_bestShift_14 : decode cX6_bestShift 14 = .ok (.iconst 0, 1) := by decide +kernel
theorem dX6_bestShift_15 : decode cX6_bestShift 15 = .ok (.istore 4, 2) := by decide +kernel
theorem dX6_bestShift_17 : decode cX6_bestShift 17 = .ok (.iload 4, 2) := by decide +kernel
theorem dX6_bestShift_19 : decode cX6_bestShift 19 = .ok (.bipush 15, 2) := by decide +kernel
theorem dX6_bestShift_21 : decode cX6_bestShift 21 = .ok (.if_icmp .ge 78, 3) := by decide +kernel
theorem dX6_bestShift_24 : decode cX6_bestShift 24 = .ok (.aload_n 0, 1) := by decide +kernel
theorem dX6_bestShift_25 : decode cX6_bestShift 25 = .ok (.iload_n 1, 1) := by decide +kernel
theorem dX6_bestShift_26 : decode cX6_bestShift 26 = .ok (.invokestatic 71, 3) := by decide +kernel
theorem dX6_bestShift_29 : decode cX6_bestShift 29 = .ok (.iconst 0, 1) := by decide +kernel
theorem dX6_bestShift_30 : decode cX6_bestShift 30 = .ok (.invokestatic 54, 3) := by decide +kernel
theorem dX6_bestShift_33 : decode cX6_bestShift 33 = .ok (.invokevirtual 65, 3) := by decide +kernel
theorem dX6_bestShift_36 : decode cX6_bestShift 36 = .ok (.aload_n 0, 1) := by decide +kernel
theorem dX6_bestShift_37 : decode cX6_bestShift 37 = .ok (.iconst 0, 1) := by decide +kernel
theorem dX6_bestShift_38 : decode cX6_bestShift 38 = .ok (.invokestatic 54, 3) := by decide +kernel
theorem dX6_bestShift_41 : decode cX6_bestShift 41 = .ok (.iload 4, 2) := by decide +kernel
theorem dX6_bestShift_43 : decode cX6_bestShift 43 = .ok (.invokevirtual 102, 3) := by decide +kernel
theorem dX6_bestShift_46 : decode cX6_bestShift 46 = .ok (.aload_n 0, 1) := by decide +kernel
theorem dX6_bestShift_47 : decode cX6_bestShift 47 = .ok (.iconst 0, 1) := by decide +kernel
theorem dX6_bestShift_48 : decode cX6_bestShift 48 = .ok (.invokestatic 54, 3) := by decide +kernel
theorem dX6_bestShift_51 : decode cX6_bestShift 51 = .ok (.iconst 3, 1) := by decide +kernel
theorem dX6_bestShift_52 : decode cX6_bestShift 52 = .ok (.invokevirtual 82, 3) := by decide +kernel
theorem dX6_bestShift_55 : decode cX6_bestShift 55 = .ok (.istore 5, 2) := by decide +kernel
theorem dX6_bestShift_57 : decode cX6_bestShift 57 = .ok (.iload 4, 2) := by decide +kernel
theorem dX6_bestShift_59 : decode cX6_bestShift 59 = .ok (.ifCond .eq 9, 3) := by decide +kernel
theorem dX6_bestShift_62 : decode cX6_bestShift 62 = .ok (.iload 5, 2) := by decide +kernel
theorem dX6_bestShift_64 : decode cX6_bestShift 64 = .ok (.iload_n 3, 1) := by decide +kernel
theorem dX6_bestShift_65 : decode cX6_bestShift 65 = .ok (.if_icmp .ge 8, 3) := by decide +kernel
theorem dX6_bestShift_68 : decode cX6_bestShift 68 = .ok (.iload 4, 2) := by decide +kernel
theorem dX6_bestShift_70 : decode cX6_bestShift 70 = .ok (.goto 4, 3) := by decide +kernel
theorem dX6_bestShift_73 : decode cX6_bestShift 73 = .ok (.iload_n 2, 1) := by decide +kernel
theorem dX6_bestShift_74 : decode cX6_bestShift 74 = .ok (.istore_n 2, 1) := by decide +kernel
theorem dX6_bestShift_75 : decode cX6_bestShift 75 = .ok (.iload 4, 2) := by decide +kernel
theorem dX6_bestShift_77 : decode cX6_bestShift 77 = .ok (.ifCond .eq 9, 3) := by decide +kernel
theorem dX6_bestShift_80 : decode cX6_bestShift 80 = .ok (.iload 5, 2) := by decide +kernel
theorem dX6_bestShift_82 : decode cX6_bestShift 82 = .ok (.iload_n 3, 1) := by decide +kernel
theorem dX6_bestShift_83 : decode cX6_bestShift 83 = .ok (.if_icmp .ge 8, 3) := by decide +kernel
theorem dX6_bestShift_86 : decode cX6_bestShift 86 = .ok (.iload 5, 2) := by decide +kernel
theorem dX6_bestShift_88 : decode cX6_bestShift 88 = .ok (.goto 4, 3) := by decide +kernel
theorem dX6_bestShift_91 : decode cX6_bestShift 91 = .ok (.iload_n 3, 1) := by decide +kernel
theorem dX6_bestShift_92 : decode cX6_bestShift 92 = .ok (.istore_n 3, 1) := by decide +kernel
theorem dX6_bestShift_93 : decode cX6_bestShift 93 = .ok (.iinc 4 1, 3) := by decide +kernel
theorem dX6_bestShift_96 : decode cX6_bestShift 96 = .ok (.goto (-79), 3) := by decide +kernel
theorem dX6_bestShift_99 : decode cX6_bestShift 99 = .ok (.iload_n 2, 1) := by decide +kernel
theorem dX6_bestShift_100 : decode cX6_bestShift 100 = .ok (.ireturn, 1) := by decide +kernel
theorem dJ6_bitCount_0f7a4_0 : decode cJ6_bitCount_0f7a4 0 = .ok (.iload_n 0, 1) := by decide +kernel
theorem dJ6_bitCount_0f7a4_1 : decode cJ6_bitCount_0f7a4 1 = .ok (.iload_n 0, 1) := by decide +kernel
theorem dJ6_bitCount_0f7a4_2 : decode cJ6_bitCount_0f7a4 2 = .ok (.iconst 1, 1) := by decide +kernel
theorem dJ6_bitCount_0f7a4_3 : decode cJ6_bitCount_0f7a4 3 = .ok (.iushr, 1) := by decide +kernel
theorem dJ6_bitCount_0f7a4_4 : decode cJ6_bitCount_0f7a4 4 = .ok (.ldc_w 265, 3) := by decide +kernel
theorem dJ6_bitCount_0f7a4_7 : decode cJ6_bitCount_0f7a4 7 = .ok (.iand, 1) := by decide +kernel
theorem dJ6_bitCount_0f7a4_8 : decode cJ6_bitCount_0f7a4 8 = .ok (.isub, 1) := by decide +kernel
theorem dJ6_bitCount_0f7a4_9 : decode cJ6_bitCount_0f7a4 9 = .ok (.istore_n 0, 1) := by decide +kernel
theorem dJ6_bitCount_0f7a4_10 : decode cJ6_bitCount_0f7a4 10 = .ok (.iload_n 0, 1) := by decide +kernel
theorem dJ6_bitCount_0f7a4_11 : decode cJ6_bitCount_0f7a4 11 = .ok (.ldc_w 266, 3) := by decide +kernel
theorem dJ6_bitCount_0f7a4_14 : decode cJ6_bitCount_0f7a4 14 = .ok (.iand, 1) := by decide +kernel
theorem dJ6_bitCount_0f7a4_15 : decode cJ6_bitCount_0f7a4 15 = .ok (.iload_n 0, 1) := by decide +kernel
theorem dJ6_bitCount_0f7a4_16 : decode cJ6_bitCount_0f7a4 16 = .ok (.iconst 2, 1) := by decide +kernel
theorem dJ6_bitCount_0f7a4_17 : decode cJ6_bitCount_0f7a4 17 = .ok (.iushr, 1) := by decide +kernel
theorem dJ6_bitCount_0f7a4_18 : decode cJ6_bitCount_0f7a4 18 = .ok (.ldc_w 266, 3) := by decide +kernel
theorem dJ6_bitCount_0f7a4_21 : decode cJ6_bitCount_0f7a4 21 = .ok (.iand, 1) := by decide +kernel
theorem dJ6_bitCount_0f7a4_22 : decode cJ6_bitCount_0f7a4 22 = .ok (.iadd, 1) := by decide +kernel
theorem dJ6_bitCount_0f7a4_23 : decode cJ6_bitCount_0f7a4 23 = .ok (.istore_n 0, 1) := by decide +kernel
theorem dJ6_bitCount_0f7a4_24 : decode cJ6_bitCount_0f7a4 24 = .ok (.iload_n 0, 1) := by decide +kernel
theorem dJ6_bitCount_0f7a4_25 : decode cJ6_bitCount_0f7a4 25 = .ok (.iload_n 0, 1) := by decide +kernel
theorem dJ6_bitCount_0f7a4_26 : decode cJ6_bitCount_0f7a4 26 = .ok (.iconst 4, 1) := by decide +kernel
theorem dJ6_bitCount_0f7a4_27 : decode cJ6_bitCount_0f7a4 27 = .ok (.iushr, 1) := by decide +kernel
theorem dJ6_bitCount_0f7a4_28 : decode cJ6_bitCount_0f7a4 28 = .ok (.iadd, 1) := by decide +kernel
theorem dJ6_bitCount_0f7a4_29 : decode cJ6_bitCount_0f7a4 29 = .ok (.ldc_w 267, 3) := by decide +kernel
theorem dJ6_bitCount_0f7a4_32 : decode cJ6_bitCount_0f7a4 32 = .ok (.iand, 1) := by decide +kernel
theorem dJ6_bitCount_0f7a4_33 : decode cJ6_bitCount_0f7a4 33 = .ok (.istore_n 0, 1) := by decide +kernel
theorem dJ6_bitCount_0f7a4_34 : decode cJ6_bitCount_0f7a4 34 = .ok (.iload_n 0, 1) := by decide +kernel
theorem dJ6_bitCount_0f7a4_35 : decode cJ6_bitCount_0f7a4 35 = .ok (.iload_n 0, 1) := by decide +kernel
theorem dJ6_bitCount_0f7a4_36 : decode cJ6_bitCount_0f7a4 36 = .ok (.bipush 8, 2) := by decide +kernel
theorem dJ6_bitCount_0f7a4_38 : decode cJ6_bitCount_0f7a4 38 = .ok (.iushr, 1) := by decide +kernel
theorem dJ6_bitCount_0f7a4_39 : decode cJ6_bitCount_0f7a4 39 = .ok (.iadd, 1) := by decide +kernel
theorem dJ6_bitCount_0f7a4_40 : decode cJ6_bitCount_0f7a4 40 = .ok (.istore_n 0, 1) := by decide +kernel
theorem dJ6_bitCount_0f7a4_41 : decode cJ6_bitCount_0f7a4 41 = .ok (.iload_n 0, 1) := by decide +kernel
theorem dJ6_bitCount_0f7a4_42 : decode cJ6_bitCount_0f7a4 42 = .ok (.iload_n 0, 1) := by decide +kernel
theorem dJ6_bitCount_0f7a4_43 : decode cJ6_bitCount_0f7a4 43 = .ok (.bipush 16, 2) := by decide +kernel
theorem dJ6_bitCount_0f7a4_45 : decode cJ6_bitCount_0f7a4 45 = .ok (.iushr, 1) := by decide +kernel
theorem dJ6_bitCount_0f7a4_46 : decode cJ6_bitCount_0f7a4 46 = .ok (.iadd, 1) := by decide +kernel
theorem dJ6_bitCount_0f7a4_47 : decode cJ6_bitCount_0f7a4 47 = .ok (.istore_n 0, 1) := by decide +kernel
theorem dJ6_bitCount_0f7a4_48 : decode cJ6_bitCount_0f7a4 48 = .ok (.iload_n 0, 1) := by decide +kernel
theorem dJ6_bitCount_0f7a4_49 : decode cJ6_bitCount_0f7a4 49 = .ok (.bipush 63, 2) := by decide +kernel
theorem dJ6_bitCount_0f7a4_51 : decode cJ6_bitCount_0f7a4 51 = .ok (.iand, 1) := by decide +kernel
theorem dJ6_bitCount_0f7a4_52 : decode cJ6_bitCount_0f7a4 52 = .ok (.ireturn, 1) := by decide +kernel
theorem dJ9_floorDiv_7cf53_0 : decode cJ9_floorDiv_7cf53 0 = .ok (.iload_n 0, 1) := by decide +kernel
theorem dJ9_floorDiv_7cf53_1 : decode cJ9_floorDiv_7cf53 1 = .ok (.iload_n 1, 1) := by decide +kernel
theorem dJ9_floorDiv_7cf53_2 : decode cJ9_floorDiv_7cf53 2 = .ok (.idiv, 1) := by decide +kernel
theorem dJ9_floorDiv_7cf53_3 : decode cJ9_floorDiv_7cf53 3 = .ok (.istore_n 2, 1) := by decide +kernel
theorem dJ9_floorDiv_7cf53_4 : decode cJ9_floorDiv_7cf53 4 = .ok (.iload_n 0, 1) := by decide +kernel
theorem dJ9_floorDiv_7cf53_5 : decode cJ9_floorDiv_7cf53 5 = .ok (.iload_n 1, 1) := by decide +kernel
theorem dJ9_floorDiv_7cf53_6 : decode cJ9_floorDiv_7cf53 6 = .ok (.ixor, 1) := by decide +kernel
theorem dJ9_floorDiv_7cf53_7 : decode cJ9_floorDiv_7cf53 7 = .ok (.ifCond .ge 14, 3) := by decide +kernel
theorem dJ9_floorDiv_7cf53_10 : decode cJ9_floorDiv_7cf53 10 = .ok (.iload_n 2, 1) := by decide +kernel
theorem dJ9_floorDiv_7cf53_11 : decode cJ9_floorDiv_7cf53 11 = .ok (.iload_n 1, 1) := by decide +kernel
theorem dJ9_floorDiv_7cf53_12 : decode cJ9_floorDiv_7cf53 12 = .ok (.imul, 1) := by decide +kernel
theorem dJ9_floorDiv_7cf53_13 : decode cJ9_floorDiv_7cf53 13 = .ok (.iload_n 0, 1) := by decide +kernel
theorem dJ9_floorDiv_7cf53_14 : decode cJ9_floorDiv_7cf53 14 = .ok (.if_icmp .eq 7, 3) := by decide +kernel
theorem dJ9_floorDiv_7cf53_17 : decode cJ9_floorDiv_7cf53 17 = .ok (.iload_n 2, 1) := by decide +kernel
theorem dJ9_floorDiv_7cf53_18 : decode cJ9_floorDiv_7cf53 18 = .ok (.iconst 1, 1) := by decide +kernel
theorem dJ9_floorDiv_7cf53_19 : decode cJ9_floorDiv_7cf53 19 = .ok (.isub, 1) := by decide +kernel
theorem dJ9_floorDiv_7cf53_20 : decode cJ9_floorDiv_7cf53 20 = .ok (.ireturn, 1) := by decide +kernel
theorem dJ9_floorDiv_7cf53_21 : decode cJ9_floorDiv_7cf53 21 = .ok (.iload_n 2, 1) := by decide +kernel
theorem dJ9_floorDiv_7cf53_22 : decode cJ9_floorDiv_7cf53 22 = .ok (.ireturn, 1) := by decide +kernel
theorem dJ9_floorMod_7cf53_0 : decode cJ9_floorMod_7cf53 0 = .ok (.iload_n 0, 1) := by decide +kernel
theorem dJ9_floorMod_7cf53_1 : decode cJ9_floorMod_7cf53 1 = .ok (.iload_n 1, 1) := by decide +kernel
theorem dJ9_floorMod_7cf53_2 : decode cJ9_floorMod_7cf53 2 = .ok (.irem, 1) := by decide +kernel
theorem dJ9_floorMod_7cf53_3 : decode cJ9_floorMod_7cf53 3 = .ok (.istore_n 2, 1) := by decide +kernel
theorem dJ9_floorMod_7cf53_4 : decode cJ9_floorMod_7cf53 4 = .ok (.iload_n 0, 1) := by decide +kernel
theorem dJ9_floorMod_7cf53_5 : decode cJ9_floorMod_7cf53 5 = .ok (.iload_n 1, 1) := by decide +kernel
theorem dJ9_floorMod_7cf53_6 : decode cJ9_floorMod_7cf53 6 = .ok (.ixor, 1) := by decide +kernel
theorem dJ9_floorMod_7cf53_7 : decode cJ9_floorMod_7cf53 7 = .ok (.ifCond .ge 11, 3) := by decide +kernel
theorem dJ9_floorMod_7cf53_10 : decode cJ9_floorMod_7cf53 10 = .ok (.iload_n 2, 1) := by decide +kernel
theorem dJ9_floorMod_7cf53_11 : decode cJ9_floorMod_7cf53 11 = .ok (.ifCond .eq 7, 3) := by decide +kernel
theorem dJ9_floorMod_7cf53_14 : decode cJ9_floorMod_7cf53 14 = .ok (.iload_n 2, 1) := by decide +kernel
theorem dJ9_floorMod_7cf53_15 : decode cJ9_floorMod_7cf53 15 = .ok (.iload_n 1, 1) := by decide +kernel
theorem dJ9_floorMod_7cf53_16 : decode cJ9_floorMod_7cf53 16 = .ok (.iadd, 1) := by decide +kernel
theorem dJ9_floorMod_7cf53_17 : decode cJ9_floorMod_7cf53 17 = .ok (.ireturn, 1) := by decide +kernel
theorem dJ9_floorMod_7cf53_18 : decode cJ9_floorMod_7cf53 18 = .ok (.iload_n 2, 1) := by decide +kernel
theorem dJ9_floorMod_7cf53_19 : decode cJ9_floorMod_7cf53 19 = .ok (.ireturn, 1) := by decide +kernel
theorem dJ9_max_7cf53_0 : decode cJ9_max_7cf53 0 = .ok (.iload_n 0, 1) := by decide +kernel
theorem dJ9_max_7cf53_1 : decode cJ9_max_7cf53 1 = .ok (.iload_n 1, 1) := by decide +kernel
theorem dJ9_max_7cf53_2 : decode cJ9_max_7cf53 2 = .ok (.if_icmp .lt 7, 3) := by decide +kernel
theorem dJ9_max_7cf53_5 : decode cJ9_max_7cf53 5 = .ok (.iload_n 0, 1) := by decide +kernel
theorem dJ9_max_7cf53_6 : decode cJ9_max_7cf53 6 = .ok (.goto 4, 3) := by decide +kernel
theorem dJ9_max_7cf53_9 : decode cJ9_max_7cf53 9 = .ok (.iload_n 1, 1) := by decide +kernel
theorem dJ9_max_7cf53_10 : decode cJ9_max_7cf53 10 = .ok (.ireturn, 1) := by decide +kernel
theorem dJ9_min_7cf53_0 : decode cJ9_min_7cf53 0 = .ok (.iload_n 0, 1) := by decide +kernel
theorem dJ9_min_7cf53_1 : decode cJ9_min_7cf53 1 = .ok (.iload_n 1, 1) := by decide +kernel
theorem dJ9_min_7cf53_2 : decode cJ9_min_7cf53 2 = .ok (.if_icmp .gt 7, 3) := by decide +kernel
theorem dJ9_min_7cf53_5 : decode cJ9_min_7cf53 5 = .ok (.iload_n 0, 1) := by decide +kernel
theorem dJ9_min_7cf53_6 : decode cJ9_min_7cf53 6 = .ok (.goto 4, 3) := by decide +kernel
theorem dJ9_min_7cf53_9 : decode cJ9_min_7cf53 9 = .ok (.iload_n 1, 1) := by decide +kernel
theorem dJ9_min_7cf53_10 : decode cJ9_min_7cf53 10 = .ok (.ireturn, 1) := by decide +kernel
theorem dL_law_0 : decode cL_law 0 = .ok (.new 7, 3) := by decide +kernel
theorem dL_law_3 : decode cL_law 3 = .ok (.dup, 1) := by decide +kernel
theorem dL_law_4 : decode cL_law 4 = .ok (.invokespecial 9, 3) := by decide +kernel
theorem dL_law_7 : decode cL_law 7 = .ok (.astore_n 1, 1) := by decide +kernel
theorem dL_law_8 : decode cL_law 8 = .ok (.new 10, 3) := by decide +kernel
theorem dL_law_11 : decode cL_law 11 = .ok (.dup, 1) := by decide +kernel
theorem dL_law_12 : decode cL_law 12 = .ok (.invokespecial 12, 3) := by decide +kernel
theorem dL_law_15 : decode cL_law 15 = .ok (.astore_n 2, 1) := by decide +kernel
theorem dL_law_16 : decode cL_law 16 = .ok (.iconst 0, 1) := by decide +kernel
theorem dL_law_17 : decode cL_law 17 = .ok (.istore_n 3, 1) := by decide +kernel
theorem dL_law_18 : decode cL_law 18 = .ok (.iload_n 3, 1) := by decide +kernel
theorem dL_law_19 : decode cL_law 19 = .ok (.aload_n 0, 1) := by decide +kernel
theorem dL_law_20 : decode cL_law 20 = .ok (.arraylength, 1) := by decide +kernel
theorem dL_law_21 : decode cL_law 21 = .ok (.iconst 5, 1) := by decide +kernel
theorem dL_law_22 : decode cL_law 22 = .ok (.isub, 1) := by decide +kernel
theorem dL_law_23 : decode cL_law 23 = .ok (.if_icmp .gt 785, 3) := by decide +kernel
theorem dL_law_26 : decode cL_law 26 = .ok (.aload_n 0, 1) := by decide +kernel
theorem dL_law_27 : decode cL_law 27 = .ok (.iload_n 3, 1) := by decide +kernel
theorem dL_law_28 : decode cL_law 28 = .ok (.iaload, 1) := by decide +kernel
theorem dL_law_29 : decode cL_law 29 = .ok (.bipush 31, 2) := by decide +kernel
theorem dL_law_31 : decode cL_law 31 = .ok (.iand, 1) := by decide +kernel
theorem dL_law_32 : decode cL_law 32 = .ok (.tableswitch 770 0 21 #[104, 117, 160, 203, 246, 279, 332, 355, 388, 401, 424, 437, 460, 483, 506, 539, 572, 605, 638, 671, 724, 747], 104) := by decide +kernel
theorem dL_law_136 : decode cL_law 136 = .ok (.aload_n 1, 1) := by decide +kernel
theorem dL_law_137 : decode cL_law 137 = .ok (.invokevirtual 13, 3) := by decide +kernel
theorem dL_law_140 : decode cL_law 140 = .ok (.aload_n 2, 1) := by decide +kernel
theorem dL_law_141 : decode cL_law 141 = .ok (.invokevirtual 17, 3) := by decide +kernel
theorem dL_law_144 : decode cL_law 144 = .ok (.if_icmp .eq 658, 3) := by decide +kernel
theorem dL_law_147 : decode cL_law 147 = .ok (.iconst 0, 1) := by decide +kernel
theorem dL_law_148 : decode cL_law 148 = .ok (.ireturn, 1) := by decide +kernel
theorem dL_law_149 : decode cL_law 149 = .ok (.aload_n 1, 1) := by decide +kernel
theorem dL_law_150 : decode cL_law 150 = .ok (.aload_n 0, 1) := by decide +kernel
theorem dL_law_151 : decode cL_law 151 = .ok (.iload_n 3, 1) := by decide +kernel
theorem dL_law_152 : decode cL_law 152 = .ok (.iconst 1, 1) := by decide +kernel
theorem dL_law_153 : decode cL_law 153 = .ok (.iadd, 1) := by decide +kernel
theorem dL_law_154 : decode cL_law 154 = .ok (.iaload, 1) := by decide +kernel
theorem dL_law_155 : decode cL_law 155 = .ok (.aload_n 0, 1) := by decide +kernel
theorem dL_law_156 : decode cL_law 156 = .ok (.iload_n 3, 1) := by decide +kernel
theorem dL_law_157 : decode cL_law 157 = .ok (.iconst 2, 1) := by decide +kernel
theorem dL_law_158 : decode cL_law 158 = .ok (.iadd, 1) := by decide +kernel
theorem dL_law_159 : decode cL_law 159 = .ok (.iaload, 1) := by decide +kernel
theorem dL_law_160 : decode cL_law 160 = .ok (.aload_n 0, 1) := by decide +kernel
theorem dL_law_161 : decode cL_law 161 = .ok (.iload_n 3, 1) := by decide +kernel
theorem dL_law_162 : decode cL_law 162 = .ok (.iconst 3, 1) := by decide +kernel
theorem dL_law_163 : decode cL_law 163 = .ok (.iadd, 1) := by decide +kernel
theorem dL_law_164 : decode cL_law 164 = .ok (.iaload, 1) := by decide +kernel
theorem dL_law_165 : decode cL_law 165 = .ok (.invokevirtual 18, 3) := by decide +kernel
theorem dL_law_168 : decode cL_law 168 = .ok (.aload_n 2, 1) := by decide +kernel
theorem dL_law_169 : decode cL_law 169 = .ok (.aload_n 0, 1) := by decide +kernel
theorem dL_law_170 : decode cL_law 170 = .ok (.iload_n 3, 1) := by decide +kernel
theorem dL_law_171 : decode cL_law 171 = .ok (.iconst 1, 1) := by decide +kernel
theorem dL_law_172 : decode cL_law 172 = .ok (.iadd, 1) := by decide +kernel
theorem dL_law_173 : decode cL_law 173 = .ok (.iaload, 1) := by decide +kernel
theorem dL_law_174 : decode cL_law 174 = .ok (.aload_n 0, 1) := by decide +kernel
theorem dL_law_175 : decode cL_law 175 = .ok (.iload_n 3, 1) := by decide +kernel
theorem dL_law_176 : decode cL_law 176 = .ok (.iconst 2, 1) := by decide +kernel
theorem dL_law_177 : decode cL_law 177 = .ok (.iadd, 1) := by decide +kernel
theorem dL_law_178 : decode cL_law 178 = .ok (.iaload, 1) := by decide +kernel
theorem dL_law_179 : decode cL_law 179 = .ok (.aload_n 0, 1) := by decide +kernel
theorem dL_law_180 : decode cL_law 180 = .ok (.iload_n 3, 1) := by decide +kernel
theorem dL_law_181 : decode cL_law 181 = .ok (.iconst 3, 1) := by decide +kernel
theorem dL_law_182 : decode cL_law 182 = .ok (.iadd, 1) := by decide +kernel
theorem dL_law_183 : decode cL_law 183 = .ok (.iaload, 1) := by decide +kernel
theorem dL_law_184 : decode cL_law 184 = .ok (.invokevirtual 22, 3) := by decide +kernel
theorem dL_law_187 : decode cL_law 187 = .ok (.if_icmp .eq 615, 3) := by decide +kernel
theorem dL_law_190 : decode cL_law 190 = .ok (.iconst 0, 1) := by decide +kernel
theorem dL_law_191 : decode cL_law 191 = .ok (.ireturn, 1) := by decide +kernel
theorem dL_law_192 : decode cL_law 192 = .ok (.aload_n 1, 1) := by decide +kernel
theorem dL_law_193 : decode cL_law 193 = .ok (.aload_n 0, 1) := by decide +kernel
theorem dL_law_194 : decode cL_law 194 = .ok (.iload_n 3, 1) := by decide +kernel
theorem dL_law_195 : decode cL_law 195 = .ok (.iconst 1, 1) := by decide +kernel
theorem dL_law_196 : decode cL_law 196 = .ok (.iadd, 1) := by decide +kernel
theorem dL_law_197 : decode cL_law 197 = .ok (.iaload, 1) := by decide +kernel
theorem dL_law_198 : decode cL_law 198 = .ok (.aload_n 0, 1) := by decide +kernel
theorem dL_law_199 : decode cL_law 199 = .ok (.iload_n 3, 1) := by decide +kernel
theorem dL_law_200 : decode cL_law 200 = .ok (.iconst 2, 1) := by decide +kernel
theorem dL_law_201 : decode cL_law 201 = .ok (.iadd, 1) := by decide +kernel
theorem dL_law_202 : decode cL_law 202 = .ok (.iaload, 1) := by decide +kernel
theorem dL_law_203 : decode cL_law 203 = .ok (.aload_n 0, 1) := by decide +kernel
theorem dL_law_204 : decode cL_law 204 = .ok (.iload_n 3, 1) := by decide +kernel
theorem dL_law_205 : decode cL_law 205 = .ok (.iconst 3, 1) := by decide +kernel
theorem dL_law_206 : decode cL_law 206 = .ok (.iadd, 1) := by decide +kernel
theorem dL_law_207 : decode cL_law 207 = .ok (.iaload, 1) := by decide +kernel
theorem dL_law_208 : decode cL_law 208 = .ok (.invokevirtual 23, 3) := by decide +kernel
theorem dL_law_211 : decode cL_law 211 = .ok (.aload_n 2, 1) := by decide +kernel
theorem dL_law_212 : decode cL_law 212 = .ok (.aload_n 0, 1) := by decide +kernel
theorem dL_law_213 : decode cL_law 213 = .ok (.iload_n 3, 1) := by decide +kernel
theorem dL_law_214 : decode cL_law 214 = .ok (.iconst 1, 1) := by decide +kernel
theorem dL_law_215 : decode cL_law 215 = .ok (.iadd, 1) := by decide +kernel
theorem dL_law_216 : decode cL_law 216 = .ok (.iaload, 1) := by decide +kernel
theorem dL_law_217 : decode cL_law 217 = .ok (.aload_n 0, 1) := by decide +kernel
theorem dL_law_218 : decode cL_law 218 = .ok (.iload_n 3, 1) := by decide +kernel
theorem dL_law_219 : decode cL_law 219 = .ok (.iconst 2, 1) := by decide +kernel
theorem dL_law_220 : decode cL_law 220 = .ok (.iadd, 1) := by decide +kernel
theorem dL_law_221 : decode cL_law 221 = .ok (.iaload, 1) := by decide +kernel
theorem dL_law_222 : decode cL_law 222 = .ok (.aload_n 0, 1) := by decide +kernel
theorem dL_law_223 : decode cL_law 223 = .ok (.iload_n 3, 1) := by decide +kernel
theorem dL_law_224 : decode cL_law 224 = .ok (.iconst 3, 1) := by decide +kernel
theorem dL_law_225 : decode cL_law 225 = .ok (.iadd, 1) := by decide +kernel
theorem dL_law_226 : decode cL_law 226 = .ok (.iaload, 1) := by decide +kernel
theorem dL_law_227 : decode cL_law 227 = .ok (.invokevirtual 26, 3) := by decide +kernel
theorem dL_law_230 : decode cL_law 230 = .ok (.if_icmp .eq 572, 3) := by decide +kernel
theorem dL_law_233 : decode cL_law 233 = .ok (.iconst 0, 1) := by decide +kernel
theorem dL_law_234 : decode cL_law 234 = .ok (.ireturn, 1) := by decide +kernel
theorem dL_law_235 : decode cL_law 235 = .ok (.aload_n 1, 1) := by decide +kernel
theorem dL_law_236 : decode cL_law 236 = .ok (.aload_n 0, 1) := by decide +kernel
theorem dL_law_237 : decode cL_law 237 = .ok (.iload_n 3, 1) := by decide +kernel
theorem dL_law_238 : decode cL_law 238 = .ok (.iconst 1, 1) := by decide +kernel
theorem dL_law_239 : decode cL_law 239 = .ok (.iadd, 1) := by decide +kernel
theorem dL_law_240 : decode cL_law 240 = .ok (.iaload, 1) := by decide +kernel
theorem dL_law_241 : decode cL_law 241 = .ok (.aload_n 0, 1) := by decide +kernel
theorem dL_law_242 : decode cL_law 242 = .ok (.iload_n 3, 1) := by decide +kernel
theorem dL_law_243 : decode cL_law 243 = .ok (.iconst 2, 1) := by decide +kernel
theorem dL_law_244 : decode cL_law 244 = .ok (.iadd, 1) := by decide +kernel
theorem dL_law_245 : decode cL_law 245 = .ok (.iaload, 1) := by decide +kernel
theorem dL_law_246 : decode cL_law 246 = .ok (.aload_n 0, 1) := by decide +kernel
theorem dL_law_247 : decode cL_law 247 = .ok (.iload_n 3, 1) := by decide +kernel
theorem dL_law_248 : decode cL_law 248 = .ok (.iconst 3, 1) := by decide +kernel
theorem dL_law_249 : decode cL_law 249 = .ok (.iadd, 1) := by decide +kernel
theorem dL_law_250 : decode cL_law 250 = .ok (.iaload, 1) := by decide +kernel
theorem dL_law_251 : decode cL_law 251 = .ok (.invokevirtual 27, 3) := by decide +kernel
theorem dL_law_254 : decode cL_law 254 = .ok (.aload_n 2, 1) := by decide +kernel
theorem dL_law_255 : decode cL_law 255 = .ok (.aload_n 0, 1) := by decide +kernel
theorem dL_law_256 : decode cL_law 256 = .ok (.iload_n 3, 1) := by decide +kernel
theorem dL_law_257 : decode cL_law 257 = .ok (.iconst 1, 1) := by decide +kernel
theorem dL_law_258 : decode cL_law 258 = .ok (.iadd, 1) := by decide +kernel
theorem dL_law_259 : decode cL_law 259 = .ok (.iaload, 1) := by decide +kernel
theorem dL_law_260 : decode cL_law 260 = .ok (.aload_n 0, 1) := by decide +kernel
theorem dL_law_261 : decode cL_law 261 = .ok (.iload_n 3, 1) := by decide +kernel
theorem dL_law_262 : decode cL_law 262 = .ok (.iconst 2, 1) := by decide +kernel
theorem dL_law_263 : decode cL_law 263 = .ok (.iadd, 1) := by decide +kernel
theorem dL_law_264 : decode cL_law 264 = .ok (.iaload, 1) := by decide +kernel
theorem dL_law_265 : decode cL_law 265 = .ok (.aload_n 0, 1) := by decide +kernel
theorem dL_law_266 : decode cL_law 266 = .ok (.iload_n 3, 1) := by decide +kernel
theorem dL_law_267 : decode cL_law 267 = .ok (.iconst 3, 1) := by decide +kernel
theorem dL_law_268 : decode cL_law 268 = .ok (.iadd, 1) := by decide +kernel
theorem dL_law_269 : decode cL_law 269 = .ok (.iaload, 1) := by decide +kernel
theorem dL_law_270 : decode cL_law 270 = .ok (.invokevirtual 30, 3) := by decide +kernel
theorem dL_law_273 : decode cL_law 273 = .ok (.if_icmp .eq 529, 3) := by decide +kernel
theorem dL_law_276 : decode cL_law 276 = .ok (.iconst 0, 1) := by decide +kernel
theorem dL_law_277 : decode cL_law 277 = .ok (.ireturn, 1) := by decide +kernel
theorem dL_law_278 : decode cL_law 278 = .ok (.aload_n 1, 1) := by decide +kernel
theorem dL_law_279 : decode cL_law 279 = .ok (.aload_n 0, 1) := by decide +kernel
theorem dL_law_280 : decode cL_law 280 = .ok (.iload_n 3, 1) := by decide +kernel
theorem dL_law_281 : decode cL_law 281 = .ok (.iconst 1, 1) := by decide +kernel
theorem dL_law_282 : decode cL_law 282 = .ok (.iadd, 1) := by decide +kernel
theorem dL_law_283 : decode cL_law 283 = .ok (.iaload, 1) := by decide +kernel
theorem dL_law_284 : decode cL_law 284 = .ok (.aload_n 0, 1) := by decide +kernel
theorem dL_law_285 : decode cL_law 285 = .ok (.iload_n 3, 1) := by decide +kernel
theorem dL_law_286 : decode cL_law 286 = .ok (.iconst 2, 1) := by decide +kernel
theorem dL_law_287 : decode cL_law 287 = .ok (.iadd, 1) := by decide +kernel
theorem dL_law_288 : decode cL_law 288 = .ok (.iaload, 1) := by decide +kernel
theorem dL_law_289 : decode cL_law 289 = .ok (.invokevirtual 31, 3) := by decide +kernel
theorem dL_law_292 : decode cL_law 292 = .ok (.aload_n 2, 1) := by decide +kernel
theorem dL_law_293 : decode cL_law 293 = .ok (.aload_n 0, 1) := by decide +kernel
theorem dL_law_294 : decode cL_law 294 = .ok (.iload_n 3, 1) := by decide +kernel
theorem dL_law_295 : decode cL_law 295 = .ok (.iconst 1, 1) := by decide +kernel
theorem dL_law_296 : decode cL_law 296 = .ok (.iadd, 1) := by decide +kernel
theorem dL_law_297 : decode cL_law 297 = .ok (.iaload, 1) := by decide +kernel
theorem dL_law_298 : decode cL_law 298 = .ok (.aload_n 0, 1) := by decide +kernel
theorem dL_law_299 : decode cL_law 299 = .ok (.iload_n 3, 1) := by decide +kernel
theorem dL_law_300 : decode cL_law 300 = .ok (.iconst 2, 1) := by decide +kernel
theorem dL_law_301 : decode cL_law 301 = .ok (.iadd, 1) := by decide +kernel
theorem dL_law_302 : decode cL_law 302 = .ok (.iaload, 1) := by decide +kernel
theorem dL_law_303 : decode cL_law 303 = .ok (.invokevirtual 35, 3) := by decide +kernel
theorem dL_law_306 : decode cL_law 306 = .ok (.if_icmp .eq 496, 3) := by decide +kernel
theorem dL_law_309 : decode cL_law 309 = .ok (.iconst 0, 1) := by decide +kernel
theorem dL_law_310 : decode cL_law 310 = .ok (.ireturn, 1) := by decide +kernel
theorem dL_law_311 : decode cL_law 311 = .ok (.aload_n 1, 1) := by decide +kernel
theorem dL_law_312 : decode cL_law 312 = .ok (.aload_n 0, 1) := by decide +kernel
theorem dL_law_313 : decode cL_law 313 = .ok (.iload_n 3, 1) := by decide +kernel
theorem dL_law_314 : decode cL_law 314 = .ok (.iconst 1, 1) := by decide +kernel
theorem dL_law_315 : decode cL_law 315 = .ok (.iadd, 1) := by decide +kernel
theorem dL_law_316 : decode cL_law 316 = .ok (.iaload, 1) := by decide +kernel
theorem dL_law_317 : decode cL_law 317 = .ok (.aload_n 0, 1) := by decide +kernel
theorem dL_law_318 : decode cL_law 318 = .ok (.iload_n 3, 1) := by decide +kernel
theorem dL_law_319 : decode cL_law 319 = .ok (.iconst 2, 1) := by decide +kernel
theorem dL_law_320 : decode cL_law 320 = .ok (.iadd, 1) := by decide +kernel
theorem dL_law_321 : decode cL_law 321 = .ok (.iaload, 1) := by decide +kernel
theorem dL_law_322 : decode cL_law 322 = .ok (.aload_n 0, 1) := by decide +kernel
theorem dL_law_323 : decode cL_law 323 = .ok (.iload_n 3, 1) := by decide +kernel
theorem dL_law_324 : decode cL_law 324 = .ok (.iconst 3, 1) := by decide +kernel
theorem dL_law_325 : decode cL_law 325 = .ok (.iadd, 1) := by decide +kernel
theorem dL_law_326 : decode cL_law 326 = .ok (.iaload, 1) := by decide +kernel
theorem dL_law_327 : decode cL_law 327 = .ok (.aload_n 0, 1) := by decide +kernel
theorem dL_law_328 : decode cL_law 328 = .ok (.iload_n 3, 1) := by decide +kernel
theorem dL_law_329 : decode cL_law 329 = .ok (.iconst 4, 1) := by decide +kernel
theorem dL_law_330 : decode cL_law 330 = .ok (.iadd, 1) := by decide +kernel
theorem dL_law_331 : decode cL_law 331 = .ok (.iaload, 1) := by decide +kernel
theorem dL_law_332 : decode cL_law 332 = .ok (.invokevirtual 36, 3) := by decide +kernel
theorem dL_law_335 : decode cL_law 335 = .ok (.aload_n 2, 1) := by decide +kernel
theorem dL_law_336 : decode cL_law 336 = .ok (.aload_n 0, 1) := by decide +kernel
theorem dL_law_337 : decode cL_law 337 = .ok (.iload_n 3, 1) := by decide +kernel
theorem dL_law_338 : decode cL_law 338 = .ok (.iconst 1, 1) := by decide +kernel
theorem dL_law_339 : decode cL_law 339 = .ok (.iadd, 1) := by decide +kernel
theorem dL_law_340 : decode cL_law 340 = .ok (.iaload, 1) := by decide +kernel
theorem dL_law_341 : decode cL_law 341 = .ok (.aload_n 0, 1) := by decide +kernel
theorem dL_law_342 : decode cL_law 342 = .ok (.iload_n 3, 1) := by decide +kernel
theorem dL_law_343 : decode cL_law 343 = .ok (.iconst 2, 1) := by decide +kernel
theorem dL_law_344 : decode cL_law 344 = .ok (.iadd, 1) := by decide +kernel
theorem dL_law_345 : decode cL_law 345 = .ok (.iaload, 1) := by decide +kernel
theorem dL_law_346 : decode cL_law 346 = .ok (.aload_n 0, 1) := by decide +kernel
theorem dL_law_347 : decode cL_law 347 = .ok (.iload_n 3, 1) := by decide +kernel
theorem dL_law_348 : decode cL_law 348 = .ok (.iconst 3, 1) := by decide +kernel
theorem dL_law_349 : decode cL_law 349 = .ok (.iadd, 1) := by decide +kernel
theorem dL_law_350 : decode cL_law 350 = .ok (.iaload, 1) := by decide +kernel
theorem dL_law_351 : decode cL_law 351 = .ok (.aload_n 0, 1) := by decide +kernel
theorem dL_law_352 : decode cL_law 352 = .ok (.iload_n 3, 1) := by decide +kernel
theorem dL_law_353 : decode cL_law 353 = .ok (.iconst 4, 1) := by decide +kernel
theorem dL_law_354 : decode cL_law 354 = .ok (.iadd, 1) := by decide +kernel
theorem dL_law_355 : decode cL_law 355 = .ok (.iaload, 1) := by decide +kernel
theorem dL_law_356 : decode cL_law 356 = .ok (.invokevirtual 40, 3) := by decide +kernel
theorem dL_law_359 : decode cL_law 359 = .ok (.if_icmp .eq 443, 3) := by decide +kernel
theorem dL_law_362 : decode cL_law 362 = .ok (.iconst 0, 1) := by decide +kernel
theorem dL_law_363 : decode cL_law 363 = .ok (.ireturn, 1) := by decide +kernel
theorem dL_law_364 : decode cL_law 364 = .ok (.aload_n 1, 1) := by decide +kernel
theorem dL_law_365 : decode cL_law 365 = .ok (.aload_n 0, 1) := by decide +kernel
theorem dL_law_366 : decode cL_law 366 = .ok (.iload_n 3, 1) := by decide +kernel
theorem dL_law_367 : decode cL_law 367 = .ok (.iconst 1, 1) := by decide +kernel
theorem dL_law_368 : decode cL_law 368 = .ok (.iadd, 1) := by decide +kernel
theorem dL_law_369 : decode cL_law 369 = .ok (.iaload, 1) := by decide +kernel
theorem dL_law_370 : decode cL_law 370 = .ok (.invokevirtual 41, 3) := by decide +kernel
theorem dL_law_373 : decode cL_law 373 = .ok (.aload_n 2, 1) := by decide +kernel
theorem dL_law_374 : decode cL_law 374 = .ok (.aload_n 0, 1) := by decide +kernel
theorem dL_law_375 : decode cL_law 375 = .ok (.iload_n 3, 1) := by decide +kernel
theorem dL_law_376 : decode cL_law 376 = .ok (.iconst 1, 1) := by decide +kernel
theorem dL_law_377 : decode cL_law 377 = .ok (.iadd, 1) := by decide +kernel
theorem dL_law_378 : decode cL_law 378 = .ok (.iaload, 1) := by decide +kernel
theorem dL_law_379 : decode cL_law 379 = .ok (.invokevirtual 45, 3) := by decide +kernel
theorem dL_law_382 : decode cL_law 382 = .ok (.if_icmp .eq 420, 3) := by decide +kernel
theorem dL_law_385 : decode cL_law 385 = .ok (.iconst 0, 1) := by decide +kernel
theorem dL_law_386 : decode cL_law 386 = .ok (.ireturn, 1) := by decide +kernel
theorem dL_law_387 : decode cL_law 387 = .ok (.aload_n 1, 1) := by decide +kernel
theorem dL_law_388 : decode cL_law 388 = .ok (.aload_n 0, 1) := by decide +kernel
theorem dL_law_389 : decode cL_law 389 = .ok (.iload_n 3, 1) := by decide +kernel
theorem dL_law_390 : decode cL_law 390 = .ok (.iconst 1, 1) := by decide +kernel
theorem dL_law_391 : decode cL_law 391 = .ok (.iadd, 1) := by decide +kernel
theorem dL_law_392 : decode cL_law 392 = .ok (.iaload, 1) := by decide +kernel
theorem dL_law_393 : decode cL_law 393 = .ok (.aload_n 0, 1) := by decide +kernel
theorem dL_law_394 : decode cL_law 394 = .ok (.iload_n 3, 1) := by decide +kernel
theorem dL_law_395 : decode cL_law 395 = .ok (.iconst 2, 1) := by decide +kernel
theorem dL_law_396 : decode cL_law 396 = .ok (.iadd, 1) := by decide +kernel
theorem dL_law_397 : decode cL_law 397 = .ok (.iaload, 1) := by decide +kernel
theorem dL_law_398 : decode cL_law 398 = .ok (.invokevirtual 46, 3) := by decide +kernel
theorem dL_law_401 : decode cL_law 401 = .ok (.aload_n 2, 1) := by decide +kernel
theorem dL_law_402 : decode cL_law 402 = .ok (.aload_n 0, 1) := by decide +kernel
theorem dL_law_403 : decode cL_law 403 = .ok (.iload_n 3, 1) := by decide +kernel
theorem dL_law_404 : decode cL_law 404 = .ok (.iconst 1, 1) := by decide +kernel
theorem dL_law_405 : decode cL_law 405 = .ok (.iadd, 1) := by decide +kernel
theorem dL_law_406 : decode cL_law 406 = .ok (.iaload, 1) := by decide +kernel
theorem dL_law_407 : decode cL_law 407 = .ok (.aload_n 0, 1) := by decide +kernel
theorem dL_law_408 : decode cL_law 408 = .ok (.iload_n 3, 1) := by decide +kernel
theorem dL_law_409 : decode cL_law 409 = .ok (.iconst 2, 1) := by decide +kernel
theorem dL_law_410 : decode cL_law 410 = .ok (.iadd, 1) := by decide +kernel
theorem dL_law_411 : decode cL_law 411 = .ok (.iaload, 1) := by decide +kernel
theorem dL_law_412 : decode cL_law 412 = .ok (.invokevirtual 49, 3) := by decide +kernel
theorem dL_law_415 : decode cL_law 415 = .ok (.if_icmp .eq 387, 3) := by decide +kernel
theorem dL_law_418 : decode cL_law 418 = .ok (.iconst 0, 1) := by decide +kernel
theorem dL_law_419 : decode cL_law 419 = .ok (.ireturn, 1) := by decide +kernel
theorem dL_law_420 : decode cL_law 420 = .ok (.aload_n 1, 1) := by decide +kernel
theorem dL_law_421 : decode cL_law 421 = .ok (.invokevirtual 50, 3) := by decide +kernel
theorem dL_law_424 : decode cL_law 424 = .ok (.aload_n 2, 1) := by decide +kernel
theorem dL_law_425 : decode cL_law 425 = .ok (.invokevirtual 53, 3) := by decide +kernel
theorem dL_law_428 : decode cL_law 428 = .ok (.if_icmp .eq 374, 3) := by decide +kernel
theorem dL_law_431 : decode cL_law 431 = .ok (.iconst 0, 1) := by decide +kernel
theorem dL_law_432 : decode cL_law 432 = .ok (.ireturn, 1) := by decide +kernel
theorem dL_law_433 : decode cL_law 433 = .ok (.aload_n 1, 1) := by decide +kernel
theorem dL_law_434 : decode cL_law 434 = .ok (.aload_n 0, 1) := by decide +kernel
theorem dL_law_435 : decode cL_law 435 = .ok (.iload_n 3, 1) := by decide +kernel
theorem dL_law_436 : decode cL_law 436 = .ok (.iconst 1, 1) := by decide +kernel
theorem dL_law_437 : decode cL_law 437 = .ok (.iadd, 1) := by decide +kernel
theorem dL_law_438 : decode cL_law 438 = .ok (.iaload, 1) := by decide +kernel
theorem dL_law_439 : decode cL_law 439 = .ok (.invokevirtual 54, 3) := by decide +kernel
theorem dL_law_442 : decode cL_law 442 = .ok (.aload_n 2, 1) := by decide +kernel
theorem dL_law_443 : decode cL_law 443 = .ok (.aload_n 0, 1) := by decide +kernel
theorem dL_law_444 : decode cL_law 444 = .ok (.iload_n 3, 1) := by decide +kernel
theorem dL_law_445 : decode cL_law 445 = .ok (.iconst 1, 1) := by decide +kernel
theorem dL_law_446 : decode cL_law 446 = .ok (.iadd, 1) := by decide +kernel
theorem dL_law_447 : decode cL_law 447 = .ok (.iaload, 1) := by decide +kernel
theorem dL_law_448 : decode cL_law 448 = .ok (.invokevirtual 57, 3) := by decide +kernel
theorem dL_law_451 : decode cL_law 451 = .ok (.if_icmp .eq 351, 3) := by decide +kernel
theorem dL_law_454 : decode cL_law 454 = .ok (.iconst 0, 1) := by decide +kernel
theorem dL_law_455 : decode cL_law 455 = .ok (.ireturn, 1) := by decide +kernel
theorem dL_law_456 : decode cL_law 456 = .ok (.aload_n 1, 1) := by decide +kernel
theorem dL_law_457 : decode cL_law 457 = .ok (.invokevirtual 58, 3) := by decide +kernel
theorem dL_law_460 : decode cL_law 460 = .ok (.aload_n 2, 1) := by decide +kernel
theorem dL_law_461 : decode cL_law 461 = .ok (.invokevirtual 61, 3) := by decide +kernel
theorem dL_law_464 : decode cL_law 464 = .ok (.if_icmp .eq 338, 3) := by decide +kernel
theorem dL_law_467 : decode cL_law 467 = .ok (.iconst 0, 1) := by decide +kernel
theorem dL_law_468 : decode cL_law 468 = .ok (.ireturn, 1) := by decide +kernel
theorem dL_law_469 : decode cL_law 469 = .ok (.aload_n 1, 1) := by decide +kernel
theorem dL_law_470 : decode cL_law 470 = .ok (.aload_n 0, 1) := by decide +kernel
theorem dL_law_471 : decode cL_law 471 = .ok (.iload_n 3, 1) := by decide +kernel
theorem dL_law_472 : decode cL_law 472 = .ok (.iconst 1, 1) := by decide +kernel
theorem dL_law_473 : decode cL_law 473 = .ok (.iadd, 1) := by decide +kernel
theorem dL_law_474 : decode cL_law 474 = .ok (.iaload, 1) := by decide +kernel
theorem dL_law_475 : decode cL_law 475 = .ok (.invokevirtual 62, 3) := by decide +kernel
theorem dL_law_478 : decode cL_law 478 = .ok (.aload_n 2, 1) := by decide +kernel
theorem dL_law_479 : decode cL_law 479 = .ok (.aload_n 0, 1) := by decide +kernel
theorem dL_law_480 : decode cL_law 480 = .ok (.iload_n 3, 1) := by decide +kernel
theorem dL_law_481 : decode cL_law 481 = .ok (.iconst 1, 1) := by decide +kernel
theorem dL_law_482 : decode cL_law 482 = .ok (.iadd, 1) := by decide +kernel
theorem dL_law_483 : decode cL_law 483 = .ok (.iaload, 1) := by decide +kernel
theorem dL_law_484 : decode cL_law 484 = .ok (.invokevirtual 65, 3) := by decide +kernel
theorem dL_law_487 : decode cL_law 487 = .ok (.if_icmp .eq 315, 3) := by decide +kernel
theorem dL_law_490 : decode cL_law 490 = .ok (.iconst 0, 1) := by decide +kernel
theorem dL_law_491 : decode cL_law 491 = .ok (.ireturn, 1) := by decide +kernel
theorem dL_law_492 : decode cL_law 492 = .ok (.aload_n 1, 1) := by decide +kernel
theorem dL_law_493 : decode cL_law 493 = .ok (.aload_n 0, 1) := by decide +kernel
theorem dL_law_494 : decode cL_law 494 = .ok (.iload_n 3, 1) := by decide +kernel
theorem dL_law_495 : decode cL_law 495 = .ok (.iconst 1, 1) := by decide +kernel
theorem dL_law_496 : decode cL_law 496 = .ok (.iadd, 1) := by decide +kernel
theorem dL_law_497 : decode cL_law 497 = .ok (.iaload, 1) := by decide +kernel
theorem dL_law_498 : decode cL_law 498 = .ok (.invokevirtual 66, 3) := by decide +kernel
theorem dL_law_501 : decode cL_law 501 = .ok (.aload_n 2, 1) := by decide +kernel
theorem dL_law_502 : decode cL_law 502 = .ok (.aload_n 0, 1) := by decide +kernel
theorem dL_law_503 : decode cL_law 503 = .ok (.iload_n 3, 1) := by decide +kernel
theorem dL_law_504 : decode cL_law 504 = .ok (.iconst 1, 1) := by decide +kernel
theorem dL_law_505 : decode cL_law 505 = .ok (.iadd, 1) := by decide +kernel
theorem dL_law_506 : decode cL_law 506 = .ok (.iaload, 1) := by decide +kernel
theorem dL_law_507 : decode cL_law 507 = .ok (.invokevirtual 69, 3) := by decide +kernel
theorem dL_law_510 : decode cL_law 510 = .ok (.if_icmp .eq 292, 3) := by decide +kernel
theorem dL_law_513 : decode cL_law 513 = .ok (.iconst 0, 1) := by decide +kernel
theorem dL_law_514 : decode cL_law 514 = .ok (.ireturn, 1) := by decide +kernel
theorem dL_law_515 : decode cL_law 515 = .ok (.aload_n 1, 1) := by decide +kernel
theorem dL_law_516 : decode cL_law 516 = .ok (.aload_n 0, 1) := by decide +kernel
theorem dL_law_517 : decode cL_law 517 = .ok (.iload_n 3, 1) := by decide +kernel
theorem dL_law_518 : decode cL_law 518 = .ok (.iconst 1, 1) := by decide +kernel
theorem dL_law_519 : decode cL_law 519 = .ok (.iadd, 1) := by decide +kernel
theorem dL_law_520 : decode cL_law 520 = .ok (.iaload, 1) := by decide +kernel
theorem dL_law_521 : decode cL_law 521 = .ok (.invokevirtual 70, 3) := by decide +kernel
theorem dL_law_524 : decode cL_law 524 = .ok (.aload_n 2, 1) := by decide +kernel
theorem dL_law_525 : decode cL_law 525 = .ok (.aload_n 0, 1) := by decide +kernel
theorem dL_law_526 : decode cL_law 526 = .ok (.iload_n 3, 1) := by decide +kernel
theorem dL_law_527 : decode cL_law 527 = .ok (.iconst 1, 1) := by decide +kernel
theorem dL_law_528 : decode cL_law 528 = .ok (.iadd, 1) := by decide +kernel
theorem dL_law_529 : decode cL_law 529 = .ok (.iaload, 1) := by decide +kernel
theorem dL_law_530 : decode cL_law 530 = .ok (.invokevirtual 73, 3) := by decide +kernel
theorem dL_law_533 : decode cL_law 533 = .ok (.if_icmp .eq 269, 3) := by decide +kernel
theorem dL_law_536 : decode cL_law 536 = .ok (.iconst 0, 1) := by decide +kernel
theorem dL_law_537 : decode cL_law 537 = .ok (.ireturn, 1) := by decide +kernel
theorem dL_law_538 : decode cL_law 538 = .ok (.aload_n 1, 1) := by decide +kernel
theorem dL_law_539 : decode cL_law 539 = .ok (.aload_n 0, 1) := by decide +kernel
theorem dL_law_540 : decode cL_law 540 = .ok (.iload_n 3, 1) := by decide +kernel
theorem dL_law_541 : decode cL_law 541 = .ok (.iconst 1, 1) := by decide +kernel
theorem dL_law_542 : decode cL_law 542 = .ok (.iadd, 1) := by decide +kernel
theorem dL_law_543 : decode cL_law 543 = .ok (.iaload, 1) := by decide +kernel
theorem dL_law_544 : decode cL_law 544 = .ok (.aload_n 0, 1) := by decide +kernel
theorem dL_law_545 : decode cL_law 545 = .ok (.iload_n 3, 1) := by decide +kernel
theorem dL_law_546 : decode cL_law 546 = .ok (.iconst 2, 1) := by decide +kernel
theorem dL_law_547 : decode cL_law 547 = .ok (.iadd, 1) := by decide +kernel
theorem dL_law_548 : decode cL_law 548 = .ok (.iaload, 1) := by decide +kernel
theorem dL_law_549 : decode cL_law 549 = .ok (.invokevirtual 74, 3) := by decide +kernel
theorem dL_law_552 : decode cL_law 552 = .ok (.aload_n 2, 1) := by decide +kernel
theorem dL_law_553 : decode cL_law 553 = .ok (.aload_n 0, 1) := by decide +kernel
theorem dL_law_554 : decode cL_law 554 = .ok (.iload_n 3, 1) := by decide +kernel
theorem dL_law_555 : decode cL_law 555 = .ok (.iconst 1, 1) := by decide +kernel
theorem dL_law_556 : decode cL_law 556 = .ok (.iadd, 1) := by decide +kernel
theorem dL_law_557 : decode cL_law 557 = .ok (.iaload, 1) := by decide +kernel
theorem dL_law_558 : decode cL_law 558 = .ok (.aload_n 0, 1) := by decide +kernel
theorem dL_law_559 : decode cL_law 559 = .ok (.iload_n 3, 1) := by decide +kernel
theorem dL_law_560 : decode cL_law 560 = .ok (.iconst 2, 1) := by decide +kernel
theorem dL_law_561 : decode cL_law 561 = .ok (.iadd, 1) := by decide +kernel
theorem dL_law_562 : decode cL_law 562 = .ok (.iaload, 1) := by decide +kernel
theorem dL_law_563 : decode cL_law 563 = .ok (.invokevirtual 77, 3) := by decide +kernel
theorem dL_law_566 : decode cL_law 566 = .ok (.if_icmp .eq 236, 3) := by decide +kernel
theorem dL_law_569 : decode cL_law 569 = .ok (.iconst 0, 1) := by decide +kernel
theorem dL_law_570 : decode cL_law 570 = .ok (.ireturn, 1) := by decide +kernel
theorem dL_law_571 : decode cL_law 571 = .ok (.aload_n 1, 1) := by decide +kernel
theorem dL_law_572 : decode cL_law 572 = .ok (.aload_n 0, 1) := by decide +kernel
theorem dL_law_573 : decode cL_law 573 = .ok (.iload_n 3, 1) := by decide +kernel
theorem dL_law_574 : decode cL_law 574 = .ok (.iconst 1, 1) := by decide +kernel
theorem dL_law_575 : decode cL_law 575 = .ok (.iadd, 1) := by decide +kernel
theorem dL_law_576 : decode cL_law 576 = .ok (.iaload, 1) := by decide +kernel
theorem dL_law_577 : decode cL_law 577 = .ok (.aload_n 0, 1) := by decide +kernel
theorem dL_law_578 : decode cL_law 578 = .ok (.iload_n 3, 1) := by decide +kernel
theorem dL_law_579 : decode cL_law 579 = .ok (.iconst 2, 1) := by decide +kernel
theorem dL_law_580 : decode cL_law 580 = .ok (.iadd, 1) := by decide +kernel
theorem dL_law_581 : decode cL_law 581 = .ok (.iaload, 1) := by decide +kernel
theorem dL_law_582 : decode cL_law 582 = .ok (.invokevirtual 78, 3) := by decide +kernel
theorem dL_law_585 : decode cL_law 585 = .ok (.aload_n 2, 1) := by decide +kernel
theorem dL_law_586 : decode cL_law 586 = .ok (.aload_n 0, 1) := by decide +kernel
theorem dL_law_587 : decode cL_law 587 = .ok (.iload_n 3, 1) := by decide +kernel
theorem dL_law_588 : decode cL_law 588 = .ok (.iconst 1, 1) := by decide +kernel
theorem dL_law_589 : decode cL_law 589 = .ok (.iadd, 1) := by decide +kernel
theorem dL_law_590 : decode cL_law 590 = .ok (.iaload, 1) := by decide +kernel
theorem dL_law_591 : decode cL_law 591 = .ok (.aload_n 0, 1) := by decide +kernel
theorem dL_law_592 : decode cL_law 592 = .ok (.iload_n 3, 1) := by decide +kernel
theorem dL_law_593 : decode cL_law 593 = .ok (.iconst 2, 1) := by decide +kernel
theorem dL_law_594 : decode cL_law 594 = .ok (.iadd, 1) := by decide +kernel
theorem dL_law_595 : decode cL_law 595 = .ok (.iaload, 1) := by decide +kernel
theorem dL_law_596 : decode cL_law 596 = .ok (.invokevirtual 81, 3) := by decide +kernel
theorem dL_law_599 : decode cL_law 599 = .ok (.if_icmp .eq 203, 3) := by decide +kernel
theorem dL_law_602 : decode cL_law 602 = .ok (.iconst 0, 1) := by decide +kernel
theorem dL_law_603 : decode cL_law 603 = .ok (.ireturn, 1) := by decide +kernel
theorem dL_law_604 : decode cL_law 604 = .ok (.aload_n 1, 1) := by decide +kernel
theorem dL_law_605 : decode cL_law 605 = .ok (.aload_n 0, 1) := by decide +kernel
theorem dL_law_606 : decode cL_law 606 = .ok (.iload_n 3, 1) := by decide +kernel
theorem dL_law_607 : decode cL_law 607 = .ok (.iconst 1, 1) := by decide +kernel
theorem dL_law_608 : decode cL_law 608 = .ok (.iadd, 1) := by decide +kernel
theorem dL_law_609 : decode cL_law 609 = .ok (.iaload, 1) := by decide +kernel
theorem dL_law_610 : decode cL_law 610 = .ok (.aload_n 0, 1) := by decide +kernel
theorem dL_law_611 : decode cL_law 611 = .ok (.iload_n 3, 1) := by decide +kernel
theorem dL_law_612 : decode cL_law 612 = .ok (.iconst 2, 1) := by decide +kernel
theorem dL_law_613 : decode cL_law 613 = .ok (.iadd, 1) := by decide +kernel
theorem dL_law_614 : decode cL_law 614 = .ok (.iaload, 1) := by decide +kernel
theorem dL_law_615 : decode cL_law 615 = .ok (.invokevirtual 82, 3) := by decide +kernel
theorem dL_law_618 : decode cL_law 618 = .ok (.aload_n 2, 1) := by decide +kernel
theorem dL_law_619 : decode cL_law 619 = .ok (.aload_n 0, 1) := by decide +kernel
theorem dL_law_620 : decode cL_law 620 = .ok (.iload_n 3, 1) := by decide +kernel
theorem dL_law_621 : decode cL_law 621 = .ok (.iconst 1, 1) := by decide +kernel
theorem dL_law_622 : decode cL_law 622 = .ok (.iadd, 1) := by decide +kernel
theorem dL_law_623 : decode cL_law 623 = .ok (.iaload, 1) := by decide +kernel
theorem dL_law_624 : decode cL_law 624 = .ok (.aload_n 0, 1) := by decide +kernel
theorem dL_law_625 : decode cL_law 625 = .ok (.iload_n 3, 1) := by decide +kernel
theorem dL_law_626 : decode cL_law 626 = .ok (.iconst 2, 1) := by decide +kernel
theorem dL_law_627 : decode cL_law 627 = .ok (.iadd, 1) := by decide +kernel
theorem dL_law_628 : decode cL_law 628 = .ok (.iaload, 1) := by decide +kernel
theorem dL_law_629 : decode cL_law 629 = .ok (.invokevirtual 85, 3) := by decide +kernel
theorem dL_law_632 : decode cL_law 632 = .ok (.if_icmp .eq 170, 3) := by decide +kernel
theorem dL_law_635 : decode cL_law 635 = .ok (.iconst 0, 1) := by decide +kernel
theorem dL_law_636 : decode cL_law 636 = .ok (.ireturn, 1) := by decide +kernel
theorem dL_law_637 : decode cL_law 637 = .ok (.aload_n 1, 1) := by decide +kernel
theorem dL_law_638 : decode cL_law 638 = .ok (.aload_n 0, 1) := by decide +kernel
theorem dL_law_639 : decode cL_law 639 = .ok (.iload_n 3, 1) := by decide +kernel
theorem dL_law_640 : decode cL_law 640 = .ok (.iconst 1, 1) := by decide +kernel
theorem dL_law_641 : decode cL_law 641 = .ok (.iadd, 1) := by decide +kernel
theorem dL_law_642 : decode cL_law 642 = .ok (.iaload, 1) := by decide +kernel
theorem dL_law_643 : decode cL_law 643 = .ok (.aload_n 0, 1) := by decide +kernel
theorem dL_law_644 : decode cL_law 644 = .ok (.iload_n 3, 1) := by decide +kernel
theorem dL_law_645 : decode cL_law 645 = .ok (.iconst 2, 1) := by decide +kernel
theorem dL_law_646 : decode cL_law 646 = .ok (.iadd, 1) := by decide +kernel
theorem dL_law_647 : decode cL_law 647 = .ok (.iaload, 1) := by decide +kernel
theorem dL_law_648 : decode cL_law 648 = .ok (.invokevirtual 86, 3) := by decide +kernel
theorem dL_law_651 : decode cL_law 651 = .ok (.aload_n 2, 1) := by decide +kernel
theorem dL_law_652 : decode cL_law 652 = .ok (.aload_n 0, 1) := by decide +kernel
theorem dL_law_653 : decode cL_law 653 = .ok (.iload_n 3, 1) := by decide +kernel
theorem dL_law_654 : decode cL_law 654 = .ok (.iconst 1, 1) := by decide +kernel
theorem dL_law_655 : decode cL_law 655 = .ok (.iadd, 1) := by decide +kernel
theorem dL_law_656 : decode cL_law 656 = .ok (.iaload, 1) := by decide +kernel
theorem dL_law_657 : decode cL_law 657 = .ok (.aload_n 0, 1) := by decide +kernel
theorem dL_law_658 : decode cL_law 658 = .ok (.iload_n 3, 1) := by decide +kernel
theorem dL_law_659 : decode cL_law 659 = .ok (.iconst 2, 1) := by decide +kernel
theorem dL_law_660 : decode cL_law 660 = .ok (.iadd, 1) := by decide +kernel
theorem dL_law_661 : decode cL_law 661 = .ok (.iaload, 1) := by decide +kernel
theorem dL_law_662 : decode cL_law 662 = .ok (.invokevirtual 89, 3) := by decide +kernel
theorem dL_law_665 : decode cL_law 665 = .ok (.if_icmp .eq 137, 3) := by decide +kernel
theorem dL_law_668 : decode cL_law 668 = .ok (.iconst 0, 1) := by decide +kernel
theorem dL_law_669 : decode cL_law 669 = .ok (.ireturn, 1) := by decide +kernel
theorem dL_law_670 : decode cL_law 670 = .ok (.aload_n 1, 1) := by decide +kernel
theorem dL_law_671 : decode cL_law 671 = .ok (.aload_n 0, 1) := by decide +kernel
theorem dL_law_672 : decode cL_law 672 = .ok (.iload_n 3, 1) := by decide +kernel
theorem dL_law_673 : decode cL_law 673 = .ok (.iconst 1, 1) := by decide +kernel
theorem dL_law_674 : decode cL_law 674 = .ok (.iadd, 1) := by decide +kernel
theorem dL_law_675 : decode cL_law 675 = .ok (.iaload, 1) := by decide +kernel
theorem dL_law_676 : decode cL_law 676 = .ok (.aload_n 0, 1) := by decide +kernel
theorem dL_law_677 : decode cL_law 677 = .ok (.iload_n 3, 1) := by decide +kernel
theorem dL_law_678 : decode cL_law 678 = .ok (.iconst 2, 1) := by decide +kernel
theorem dL_law_679 : decode cL_law 679 = .ok (.iadd, 1) := by decide +kernel
theorem dL_law_680 : decode cL_law 680 = .ok (.iaload, 1) := by decide +kernel
theorem dL_law_681 : decode cL_law 681 = .ok (.invokevirtual 90, 3) := by decide +kernel
theorem dL_law_684 : decode cL_law 684 = .ok (.aload_n 2, 1) := by decide +kernel
theorem dL_law_685 : decode cL_law 685 = .ok (.aload_n 0, 1) := by decide +kernel
theorem dL_law_686 : decode cL_law 686 = .ok (.iload_n 3, 1) := by decide +kernel
theorem dL_law_687 : decode cL_law 687 = .ok (.iconst 1, 1) := by decide +kernel
theorem dL_law_688 : decode cL_law 688 = .ok (.iadd, 1) := by decide +kernel
theorem dL_law_689 : decode cL_law 689 = .ok (.iaload, 1) := by decide +kernel
theorem dL_law_690 : decode cL_law 690 = .ok (.aload_n 0, 1) := by decide +kernel
theorem dL_law_691 : decode cL_law 691 = .ok (.iload_n 3, 1) := by decide +kernel
theorem dL_law_692 : decode cL_law 692 = .ok (.iconst 2, 1) := by decide +kernel
theorem dL_law_693 : decode cL_law 693 = .ok (.iadd, 1) := by decide +kernel
theorem dL_law_694 : decode cL_law 694 = .ok (.iaload, 1) := by decide +kernel
theorem dL_law_695 : decode cL_law 695 = .ok (.invokevirtual 93, 3) := by decide +kernel
theorem dL_law_698 : decode cL_law 698 = .ok (.if_icmp .eq 104, 3) := by decide +kernel
theorem dL_law_701 : decode cL_law 701 = .ok (.iconst 0, 1) := by decide +kernel
theorem dL_law_702 : decode cL_law 702 = .ok (.ireturn, 1) := by decide +kernel
theorem dL_law_703 : decode cL_law 703 = .ok (.aload_n 1, 1) := by decide +kernel
theorem dL_law_704 : decode cL_law 704 = .ok (.aload_n 0, 1) := by decide +kernel
theorem dL_law_705 : decode cL_law 705 = .ok (.iload_n 3, 1) := by decide +kernel
theorem dL_law_706 : decode cL_law 706 = .ok (.iconst 1, 1) := by decide +kernel
theorem dL_law_707 : decode cL_law 707 = .ok (.iadd, 1) := by decide +kernel
theorem dL_law_708 : decode cL_law 708 = .ok (.iaload, 1) := by decide +kernel
theorem dL_law_709 : decode cL_law 709 = .ok (.aload_n 0, 1) := by decide +kernel
theorem dL_law_710 : decode cL_law 710 = .ok (.iload_n 3, 1) := by decide +kernel
theorem dL_law_711 : decode cL_law 711 = .ok (.iconst 2, 1) := by decide +kernel
theorem dL_law_712 : decode cL_law 712 = .ok (.iadd, 1) := by decide +kernel
theorem dL_law_713 : decode cL_law 713 = .ok (.iaload, 1) := by decide +kernel
theorem dL_law_714 : decode cL_law 714 = .ok (.aload_n 0, 1) := by decide +kernel
theorem dL_law_715 : decode cL_law 715 = .ok (.iload_n 3, 1) := by decide +kernel
theorem dL_law_716 : decode cL_law 716 = .ok (.iconst 3, 1) := by decide +kernel
theorem dL_law_717 : decode cL_law 717 = .ok (.iadd, 1) := by decide +kernel
theorem dL_law_718 : decode cL_law 718 = .ok (.iaload, 1) := by decide +kernel
theorem dL_law_719 : decode cL_law 719 = .ok (.aload_n 0, 1) := by decide +kernel
theorem dL_law_720 : decode cL_law 720 = .ok (.iload_n 3, 1) := by decide +kernel
theorem dL_law_721 : decode cL_law 721 = .ok (.iconst 4, 1) := by decide +kernel
theorem dL_law_722 : decode cL_law 722 = .ok (.iadd, 1) := by decide +kernel
theorem dL_law_723 : decode cL_law 723 = .ok (.iaload, 1) := by decide +kernel
theorem dL_law_724 : decode cL_law 724 = .ok (.invokevirtual 94, 3) := by decide +kernel
theorem dL_law_727 : decode cL_law 727 = .ok (.aload_n 2, 1) := by decide +kernel
theorem dL_law_728 : decode cL_law 728 = .ok (.aload_n 0, 1) := by decide +kernel
theorem dL_law_729 : decode cL_law 729 = .ok (.iload_n 3, 1) := by decide +kernel
theorem dL_law_730 : decode cL_law 730 = .ok (.iconst 1, 1) := by decide +kernel
theorem dL_law_731 : decode cL_law 731 = .ok (.iadd, 1) := by decide +kernel
theorem dL_law_732 : decode cL_law 732 = .ok (.iaload, 1) := by decide +kernel
theorem dL_law_733 : decode cL_law 733 = .ok (.aload_n 0, 1) := by decide +kernel
theorem dL_law_734 : decode cL_law 734 = .ok (.iload_n 3, 1) := by decide +kernel
theorem dL_law_735 : decode cL_law 735 = .ok (.iconst 2, 1) := by decide +kernel
theorem dL_law_736 : decode cL_law 736 = .ok (.iadd, 1) := by decide +kernel
theorem dL_law_737 : decode cL_law 737 = .ok (.iaload, 1) := by decide +kernel
theorem dL_law_738 : decode cL_law 738 = .ok (.aload_n 0, 1) := by decide +kernel
theorem dL_law_739 : decode cL_law 739 = .ok (.iload_n 3, 1) := by decide +kernel
theorem dL_law_740 : decode cL_law 740 = .ok (.iconst 3, 1) := by decide +kernel
theorem dL_law_741 : decode cL_law 741 = .ok (.iadd, 1) := by decide +kernel
theorem dL_law_742 : decode cL_law 742 = .ok (.iaload, 1) := by decide +kernel
theorem dL_law_743 : decode cL_law 743 = .ok (.aload_n 0, 1) := by decide +kernel
theorem dL_law_744 : decode cL_law 744 = .ok (.iload_n 3, 1) := by decide +kernel
theorem dL_law_745 : decode cL_law 745 = .ok (.iconst 4, 1) := by decide +kernel
theorem dL_law_746 : decode cL_law 746 = .ok (.iadd, 1) := by decide +kernel
theorem dL_law_747 : decode cL_law 747 = .ok (.iaload, 1) := by decide +kernel
theorem dL_law_748 : decode cL_law 748 = .ok (.invokevirtual 97, 3) := by decide +kernel
theorem dL_law_751 : decode cL_law 751 = .ok (.if_icmp .eq 51, 3) := by decide +kernel
theorem dL_law_754 : decode cL_law 754 = .ok (.iconst 0, 1) := by decide +kernel
theorem dL_law_755 : decode cL_law 755 = .ok (.ireturn, 1) := by decide +kernel
theorem dL_law_756 : decode cL_law 756 = .ok (.aload_n 1, 1) := by decide +kernel
theorem dL_law_757 : decode cL_law 757 = .ok (.aload_n 0, 1) := by decide +kernel
theorem dL_law_758 : decode cL_law 758 = .ok (.iload_n 3, 1) := by decide +kernel
theorem dL_law_759 : decode cL_law 759 = .ok (.iconst 1, 1) := by decide +kernel
theorem dL_law_760 : decode cL_law 760 = .ok (.iadd, 1) := by decide +kernel
theorem dL_law_761 : decode cL_law 761 = .ok (.iaload, 1) := by decide +kernel
theorem dL_law_762 : decode cL_law 762 = .ok (.invokevirtual 98, 3) := by decide +kernel
theorem dL_law_765 : decode cL_law 765 = .ok (.aload_n 2, 1) := by decide +kernel
theorem dL_law_766 : decode cL_law 766 = .ok (.aload_n 0, 1) := by decide +kernel
theorem dL_law_767 : decode cL_law 767 = .ok (.iload_n 3, 1) := by decide +kernel
theorem dL_law_768 : decode cL_law 768 = .ok (.iconst 1, 1) := by decide +kernel
theorem dL_law_769 : decode cL_law 769 = .ok (.iadd, 1) := by decide +kernel
theorem dL_law_770 : decode cL_law 770 = .ok (.iaload, 1) := by decide +kernel
theorem dL_law_771 : decode cL_law 771 = .ok (.invokevirtual 101, 3) := by decide +kernel
theorem dL_law_774 : decode cL_law 774 = .ok (.if_icmp .eq 28, 3) := by decide +kernel
theorem dL_law_777 : decode cL_law 777 = .ok (.iconst 0, 1) := by decide +kernel
theorem dL_law_778 : decode cL_law 778 = .ok (.ireturn, 1) := by decide +kernel
theorem dL_law_779 : decode cL_law 779 = .ok (.aload_n 1, 1) := by decide +kernel
theorem dL_law_780 : decode cL_law 780 = .ok (.aload_n 0, 1) := by decide +kernel
theorem dL_law_781 : decode cL_law 781 = .ok (.iload_n 3, 1) := by decide +kernel
theorem dL_law_782 : decode cL_law 782 = .ok (.iconst 1, 1) := by decide +kernel
theorem dL_law_783 : decode cL_law 783 = .ok (.iadd, 1) := by decide +kernel
theorem dL_law_784 : decode cL_law 784 = .ok (.iaload, 1) := by decide +kernel
theorem dL_law_785 : decode cL_law 785 = .ok (.invokevirtual 102, 3) := by decide +kernel
theorem dL_law_788 : decode cL_law 788 = .ok (.aload_n 2, 1) := by decide +kernel
theorem dL_law_789 : decode cL_law 789 = .ok (.aload_n 0, 1) := by decide +kernel
theorem dL_law_790 : decode cL_law 790 = .ok (.iload_n 3, 1) := by decide +kernel
theorem dL_law_791 : decode cL_law 791 = .ok (.iconst 1, 1) := by decide +kernel
theorem dL_law_792 : decode cL_law 792 = .ok (.iadd, 1) := by decide +kernel
theorem dL_law_793 : decode cL_law 793 = .ok (.iaload, 1) := by decide +kernel
theorem dL_law_794 : decode cL_law 794 = .ok (.invokevirtual 105, 3) := by decide +kernel
theorem dL_law_797 : decode cL_law 797 = .ok (.if_icmp .eq 5, 3) := by decide +kernel
theorem dL_law_800 : decode cL_law 800 = .ok (.iconst 0, 1) := by decide +kernel
theorem dL_law_801 : decode cL_law 801 = .ok (.ireturn, 1) := by decide +kernel
theorem dL_law_802 : decode cL_law 802 = .ok (.iinc 3 5, 3) := by decide +kernel
theorem dL_law_805 : decode cL_law 805 = .ok (.goto (-787), 3) := by decide +kernel
theorem dL_law_808 : decode cL_law 808 = .ok (.iconst 1, 1) := by decide +kernel
theorem dL_law_809 : decode cL_law 809 = .ok (.ireturn, 1) := by decide +kernel
