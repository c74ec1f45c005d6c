theorem dX0_plannedPattern_0 : decode cX0_plannedPattern 0 = .ok (.iload_n 1, 1) := by decide +kernel
theorem dX0_plannedPattern_1 : decode cX0_plannedPattern 1 = .ok (.ifCond .lt 41, 3) := by decide +kernel
theorem dX0_plannedPattern_4 : decode cX0_plannedPattern 4 = .ok (.iload_n 1, 1) := by decide +kernel
theorem dX0_plannedPattern_5 : decode cX0_plannedPattern 5 = .ok (.aload_n 0, 1) := by decide +kernel
theorem dX0_plannedPattern_6 : decode cX0_plannedPattern 6 = .ok (.getfield 60, 3) := by decide +kernel
theorem dX0_plannedPattern_9 : decode cX0_plannedPattern 9 = .ok (.if_icmp .ge 33, 3) := by decide +kernel
theorem dX0_plannedPattern_12 : decode cX0_plannedPattern 12 = .ok (.iload_n 1, 1) := by decide +kernel
theorem dX0_plannedPattern_13 : decode cX0_plannedPattern 13 = .ok (.aload_n 0, 1) := by decide +kernel
theorem dX0_plannedPattern_14 : decode cX0_plannedPattern 14 = .ok (.getfield 11, 3) := by decide +kernel
theorem dX0_plannedPattern_17 : decode cX0_plannedPattern 17 = .ok (.arraylength, 1) := by decide +kernel
theorem dX0_plannedPattern_18 : decode cX0_plannedPattern 18 = .ok (.if_icmp .ge 24, 3) := by decide +kernel
theorem dX0_plannedPattern_21 : decode cX0_plannedPattern 21 = .ok (.aload_n 0, 1) := by decide +kernel
theorem dX0_plannedPattern_22 : decode cX0_plannedPattern 22 = .ok (.getfield 11, 3) := by decide +kernel
theorem dX0_plannedPattern_25 : decode cX0_plannedPattern 25 = .ok (.iload_n 1, 1) := by decide +kernel
theorem dX0_plannedPattern_26 : decode cX0_plannedPattern 26 = .ok (.aaload, 1) := by decide +kernel
theorem dX0_plannedPattern_27 : decode cX0_plannedPattern 27 = .ok (.ifnull 15, 3) := by decide +kernel
theorem dX0_plannedPattern_30 : decode cX0_plannedPattern 30 = .ok (.aload_n 0, 1) := by decide +kernel
theorem dX0_plannedPattern_31 : decode cX0_plannedPattern 31 = .ok (.getfield 11, 3) := by decide +kernel
theorem dX0_plannedPattern_34 : decode cX0_plannedPattern 34 = .ok (.iload_n 1, 1) := by decide +kernel
theorem dX0_plannedPattern_35 : decode cX0_plannedPattern 35 = .ok (.aaload, 1) := by decide +kernel
theorem dX0_plannedPattern_36 : decode cX0_plannedPattern 36 = .ok (.getfield 64, 3) := by decide +kernel
theorem dX0_plannedPattern_39 : decode cX0_plannedPattern 39 = .ok (.goto 4, 3) := by decide +kernel
theorem dX0_plannedPattern_42 : decode cX0_plannedPattern 42 = .ok (.iconst (-1), 1) := by decide +kernel
theorem dX0_plannedPattern_43 : decode cX0_plannedPattern 43 = .ok (.ireturn, 1) := by decide +kernel
theorem dX7_isNumber_0 : decode cX7_isNumber 0 = .ok (.iload_n 1, 1) := by decide +kernel
theorem dX7_isNumber_1 : decode cX7_isNumber 1 = .ok (.iconst 1, 1) := by decide +kernel
theorem dX7_isNumber_2 : decode cX7_isNumber 2 = .ok (.if_icmp .lt 15, 3) := by decide +kernel
theorem dX7_isNumber_5 : decode cX7_isNumber 5 = .ok (.iload_n 1, 1) := by decide +kernel
theorem dX7_isNumber_6 : decode cX7_isNumber 6 = .ok (.aload_n 0, 1) := by decide +kernel
theorem dX7_isNumber_7 : decode cX7_isNumber 7 = .ok (.getfield 61, 3) := by decide +kernel
theorem dX7_isNumber_10 : decode cX7_isNumber 10 = .ok (.if_icmp .gt 7, 3) := by decide +kernel
theorem dX7_isNumber_13 : decode cX7_isNumber 13 = .ok (.iconst 1, 1) := by decide +kernel
theorem dX7_isNumber_14 : decode cX7_isNumber 14 = .ok (.goto 4, 3) := by decide +kernel
theorem dX7_isNumber_17 : decode cX7_isNumber 17 = .ok (.iconst 0, 1) := by decide +kernel
theorem dX7_isNumber_18 : decode cX7_isNumber 18 = .ok (.ireturn, 1) := by decide +kernel
theorem dX9_arrange_0 : decode cX9_arrange 0 = .ok (.iconst 0, 1) := by decide +kernel
theorem dX9_arrange_1 : decode cX9_arrange 1 = .ok (.istore_n 1, 1) := by decide +kernel
theorem dX9_arrange_2 : decode cX9_arrange 2 = .ok (.iload_n 1, 1) := by decide +kernel
theorem dX9_arrange_3 : decode cX9_arrange 3 = .ok (.bipush 6, 2) := by decide +kernel
theorem dX9_arrange_5 : decode cX9_arrange 5 = .ok (.if_icmp .ge 176, 3) := by decide +kernel
theorem dX9_arrange_8 : decode cX9_arrange 8 = .ok (.aload_n 0, 1) := by decide +kernel
theorem dX9_arrange_9 : decode cX9_arrange 9 = .ok (.getfield 48, 3) := by decide +kernel
theorem dX9_arrange_12 : decode cX9_arrange 12 = .ok (.ifCond .ne 169, 3) := by decide +kernel
theorem dX9_arrange_15 : decode cX9_arrange 15 = .ok (.aload_n 0, 1) := by decide +kernel
theorem dX9_arrange_16 : decode cX9_arrange 16 = .ok (.getfield 33, 3) := by decide +kernel
theorem dX9_arrange_19 : decode cX9_arrange 19 = .ok (.iload_n 1, 1) := by decide +kernel
theorem dX9_arrange_20 : decode cX9_arrange 20 = .ok (.aaload, 1) := by decide +kernel
theorem dX9_arrange_21 : decode cX9_arrange 21 = .ok (.astore_n 2, 1) := by decide +kernel
theorem dX9_arrange_22 : decode cX9_arrange 22 = .ok (.iconst 0, 1) := by decide +kernel
theorem dX9_arrange_23 : decode cX9_arrange 23 = .ok (.istore_n 3, 1) := by decide +kernel
theorem dX9_arrange_24 : decode cX9_arrange 24 = .ok (.iload_n 3, 1) := by decide +kernel
theorem dX9_arrange_25 : decode cX9_arrange 25 = .ok (.aload_n 0, 1) := by decide +kernel
theorem dX9_arrange_26 : decode cX9_arrange 26 = .ok (.getfield 65, 3) := by decide +kernel
theorem dX9_arrange_29 : decode cX9_arrange 29 = .ok (.if_icmp .ge 67, 3) := by decide +kernel
theorem dX9_arrange_32 : decode cX9_arrange 32 = .ok (.iload_n 3, 1) := by decide +kernel
theorem dX9_arrange_33 : decode cX9_arrange 33 = .ok (.sipush 2000, 3) := by decide +kernel
theorem dX9_arrange_36 : decode cX9_arrange 36 = .ok (.if_icmp .ge 60, 3) := by decide +kernel
theorem dX9_arrange_39 : decode cX9_arrange 39 = .ok (.aload_n 2, 1) := by decide +kernel
theorem dX9_arrange_40 : decode cX9_arrange 40 = .ok (.iload_n 3, 1) := by decide +kernel
theorem dX9_arrange_41 : decode cX9_arrange 41 = .ok (.aload_n 0, 1) := by decide +kernel
theorem dX9_arrange_42 : decode cX9_arrange 42 = .ok (.iload_n 3, 1) := by decide +kernel
theorem dX9_arrange_43 : decode cX9_arrange 43 = .ok (.getstatic 105, 3) := by decide +kernel
theorem dX9_arrange_46 : decode cX9_arrange 46 = .ok (.iconst 3, 1) := by decide +kernel
theorem dX9_arrange_47 : decode cX9_arrange 47 = .ok (.iload_n 1, 1) := by decide +kernel
theorem dX9_arrange_48 : decode cX9_arrange 48 = .ok (.imul, 1) := by decide +kernel
theorem dX9_arrange_49 : decode cX9_arrange 49 = .ok (.iaload, 1) := by decide +kernel
theorem dX9_arrange_50 : decode cX9_arrange 50 = .ok (.invokevirtual 101, 3) := by decide +kernel
theorem dX9_arrange_53 : decode cX9_arrange 53 = .ok (.bipush 20, 2) := by decide +kernel
theorem dX9_arrange_55 : decode cX9_arrange 55 = .ok (.ishl, 1) := by decide +kernel
theorem dX9_arrange_56 : decode cX9_arrange 56 = .ok (.aload_n 0, 1) := by decide +kernel
theorem dX9_arrange_57 : decode cX9_arrange 57 = .ok (.iload_n 3, 1) := by decide +kernel
theorem dX9_arrange_58 : decode cX9_arrange 58 = .ok (.getstatic 105, 3) := by decide +kernel
theorem dX9_arrange_61 : decode cX9_arrange 61 = .ok (.iconst 3, 1) := by decide +kernel
theorem dX9_arrange_62 : decode cX9_arrange 62 = .ok (.iload_n 1, 1) := by decide +kernel
theorem dX9_arrange_63 : decode cX9_arrange 63 = .ok (.imul, 1) := by decide +kernel
theorem dX9_arrange_64 : decode cX9_arrange 64 = .ok (.iconst 1, 1) := by decide +kernel
theorem dX9_arrange_65 : decode cX9_arrange 65 = .ok (.iadd, 1) := by decide +kernel
theorem dX9_arrange_66 : decode cX9_arrange 66 = .ok (.iaload, 1) := by decide +kernel
theorem dX9_arrange_67 : decode cX9_arrange 67 = .ok (.invokevirtual 101, 3) := by decide +kernel
theorem dX9_arrange_70 : decode cX9_arrange 70 = .ok (.bipush 10, 2) := by decide +kernel
theorem dX9_arrange_72 : decode cX9_arrange 72 = .ok (.ishl, 1) := by decide +kernel
theorem dX9_arrange_73 : decode cX9_arrange 73 = .ok (.ior, 1) := by decide +kernel
theorem dX9_arrange_74 : decode cX9_arrange 74 = .ok (.aload_n 0, 1) := by decide +kernel
theorem dX9_arrange_75 : decode cX9_arrange 75 = .ok (.iload_n 3, 1) := by decide +kernel
theorem dX9_arrange_76 : decode cX9_arrange 76 = .ok (.getstatic 105, 3) := by decide +kernel
theorem dX9_arrange_79 : decode cX9_arrange 79 = .ok (.iconst 3, 1) := by decide +kernel
theorem dX9_arrange_80 : decode cX9_arrange 80 = .ok (.iload_n 1, 1) := by decide +kernel
theorem dX9_arrange_81 : decode cX9_arrange 81 = .ok (.imul, 1) := by decide +kernel
theorem dX9_arrange_82 : decode cX9_arrange 82 = .ok (.iconst 2, 1) := by decide +kernel
theorem dX9_arrange_83 : decode cX9_arrange 83 = .ok (.iadd, 1) := by decide +kernel
theorem dX9_arrange_84 : decode cX9_arrange 84 = .ok (.iaload, 1) := by decide +kernel
theorem dX9_arrange_85 : decode cX9_arrange 85 = .ok (.invokevirtual 101, 3) := by decide +kernel
theorem dX9_arrange_88 : decode cX9_arrange 88 = .ok (.ior, 1) := by decide +kernel
theorem dX9_arrange_89 : decode cX9_arrange 89 = .ok (.iastore, 1) := by decide +kernel
theorem dX9_arrange_90 : decode cX9_arrange 90 = .ok (.iinc 3 1, 3) := by decide +kernel
theorem dX9_arrange_93 : decode cX9_arrange 93 = .ok (.goto (-69), 3) := by decide +kernel
theorem dX9_arrange_96 : decode cX9_arrange 96 = .ok (.aload_n 0, 1) := by decide +kernel
theorem dX9_arrange_97 : decode cX9_arrange 97 = .ok (.aload_n 2, 1) := by decide +kernel
theorem dX9_arrange_98 : decode cX9_arrange 98 = .ok (.aload_n 0, 1) := by decide +kernel
theorem dX9_arrange_99 : decode cX9_arrange 99 = .ok (.getfield 39, 3) := by decide +kernel
theorem dX9_arrange_102 : decode cX9_arrange 102 = .ok (.iconst 0, 1) := by decide +kernel
theorem dX9_arrange_103 : decode cX9_arrange 103 = .ok (.invokevirtual 108, 3) := by decide +kernel
theorem dX9_arrange_106 : decode cX9_arrange 106 = .ok (.aload_n 0, 1) := by decide +kernel
theorem dX9_arrange_107 : decode cX9_arrange 107 = .ok (.aload_n 0, 1) := by decide +kernel
theorem dX9_arrange_108 : decode cX9_arrange 108 = .ok (.getfield 39, 3) := by decide +kernel
theorem dX9_arrange_111 : decode cX9_arrange 111 = .ok (.aload_n 2, 1) := by decide +kernel
theorem dX9_arrange_112 : decode cX9_arrange 112 = .ok (.bipush 10, 2) := by decide +kernel
theorem dX9_arrange_114 : decode cX9_arrange 114 = .ok (.invokevirtual 108, 3) := by decide +kernel
theorem dX9_arrange_117 : decode cX9_arrange 117 = .ok (.aload_n 0, 1) := by decide +kernel
theorem dX9_arrange_118 : decode cX9_arrange 118 = .ok (.aload_n 2, 1) := by decide +kernel
theorem dX9_arrange_119 : decode cX9_arrange 119 = .ok (.aload_n 0, 1) := by decide +kernel
theorem dX9_arrange_120 : decode cX9_arrange 120 = .ok (.getfield 39, 3) := by decide +kernel
theorem dX9_arrange_123 : decode cX9_arrange 123 = .ok (.bipush 20, 2) := by decide +kernel
theorem dX9_arrange_125 : decode cX9_arrange 125 = .ok (.invokevirtual 108, 3) := by decide +kernel
theorem dX9_arrange_128 : decode cX9_arrange 128 = .ok (.aload_n 0, 1) := by decide +kernel
theorem dX9_arrange_129 : decode cX9_arrange 129 = .ok (.getfield 39, 3) := by decide +kernel
theorem dX9_arrange_132 : decode cX9_arrange 132 = .ok (.iconst 0, 1) := by decide +kernel
theorem dX9_arrange_133 : decode cX9_arrange 133 = .ok (.aload_n 2, 1) := by decide +kernel
theorem dX9_arrange_134 : decode cX9_arrange 134 = .ok (.iconst 0, 1) := by decide +kernel
theorem dX9_arrange_135 : decode cX9_arrange 135 = .ok (.aload_n 0, 1) := by decide +kernel
theorem dX9_arrange_136 : decode cX9_arrange 136 = .ok (.getfield 65, 3) := by decide +kernel
theorem dX9_arrange_139 : decode cX9_arrange 139 = .ok (.sipush 2000, 3) := by decide +kernel
theorem dX9_arrange_142 : decode cX9_arrange 142 = .ok (.invokestatic 112, 3) := by decide +kernel
theorem dX9_arrange_145 : decode cX9_arrange 145 = .ok (.invokestatic 117, 3) := by decide +kernel
theorem dX9_arrange_148 : decode cX9_arrange 148 = .ok (.aload_n 0, 1) := by decide +kernel
theorem dX9_arrange_149 : decode cX9_arrange 149 = .ok (.getfield 36, 3) := by decide +kernel
theorem dX9_arrange_152 : decode cX9_arrange 152 = .ok (.iload_n 1, 1) := by decide +kernel
theorem dX9_arrange_153 : decode cX9_arrange 153 = .ok (.aaload, 1) := by decide +kernel
theorem dX9_arrange_154 : decode cX9_arrange 154 = .ok (.iconst 0, 1) := by decide +kernel
theorem dX9_arrange_155 : decode cX9_arrange 155 = .ok (.iconst 0, 1) := by decide +kernel
theorem dX9_arrange_156 : decode cX9_arrange 156 = .ok (.iastore, 1) := by decide +kernel
theorem dX9_arrange_157 : decode cX9_arrange 157 = .ok (.aload_n 0, 1) := by decide +kernel
theorem dX9_arrange_158 : decode cX9_arrange 158 = .ok (.getfield 42, 3) := by decide +kernel
theorem dX9_arrange_161 : decode cX9_arrange 161 = .ok (.iconst 0, 1) := by decide +kernel
theorem dX9_arrange_162 : decode cX9_arrange 162 = .ok (.aload_n 0, 1) := by decide +kernel
theorem dX9_arrange_163 : decode cX9_arrange 163 = .ok (.getfield 36, 3) := by decide +kernel
theorem dX9_arrange_166 : decode cX9_arrange 166 = .ok (.iload_n 1, 1) := by decide +kernel
theorem dX9_arrange_167 : decode cX9_arrange 167 = .ok (.aaload, 1) := by decide +kernel
theorem dX9_arrange_168 : decode cX9_arrange 168 = .ok (.iconst 1, 1) := by decide +kernel
theorem dX9_arrange_169 : decode cX9_arrange 169 = .ok (.sipush 1024, 3) := by decide +kernel
theorem dX9_arrange_172 : decode cX9_arrange 172 = .ok (.invokestatic 117, 3) := by decide +kernel
theorem dX9_arrange_175 : decode cX9_arrange 175 = .ok (.iinc 1 1, 3) := by decide +kernel
theorem dX9_arrange_178 : decode cX9_arrange 178 = .ok (.goto (-176), 3) := by decide +kernel
theorem dX9_arrange_181 : decode cX9_arrange 181 = .ok (.aload_n 0, 1) := by decide +kernel
theorem dX9_arrange_182 : decode cX9_arrange 182 = .ok (.iconst 1, 1) := by decide +kernel
theorem dX9_arrange_183 : decode cX9_arrange 183 = .ok (.putfield 48, 3) := by decide +kernel
theorem dX9_arrange_186 : decode cX9_arrange 186 = .ok (.return_, 1) := by decide +kernel
theorem dX9_locate_0 : decode cX9_locate 0 = .ok (.aload_n 0, 1) := by decide +kernel
theorem dX9_locate_1 : decode cX9_locate 1 = .ok (.iconst 0, 1) := by decide +kernel
theorem dX9_locate_2 : decode cX9_locate 2 = .ok (.iconst 5, 1) := by decide +kernel
theorem dX9_locate_3 : decode cX9_locate 3 = .ok (.iload_n 1, 1) := by decide +kernel
theorem dX9_locate_4 : decode cX9_locate 4 = .ok (.invokestatic 112, 3) := by decide +kernel
theorem dX9_locate_7 : decode cX9_locate 7 = .ok (.invokestatic 123, 3) := by decide +kernel
theorem dX9_locate_10 : decode cX9_locate 10 = .ok (.putfield 126, 3) := by decide +kernel
theorem dX9_locate_13 : decode cX9_locate 13 = .ok (.iconst 0, 1) := by decide +kernel
theorem dX9_locate_14 : decode cX9_locate 14 = .ok (.iload_n 3, 1) := by decide +kernel
theorem dX9_locate_15 : decode cX9_locate 15 = .ok (.sipush 1023, 3) := by decide +kernel
theorem dX9_locate_18 : decode cX9_locate 18 = .ok (.invokestatic 112, 3) := by decide +kernel
theorem dX9_locate_21 : decode cX9_locate 21 = .ok (.invokestatic 123, 3) := by decide +kernel
theorem dX9_locate_24 : decode cX9_locate 24 = .ok (.istore 6, 2) := by decide +kernel
theorem dX9_locate_26 : decode cX9_locate 26 = .ok (.aload_n 0, 1) := by decide +kernel
theorem dX9_locate_27 : decode cX9_locate 27 = .ok (.iload_n 2, 1) := by decide +kernel
theorem dX9_locate_28 : decode cX9_locate 28 = .ok (.ifCond .ne 7, 3) := by decide +kernel
theorem dX9_locate_31 : decode cX9_locate 31 = .ok (.iconst 0, 1) := by decide +kernel
theorem dX9_locate_32 : decode cX9_locate 32 = .ok (.goto 15, 3) := by decide +kernel
theorem dX9_locate_35 : decode cX9_locate 35 = .ok (.aload_n 0, 1) := by decide +kernel
theorem dX9_locate_36 : decode cX9_locate 36 = .ok (.getfield 36, 3) := by decide +kernel
theorem dX9_locate_39 : decode cX9_locate 39 = .ok (.aload_n 0, 1) := by decide +kernel
theorem dX9_locate_40 : decode cX9_locate 40 = .ok (.getfield 126, 3) := by decide +kernel
theorem dX9_locate_43 : decode cX9_locate 43 = .ok (.aaload, 1) := by decide +kernel
theorem dX9_locate_44 : decode cX9_locate 44 = .ok (.iload 6, 2) := by decide +kernel
theorem dX9_locate_46 : decode cX9_locate 46 = .ok (.iaload, 1) := by decide +kernel
theorem dX9_locate_47 : decode cX9_locate 47 = .ok (.putfield 129, 3) := by decide +kernel
theorem dX9_locate_50 : decode cX9_locate 50 = .ok (.aload_n 0, 1) := by decide +kernel
theorem dX9_locate_51 : decode cX9_locate 51 = .ok (.iload_n 2, 1) := by decide +kernel
theorem dX9_locate_52 : decode cX9_locate 52 = .ok (.ifCond .ne 10, 3) := by decide +kernel
theorem dX9_locate_55 : decode cX9_locate 55 = .ok (.aload_n 0, 1) := by decide +kernel
theorem dX9_locate_56 : decode cX9_locate 56 = .ok (.getfield 65, 3) := by decide +kernel
theorem dX9_locate_59 : decode cX9_locate 59 = .ok (.goto 17, 3) := by decide +kernel
theorem dX9_locate_62 : decode cX9_locate 62 = .ok (.aload_n 0, 1) := by decide +kernel
theorem dX9_locate_63 : decode cX9_locate 63 = .ok (.getfield 36, 3) := by decide +kernel
theorem dX9_locate_66 : decode cX9_locate 66 = .ok (.aload_n 0, 1) := by decide +kernel
theorem dX9_locate_67 : decode cX9_locate 67 = .ok (.getfield 126, 3) := by decide +kernel
theorem dX9_locate_70 : decode cX9_locate 70 = .ok (.aaload, 1) := by decide +kernel
theorem dX9_locate_71 : decode cX9_locate 71 = .ok (.iload 6, 2) := by decide +kernel
theorem dX9_locate_73 : decode cX9_locate 73 = .ok (.iconst 1, 1) := by decide +kernel
theorem dX9_locate_74 : decode cX9_locate 74 = .ok (.iadd, 1) := by decide +kernel
theorem dX9_locate_75 : decode cX9_locate 75 = .ok (.iaload, 1) := by decide +kernel
theorem dX9_locate_76 : decode cX9_locate 76 = .ok (.putfield 132, 3) := by decide +kernel
theorem dX9_locate_79 : decode cX9_locate 79 = .ok (.iload_n 2, 1) := by decide +kernel
theorem dX9_locate_80 : decode cX9_locate 80 = .ok (.iconst 1, 1) := by decide +kernel
theorem dX9_locate_81 : decode cX9_locate 81 = .ok (.if_icmp .le 82, 3) := by decide +kernel
theorem dX9_locate_84 : decode cX9_locate 84 = .ok (.iload_n 3, 1) := by decide +kernel
theorem dX9_locate_85 : decode cX9_locate 85 = .ok (.iload 4, 2) := by decide +kernel
theorem dX9_locate_87 : decode cX9_locate 87 = .ok (.iload 5, 2) := by decide +kernel
theorem dX9_locate_89 : decode cX9_locate 89 = .ok (.invokestatic 57, 3) := by decide +kernel
theorem dX9_locate_92 : decode cX9_locate 92 = .ok (.istore 7, 2) := by decide +kernel
theorem dX9_locate_94 : decode cX9_locate 94 = .ok (.aload_n 0, 1) := by decide +kernel
theorem dX9_locate_95 : decode cX9_locate 95 = .ok (.getfield 132, 3) := by decide +kernel
theorem dX9_locate_98 : decode cX9_locate 98 = .ok (.istore 8, 2) := by decide +kernel
theorem dX9_locate_100 : decode cX9_locate 100 = .ok (.aload_n 0, 1) := by decide +kernel
theorem dX9_locate_101 : decode cX9_locate 101 = .ok (.aload_n 0, 1) := by decide +kernel
theorem dX9_locate_102 : decode cX9_locate 102 = .ok (.aload_n 0, 1) := by decide +kernel
theorem dX9_locate_103 : decode cX9_locate 103 = .ok (.getfield 33, 3) := by decide +kernel
theorem dX9_locate_106 : decode cX9_locate 106 = .ok (.aload_n 0, 1) := by decide +kernel
theorem dX9_locate_107 : decode cX9_locate 107 = .ok (.getfield 126, 3) := by decide +kernel
theorem dX9_locate_110 : decode cX9_locate 110 = .ok (.aaload, 1) := by decide +kernel
theorem dX9_locate_111 : decode cX9_locate 111 = .ok (.iload 7, 2) := by decide +kernel
theorem dX9_locate_113 : decode cX9_locate 113 = .ok (.aload_n 0, 1) := by decide +kernel
theorem dX9_locate_114 : decode cX9_locate 114 = .ok (.getfield 129, 3) := by decide +kernel
theorem dX9_locate_117 : decode cX9_locate 117 = .ok (.iload 8, 2) := by decide +kernel
theorem dX9_locate_119 : decode cX9_locate 119 = .ok (.invokevirtual 135, 3) := by decide +kernel
theorem dX9_locate_122 : decode cX9_locate 122 = .ok (.putfield 129, 3) := by decide +kernel
theorem dX9_locate_125 : decode cX9_locate 125 = .ok (.aload_n 0, 1) := by decide +kernel
theorem dX9_locate_126 : decode cX9_locate 126 = .ok (.aload_n 0, 1) := by decide +kernel
theorem dX9_locate_127 : decode cX9_locate 127 = .ok (.aload_n 0, 1) := by decide +kernel
theorem dX9_locate_128 : decode cX9_locate 128 = .ok (.getfield 33, 3) := by decide +kernel
theorem dX9_locate_131 : decode cX9_locate 131 = .ok (.aload_n 0, 1) := by decide +kernel
theorem dX9_locate_132 : decode cX9_locate 132 = .ok (.getfield 126, 3) := by decide +kernel
theorem dX9_locate_135 : decode cX9_locate 135 = .ok (.aaload, 1) := by decide +kernel
theorem dX9_locate_136 : decode cX9_locate 136 = .ok (.iload 7, 2) := by decide +kernel
theorem dX9_locate_138 : decode cX9_locate 138 = .ok (.iload_n 2, 1) := by decide +kernel
theorem dX9_locate_139 : decode cX9_locate 139 = .ok (.iconst 2, 1) := by decide +kernel
theorem dX9_locate_140 : decode cX9_locate 140 = .ok (.if_icmp .ne 9, 3) := by decide +kernel
theorem dX9_locate_143 : decode cX9_locate 143 = .ok (.sipush 1024, 3) := by decide +kernel
theorem dX9_locate_146 : decode cX9_locate 146 = .ok (.goto 4, 3) := by decide +kernel
theorem dX9_locate_149 : decode cX9_locate 149 = .ok (.iconst 1, 1) := by decide +kernel
theorem dX9_locate_150 : decode cX9_locate 150 = .ok (.iadd, 1) := by decide +kernel
theorem dX9_locate_151 : decode cX9_locate 151 = .ok (.aload_n 0, 1) := by decide +kernel
theorem dX9_locate_152 : decode cX9_locate 152 = .ok (.getfield 129, 3) := by decide +kernel
theorem dX9_locate_155 : decode cX9_locate 155 = .ok (.iload 8, 2) := by decide +kernel
theorem dX9_locate_157 : decode cX9_locate 157 = .ok (.invokevirtual 135, 3) := by decide +kernel
theorem dX9_locate_160 : decode cX9_locate 160 = .ok (.putfield 132, 3) := by decide +kernel
theorem dX9_locate_163 : decode cX9_locate 163 = .ok (.return_, 1) := by decide +kernel
theorem dX11_type_0 : decode cX11_type 0 = .ok (.iload_n 3, 1) := by decide +kernel
theorem dX11_type_1 : decode cX11_type 1 = .ok (.iconst 1, 1) := by decide +kernel
theorem dX11_type_2 : decode cX11_type 2 = .ok (.if_icmp .lt 9, 3) := by decide +kernel
theorem dX11_type_5 : decode cX11_type 5 = .ok (.iload_n 3, 1) := by decide +kernel
theorem dX11_type_6 : decode cX11_type 6 = .ok (.bipush 8, 2) := by decide +kernel
theorem dX11_type_8 : decode cX11_type 8 = .ok (.if_icmp .le 5, 3) := by decide +kernel
theorem dX11_type_11 : decode cX11_type 11 = .ok (.iconst (-1), 1) := by decide +kernel
theorem dX11_type_12 : decode cX11_type 12 = .ok (.ireturn, 1) := by decide +kernel
theorem dX11_type_13 : decode cX11_type 13 = .ok (.aload_n 0, 1) := by decide +kernel
theorem dX11_type_14 : decode cX11_type 14 = .ok (.getfield 90, 3) := by decide +kernel
theorem dX11_type_17 : decode cX11_type 17 = .ok (.iload_n 3, 1) := by decide +kernel
theorem dX11_type_18 : decode cX11_type 18 = .ok (.iadd, 1) := by decide +kernel
theorem dX11_type_19 : decode cX11_type 19 = .ok (.sipush 4000, 3) := by decide +kernel
theorem dX11_type_22 : decode cX11_type 22 = .ok (.if_icmp .le 6, 3) := by decide +kernel
theorem dX11_type_25 : decode cX11_type 25 = .ok (.bipush (-2), 2) := by decide +kernel
theorem dX11_type_27 : decode cX11_type 27 = .ok (.ireturn, 1) := by decide +kernel
theorem dX11_type_28 : decode cX11_type 28 = .ok (.iload_n 3, 1) := by decide +kernel
theorem dX11_type_29 : decode cX11_type 29 = .ok (.iconst 1, 1) := by decide +kernel
theorem dX11_type_30 : decode cX11_type 30 = .ok (.isub, 1) := by decide +kernel
theorem dX11_type_31 : decode cX11_type 31 = .ok (.istore 4, 2) := by decide +kernel
theorem dX11_type_33 : decode cX11_type 33 = .ok (.iload 4, 2) := by decide +kernel
theorem dX11_type_35 : decode cX11_type 35 = .ok (.ifCond .lt 37, 3) := by decide +kernel
theorem dX11_type_38 : decode cX11_type 38 = .ok (.aload_n 0, 1) := by decide +kernel
theorem dX11_type_39 : decode cX11_type 39 = .ok (.getfield 9, 3) := by decide +kernel
theorem dX11_type_42 : decode cX11_type 42 = .ok (.aload_n 0, 1) := by decide +kernel
theorem dX11_type_43 : decode cX11_type 43 = .ok (.getfield 90, 3) := by decide +kernel
theorem dX11_type_46 : decode cX11_type 46 = .ok (.lload_n 1, 1) := by decide +kernel
theorem dX11_type_47 : decode cX11_type 47 = .ok (.bipush 8, 2) := by decide +kernel
theorem dX11_type_49 : decode cX11_type 49 = .ok (.iload 4, 2) := by decide +kernel
theorem dX11_type_51 : decode cX11_type 51 = .ok (.imul, 1) := by decide +kernel
theorem dX11_type_52 : decode cX11_type 52 = .ok (.lushr, 1) := by decide +kernel
theorem dX11_type_53 : decode cX11_type 53 = .ok (.l2i, 1) := by decide +kernel
theorem dX11_type_54 : decode cX11_type 54 = .ok (.i2b, 1) := by decide +kernel
theorem dX11_type_55 : decode cX11_type 55 = .ok (.bastore, 1) := by decide +kernel
theorem dX11_type_56 : decode cX11_type 56 = .ok (.aload_n 0, 1) := by decide +kernel
theorem dX11_type_57 : decode cX11_type 57 = .ok (.dup, 1) := by decide +kernel
theorem dX11_type_58 : decode cX11_type 58 = .ok (.getfield 90, 3) := by decide +kernel
theorem dX11_type_61 : decode cX11_type 61 = .ok (.iconst 1, 1) := by decide +kernel
theorem dX11_type_62 : decode cX11_type 62 = .ok (.iadd, 1) := by decide +kernel
theorem dX11_type_63 : decode cX11_type 63 = .ok (.putfield 90, 3) := by decide +kernel
theorem dX11_type_66 : decode cX11_type 66 = .ok (.iinc 4 (-1), 3) := by decide +kernel
theorem dX11_type_69 : decode cX11_type 69 = .ok (.goto (-36), 3) := by decide +kernel
theorem dX11_type_72 : decode cX11_type 72 = .ok (.aload_n 0, 1) := by decide +kernel
theorem dX11_type_73 : decode cX11_type 73 = .ok (.getfield 90, 3) := by decide +kernel
theorem dX11_type_76 : decode cX11_type 76 = .ok (.ireturn, 1) := by decide +kernel
theorem dX11_wipe_0 : decode cX11_wipe 0 = .ok (.aload_n 0, 1) := by decide +kernel
theorem dX11_wipe_1 : decode cX11_wipe 1 = .ok (.getfield 90, 3) := by decide +kernel
theorem dX11_wipe_4 : decode cX11_wipe 4 = .ok (.istore_n 1, 1) := by decide +kernel
theorem dX11_wipe_5 : decode cX11_wipe 5 = .ok (.aload_n 0, 1) := by decide +kernel
theorem dX11_wipe_6 : decode cX11_wipe 6 = .ok (.iconst 0, 1) := by decide +kernel
theorem dX11_wipe_7 : decode cX11_wipe 7 = .ok (.putfield 90, 3) := by decide +kernel
theorem dX11_wipe_10 : decode cX11_wipe 10 = .ok (.iload_n 1, 1) := by decide +kernel
theorem dX11_wipe_11 : decode cX11_wipe 11 = .ok (.ireturn, 1) := by decide +kernel
theorem dX11_place_0 : decode cX11_place 0 = .ok (.aload_n 0, 1) := by decide +kernel
theorem dX11_place_1 : decode cX11_place 1 = .ok (.getfield 167, 3) := by decide +kernel
theorem dX11_place_4 : decode cX11_place 4 = .ok (.ireturn, 1) := by decide +kernel
theorem dX11_rows_0 : decode cX11_rows 0 = .ok (.aload_n 0, 1) := by decide +kernel
theorem dX11_rows_1 : decode cX11_rows 1 = .ok (.getfield 98, 3) := by decide +kernel
theorem dX11_rows_4 : decode cX11_rows 4 = .ok (.ireturn, 1) := by decide +kernel
theorem dX11_columns_0 : decode cX11_columns 0 = .ok (.aload_n 0, 1) := by decide +kernel
theorem dX11_columns_1 : decode cX11_columns 1 = .ok (.getfield 94, 3) := by decide +kernel
theorem dX11_columns_4 : decode cX11_columns 4 = .ok (.ifnonnull 7, 3) := by decide +kernel
theorem dX11_columns_7 : decode cX11_columns 7 = .ok (.iconst 0, 1) := by decide +kernel
theorem dX11_columns_8 : decode cX11_columns 8 = .ok (.goto 10, 3) := by decide +kernel
theorem dX11_columns_11 : decode cX11_columns 11 = .ok (.aload_n 0, 1) := by decide +kernel
theorem dX11_columns_12 : decode cX11_columns 12 = .ok (.getfield 94, 3) := by decide +kernel
theorem dX11_columns_15 : decode cX11_columns 15 = .ok (.getfield 170, 3) := by decide +kernel
theorem dX11_columns_18 : decode cX11_columns 18 = .ok (.ireturn, 1) := by decide +kernel
theorem dX11_cell_0 : decode cX11_cell 0 = .ok (.aload_n 0, 1) := by decide +kernel
theorem dX11_cell_1 : decode cX11_cell 1 = .ok (.getfield 94, 3) := by decide +kernel
theorem dX11_cell_4 : decode cX11_cell 4 = .ok (.ifnull 30, 3) := by decide +kernel
theorem dX11_cell_7 : decode cX11_cell 7 = .ok (.iload_n 1, 1) := by decide +kernel
theorem dX11_cell_8 : decode cX11_cell 8 = .ok (.ifCond .lt 26, 3) := by decide +kernel
theorem dX11_cell_11 : decode cX11_cell 11 = .ok (.iload_n 1, 1) := by decide +kernel
theorem dX11_cell_12 : decode cX11_cell 12 = .ok (.aload_n 0, 1) := by decide +kernel
theorem dX11_cell_13 : decode cX11_cell 13 = .ok (.getfield 98, 3) := by decide +kernel
theorem dX11_cell_16 : decode cX11_cell 16 = .ok (.if_icmp .ge 18, 3) := by decide +kernel
theorem dX11_cell_19 : decode cX11_cell 19 = .ok (.iload_n 2, 1) := by decide +kernel
theorem dX11_cell_20 : decode cX11_cell 20 = .ok (.ifCond .lt 14, 3) := by decide +kernel
theorem dX11_cell_23 : decode cX11_cell 23 = .ok (.iload_n 2, 1) := by decide +kernel
theorem dX11_cell_24 : decode cX11_cell 24 = .ok (.aload_n 0, 1) := by decide +kernel
theorem dX11_cell_25 : decode cX11_cell 25 = .ok (.getfield 94, 3) := by decide +kernel
theorem dX11_cell_28 : decode cX11_cell 28 = .ok (.getfield 170, 3) := by decide +kernel
theorem dX11_cell_31 : decode cX11_cell 31 = .ok (.if_icmp .lt 5, 3) := by decide +kernel
theorem dX11_cell_34 : decode cX11_cell 34 = .ok (.iconst (-1), 1) := by decide +kernel
theorem dX11_cell_35 : decode cX11_cell 35 = .ok (.ireturn, 1) := by decide +kernel
theorem dX11_cell_36 : decode cX11_cell 36 = .ok (.aload_n 0, 1) := by decide +kernel
theorem dX11_cell_37 : decode cX11_cell 37 = .ok (.aload_n 0, 1) := by decide +kernel
theorem dX11_cell_38 : decode cX11_cell 38 = .ok (.getfield 19, 3) := by decide +kernel
theorem dX11_cell_41 : decode cX11_cell 41 = .ok (.aload_n 0, 1) := by decide +kernel
theorem dX11_cell_42 : decode cX11_cell 42 = .ok (.getfield 62, 3) := by decide +kernel
theorem dX11_cell_45 : decode cX11_cell 45 = .ok (.iload_n 1, 1) := by decide +kernel
theorem dX11_cell_46 : decode cX11_cell 46 = .ok (.aload_n 0, 1) := by decide +kernel
theorem dX11_cell_47 : decode cX11_cell 47 = .ok (.getfield 94, 3) := by decide +kernel
theorem dX11_cell_50 : decode cX11_cell 50 = .ok (.iload_n 2, 1) := by decide +kernel
theorem dX11_cell_51 : decode cX11_cell 51 = .ok (.invokevirtual 173, 3) := by decide +kernel
theorem dX11_cell_54 : decode cX11_cell 54 = .ok (.invokevirtual 176, 3) := by decide +kernel
theorem dX11_cell_57 : decode cX11_cell 57 = .ok (.aload_n 0, 1) := by decide +kernel
theorem dX11_cell_58 : decode cX11_cell 58 = .ok (.getfield 13, 3) := by decide +kernel
theorem dX11_cell_61 : decode cX11_cell 61 = .ok (.invokevirtual 180, 3) := by decide +kernel
theorem dX11_cell_64 : decode cX11_cell 64 = .ok (.putfield 184, 3) := by decide +kernel
theorem dX11_cell_67 : decode cX11_cell 67 = .ok (.aload_n 0, 1) := by decide +kernel
theorem dX11_cell_68 : decode cX11_cell 68 = .ok (.getfield 184, 3) := by decide +kernel
theorem dX11_cell_71 : decode cX11_cell 71 = .ok (.ireturn, 1) := by decide +kernel
theorem dX11_column_0 : decode cX11_column 0 = .ok (.aload_n 0, 1) := by decide +kernel
theorem dX11_column_1 : decode cX11_column 1 = .ok (.getfield 94, 3) := by decide +kernel
theorem dX11_column_4 : decode cX11_column 4 = .ok (.ifnull 18, 3) := by decide +kernel
theorem dX11_column_7 : decode cX11_column 7 = .ok (.iload_n 1, 1) := by decide +kernel
theorem dX11_column_8 : decode cX11_column 8 = .ok (.ifCond .lt 14, 3) := by decide +kernel
theorem dX11_column_11 : decode cX11_column 11 = .ok (.iload_n 1, 1) := by decide +kernel
theorem dX11_column_12 : decode cX11_column 12 = .ok (.aload_n 0, 1) := by decide +kernel
theorem dX11_column_13 : decode cX11_column 13 = .ok (.getfield 94, 3) := by decide +kernel
theorem dX11_column_16 : decode cX11_column 16 = .ok (.getfield 170, 3) := by decide +kernel
theorem dX11_column_19 : decode cX11_column 19 = .ok (.if_icmp .lt 5, 3) := by decide +kernel
theorem dX11_column_22 : decode cX11_column 22 = .ok (.iconst (-1), 1) := by decide +kernel
theorem dX11_column_23 : decode cX11_column 23 = .ok (.ireturn, 1) := by decide +kernel
theorem dX11_column_24 : decode cX11_column 24 = .ok (.aload_n 0, 1) := by decide +kernel
theorem dX11_column_25 : decode cX11_column 25 = .ok (.getfield 94, 3) := by decide +kernel
theorem dX11_column_28 : decode cX11_column 28 = .ok (.getfield 127, 3) := by decide +kernel
theorem dX11_column_31 : decode cX11_column 31 = .ok (.iconst 5, 1) := by decide +kernel
theorem dX11_column_32 : decode cX11_column 32 = .ok (.if_icmp .ne 39, 3) := by decide +kernel
theorem dX11_column_35 : decode cX11_column 35 = .ok (.aload_n 0, 1) := by decide +kernel
theorem dX11_column_36 : decode cX11_column 36 = .ok (.getfield 13, 3) := by decide +kernel
theorem dX11_column_39 : decode cX11_column 39 = .ok (.iconst 0, 1) := by decide +kernel
theorem dX11_column_40 : decode cX11_column 40 = .ok (.iload_n 1, 1) := by decide +kernel
theorem dX11_column_41 : decode cX11_column 41 = .ok (.ifCond .ne 8, 3) := by decide +kernel
theorem dX11_column_44 : decode cX11_column 44 = .ok (.bipush 115, 2) := by decide +kernel
theorem dX11_column_46 : decode cX11_column 46 = .ok (.goto 15, 3) := by decide +kernel
theorem dX11_column_49 : decode cX11_column 49 = .ok (.iload_n 1, 1) := by decide +kernel
theorem dX11_column_50 : decode cX11_column 50 = .ok (.iconst 1, 1) := by decide +kernel
theorem dX11_column_51 : decode cX11_column 51 = .ok (.if_icmp .ne 8, 3) := by decide +kernel
theorem dX11_column_54 : decode cX11_column 54 = .ok (.bipush 112, 2) := by decide +kernel
theorem dX11_column_56 : decode cX11_column 56 = .ok (.goto 5, 3) := by decide +kernel
theorem dX11_column_59 : decode cX11_column 59 = .ok (.bipush 111, 2) := by decide +kernel
theorem dX11_column_61 : decode cX11_column 61 = .ok (.i2b, 1) := by decide +kernel
theorem dX11_column_62 : decode cX11_column 62 = .ok (.bastore, 1) := by decide +kernel
theorem dX11_column_63 : decode cX11_column 63 = .ok (.aload_n 0, 1) := by decide +kernel
theorem dX11_column_64 : decode cX11_column 64 = .ok (.iconst 1, 1) := by decide +kernel
theorem dX11_column_65 : decode cX11_column 65 = .ok (.putfield 184, 3) := by decide +kernel
theorem dX11_column_68 : decode cX11_column 68 = .ok (.goto 26, 3) := by decide +kernel
theorem dX11_column_71 : decode cX11_column 71 = .ok (.aload_n 0, 1) := by decide +kernel
theorem dX11_column_72 : decode cX11_column 72 = .ok (.aload_n 0, 1) := by decide +kernel
theorem dX11_column_73 : decode cX11_column 73 = .ok (.getfield 44, 3) := by decide +kernel
theorem dX11_column_76 : decode cX11_column 76 = .ok (.aload_n 0, 1) := by decide +kernel
theorem dX11_column_77 : decode cX11_column 77 = .ok (.getfield 94, 3) := by decide +kernel
theorem dX11_column_80 : decode cX11_column 80 = .ok (.iload_n 1, 1) := by decide +kernel
theorem dX11_column_81 : decode cX11_column 81 = .ok (.invokevirtual 173, 3) := by decide +kernel
theorem dX11_column_84 : decode cX11_column 84 = .ok (.aload_n 0, 1) := by decide +kernel
theorem dX11_column_85 : decode cX11_column 85 = .ok (.getfield 13, 3) := by decide +kernel
theorem dX11_column_88 : decode cX11_column 88 = .ok (.invokevirtual 187, 3) := by decide +kernel
theorem dX11_column_91 : decode cX11_column 91 = .ok (.putfield 184, 3) := by decide +kernel
theorem dX11_column_94 : decode cX11_column 94 = .ok (.aload_n 0, 1) := by decide +kernel
theorem dX11_column_95 : decode cX11_column 95 = .ok (.getfield 184, 3) := by decide +kernel
theorem dX11_column_98 : decode cX11_column 98 = .ok (.ireturn, 1) := by decide +kernel
theorem dX11_written_0 : decode cX11_written 0 = .ok (.iload_n 1, 1) := by decide +kernel
theorem dX11_written_1 : decode cX11_written 1 = .ok (.ifCond .lt 27, 3) := by decide +kernel
theorem dX11_written_4 : decode cX11_written 4 = .ok (.iload_n 1, 1) := by decide +kernel
theorem dX11_written_5 : decode cX11_written 5 = .ok (.aload_n 0, 1) := by decide +kernel
theorem dX11_written_6 : decode cX11_written 6 = .ok (.getfield 184, 3) := by decide +kernel
theorem dX11_written_9 : decode cX11_written 9 = .ok (.if_icmp .ge 19, 3) := by decide +kernel
theorem dX11_written_12 : decode cX11_written 12 = .ok (.iload_n 1, 1) := by decide +kernel
theorem dX11_written_13 : decode cX11_written 13 = .ok (.sipush 200, 3) := by decide +kernel
theorem dX11_written_16 : decode cX11_written 16 = .ok (.if_icmp .ge 12, 3) := by decide +kernel
theorem dX11_written_19 : decode cX11_written 19 = .ok (.aload_n 0, 1) := by decide +kernel
theorem dX11_written_20 : decode cX11_written 20 = .ok (.getfield 13, 3) := by decide +kernel
theorem dX11_written_23 : decode cX11_written 23 = .ok (.iload_n 1, 1) := by decide +kernel
theorem dX11_written_24 : decode cX11_written 24 = .ok (.baload, 1) := by decide +kernel
theorem dX11_written_25 : decode cX11_written 25 = .ok (.goto 4, 3) := by decide +kernel
theorem dX11_written_28 : decode cX11_written 28 = .ok (.iconst (-1), 1) := by decide +kernel
theorem dX11_written_29 : decode cX11_written 29 = .ok (.ireturn, 1) := by decide +kernel
theorem dX11_made_0 : decode cX11_made 0 = .ok (.aload_n 0, 1) := by decide +kernel
theorem dX11_made_1 : decode cX11_made 1 = .ok (.getfield 190, 3) := by decide +kernel
theorem dX11_made_4 : decode cX11_made 4 = .ok (.ireturn, 1) := by decide +kernel
theorem dX11_plan_0 : decode cX11_plan 0 = .ok (.aload_n 0, 1) := by decide +kernel
theorem dX11_plan_1 : decode cX11_plan 1 = .ok (.getfield 71, 3) := by decide +kernel
theorem dX11_plan_4 : decode cX11_plan 4 = .ok (.iload_n 1, 1) := by decide +kernel
theorem dX11_plan_5 : decode cX11_plan 5 = .ok (.invokevirtual 193, 3) := by decide +kernel
theorem dX11_plan_8 : decode cX11_plan 8 = .ok (.ireturn, 1) := by decide +kernel
theorem dX11_triples_0 : decode cX11_triples 0 = .ok (.aload_n 0, 1) := by decide +kernel
theorem dX11_triples_1 : decode cX11_triples 1 = .ok (.getfield 26, 3) := by decide +kernel
theorem dX11_triples_4 : decode cX11_triples 4 = .ok (.getfield 196, 3) := by decide +kernel
theorem dX11_triples_7 : decode cX11_triples 7 = .ok (.ireturn, 1) := by decide +kernel
theorem dX11_said_0 : decode cX11_said 0 = .ok (.aload_n 0, 1) := by decide +kernel
theorem dX11_said_1 : decode cX11_said 1 = .ok (.getfield 26, 3) := by decide +kernel
theorem dX11_said_4 : decode cX11_said 4 = .ok (.getfield 152, 3) := by decide +kernel
theorem dX11_said_7 : decode cX11_said 7 = .ok (.ireturn, 1) := by decide +kernel
theorem dX11_terms_0 : decode cX11_terms 0 = .ok (.aload_n 0, 1) := by decide +kernel
theorem dX11_terms_1 : decode cX11_terms 1 = .ok (.getfield 19, 3) := by decide +kernel
theorem dX11_terms_4 : decode cX11_terms 4 = .ok (.getfield 197, 3) := by decide +kernel
theorem dX11_terms_7 : decode cX11_terms 7 = .ok (.ireturn, 1) := by decide +kernel
theorem dX11_rules_0 : decode cX11_rules 0 = .ok (.aload_n 0, 1) := by decide +kernel
theorem dX11_rules_1 : decode cX11_rules 1 = .ok (.getfield 35, 3) := by decide +kernel
theorem dX11_rules_4 : decode cX11_rules 4 = .ok (.getfield 200, 3) := by decide +kernel
theorem dX11_rules_7 : decode cX11_rules 7 = .ok (.ireturn, 1) := by decide +kernel
theorem dX11_term_0 : decode cX11_term 0 = .ok (.iload_n 1, 1) := by decide +kernel
theorem dX11_term_1 : decode cX11_term 1 = .ok (.iconst 1, 1) := by decide +kernel
theorem dX11_term_2 : decode cX11_term 2 = .ok (.if_icmp .lt 14, 3) := by decide +kernel
theorem dX11_term_5 : decode cX11_term 5 = .ok (.iload_n 1, 1) := by decide +kernel
theorem dX11_term_6 : decode cX11_term 6 = .ok (.aload_n 0, 1) := by decide +kernel
theorem dX11_term_7 : decode cX11_term 7 = .ok (.getfield 19, 3) := by decide +kernel
theorem dX11_term_10 : decode cX11_term 10 = .ok (.getfield 197, 3) := by decide +kernel
theorem dX11_term_13 : decode cX11_term 13 = .ok (.if_icmp .le 5, 3) := by decide +kernel
theorem dX11_term_16 : decode cX11_term 16 = .ok (.iconst (-1), 1) := by decide +kernel
theorem dX11_term_17 : decode cX11_term 17 = .ok (.ireturn, 1) := by decide +kernel
theorem dX11_term_18 : decode cX11_term 18 = .ok (.aload_n 0, 1) := by decide +kernel
theorem dX11_term_19 : decode cX11_term 19 = .ok (.aload_n 0, 1) := by decide +kernel
theorem dX11_term_20 : decode cX11_term 20 = .ok (.getfield 19, 3) := by decide +kernel
theorem dX11_term_23 : decode cX11_term 23 = .ok (.iload_n 1, 1) := by decide +kernel
theorem dX11_term_24 : decode cX11_term 24 = .ok (.aload_n 0, 1) := by decide +kernel
theorem dX11_term_25 : decode cX11_term 25 = .ok (.getfield 13, 3) := by decide +kernel
theorem dX11_term_28 : decode cX11_term 28 = .ok (.invokevirtual 180, 3) := by decide +kernel
theorem dX11_term_31 : decode cX11_term 31 = .ok (.putfield 184, 3) := by decide +kernel
theorem dX11_term_34 : decode cX11_term 34 = .ok (.aload_n 0, 1) := by decide +kernel
theorem dX11_term_35 : decode cX11_term 35 = .ok (.getfield 184, 3) := by decide +kernel
theorem dX11_term_38 : decode cX11_term 38 = .ok (.ireturn, 1) := by decide +kernel
theorem dX11_find_0 : decode cX11_find 0 = .ok (.iload_n 1, 1) := by decide +kernel
theorem dX11_find_1 : decode cX11_find 1 = .ok (.ifCond .lt 32, 3) := by decide +kernel
theorem dX11_find_4 : decode cX11_find 4 = .ok (.iload_n 1, 1) := by decide +kernel
theorem dX11_find_5 : decode cX11_find 5 = .ok (.iconst 5, 1) := by decide +kernel
theorem dX11_find_6 : decode cX11_find 6 = .ok (.if_icmp .gt 27, 3) := by decide +kernel
theorem dX11_find_9 : decode cX11_find 9 = .ok (.iload_n 2, 1) := by decide +kernel
theorem dX11_find_10 : decode cX11_find 10 = .ok (.ifCond .lt 23, 3) := by decide +kernel
theorem dX11_find_13 : decode cX11_find 13 = .ok (.iload_n 2, 1) := by decide +kernel
theorem dX11_find_14 : decode cX11_find 14 = .ok (.aload_n 0, 1) := by decide +kernel
theorem dX11_find_15 : decode cX11_find 15 = .ok (.getfield 26, 3) := by decide +kernel
theorem dX11_find_18 : decode cX11_find 18 = .ok (.getfield 196, 3) := by decide +kernel
theorem dX11_find_21 : decode cX11_find 21 = .ok (.if_icmp .ge 12, 3) := by decide +kernel
theorem dX11_find_24 : decode cX11_find 24 = .ok (.iload_n 3, 1) := by decide +kernel
theorem dX11_find_25 : decode cX11_find 25 = .ok (.ifCond .lt 8, 3) := by decide +kernel
theorem dX11_find_28 : decode cX11_find 28 = .ok (.iload_n 3, 1) := by decide +kernel
theorem dX11_find_29 : decode cX11_find 29 = .ok (.iconst 3, 1) := by decide +kernel
theorem dX11_find_30 : decode cX11_find 30 = .ok (.if_icmp .le 5, 3) := by decide +kernel
theorem dX11_find_33 : decode cX11_find 33 = .ok (.iconst (-1), 1) := by decide +kernel
theorem dX11_find_34 : decode cX11_find 34 = .ok (.ireturn, 1) := by decide +kernel
theorem dX11_find_35 : decode cX11_find 35 = .ok (.aload_n 0, 1) := by decide +kernel
theorem dX11_find_36 : decode cX11_find 36 = .ok (.getfield 26, 3) := by decide +kernel
theorem dX11_find_39 : decode cX11_find 39 = .ok (.invokevirtual 201, 3) := by decide +kernel
theorem dX11_find_42 : decode cX11_find 42 = .ok (.aload_n 0, 1) := by decide +kernel
theorem dX11_find_43 : decode cX11_find 43 = .ok (.getfield 26, 3) := by decide +kernel
theorem dX11_find_46 : decode cX11_find 46 = .ok (.iload_n 1, 1) := by decide +kernel
theorem dX11_find_47 : decode cX11_find 47 = .ok (.iload_n 2, 1) := by decide +kernel
theorem dX11_find_48 : decode cX11_find 48 = .ok (.iconst 0, 1) := by decide +kernel
theorem dX11_find_49 : decode cX11_find 49 = .ok (.invokevirtual 204, 3) := by decide +kernel
theorem dX11_find_52 : decode cX11_find 52 = .ok (.istore 4, 2) := by decide +kernel
theorem dX11_find_54 : decode cX11_find 54 = .ok (.aload_n 0, 1) := by decide +kernel
theorem dX11_find_55 : decode cX11_find 55 = .ok (.getfield 26, 3) := by decide +kernel
theorem dX11_find_58 : decode cX11_find 58 = .ok (.iload_n 1, 1) := by decide +kernel
theorem dX11_find_59 : decode cX11_find 59 = .ok (.iload_n 2, 1) := by decide +kernel
theorem dX11_find_60 : decode cX11_find 60 = .ok (.iconst 1, 1) := by decide +kernel
theorem dX11_find_61 : decode cX11_find 61 = .ok (.invokevirtual 204, 3) := by decide +kernel
theorem dX11_find_64 : decode cX11_find 64 = .ok (.istore 5, 2) := by decide +kernel
theorem dX11_find_66 : decode cX11_find 66 = .ok (.aload_n 0, 1) := by decide +kernel
theorem dX11_find_67 : decode cX11_find 67 = .ok (.getfield 26, 3) := by decide +kernel
theorem dX11_find_70 : decode cX11_find 70 = .ok (.iload_n 1, 1) := by decide +kernel
theorem dX11_find_71 : decode cX11_find 71 = .ok (.iload_n 2, 1) := by decide +kernel
theorem dX11_find_72 : decode cX11_find 72 = .ok (.iconst 2, 1) := by decide +kernel
theorem dX11_find_73 : decode cX11_find 73 = .ok (.invokevirtual 204, 3) := by decide +kernel
theorem dX11_find_76 : decode cX11_find 76 = .ok (.istore 6, 2) := by decide +kernel
theorem dX11_find_78 : decode cX11_find 78 = .ok (.iload_n 3, 1) := by decide +kernel
theorem dX11_find_79 : decode cX11_find 79 = .ok (.iconst 3, 1) := by decide +kernel
theorem dX11_find_80 : decode cX11_find 80 = .ok (.if_icmp .ne 32, 3) := by decide +kernel
theorem dX11_find_83 : decode cX11_find 83 = .ok (.aload_n 0, 1) := by decide +kernel
theorem dX11_find_84 : decode cX11_find 84 = .ok (.getfield 26, 3) := by decide +kernel
theorem dX11_find_87 : decode cX11_find 87 = .ok (.aload_n 0, 1) := by decide +kernel
theorem dX11_find_88 : decode cX11_find 88 = .ok (.getfield 26, 3) := by decide +kernel
theorem dX11_find_91 : decode cX11_find 91 = .ok (.iload 4, 2) := by decide +kernel
theorem dX11_find_93 : decode cX11_find 93 = .ok (.iload 5, 2) := by decide +kernel
theorem dX11_find_95 : decode cX11_find 95 = .ok (.iload 6, 2) := by decide +kernel
theorem dX11_find_97 : decode cX11_find 97 = .ok (.invokevirtual 208, 3) := by decide +kernel
theorem dX11_find_100 : decode cX11_find 100 = .ok (.invokevirtual 211, 3) := by decide +kernel
theorem dX11_find_103 : decode cX11_find 103 = .ok (.ifCond .eq 7, 3) := by decide +kernel
theorem dX11_find_106 : decode cX11_find 106 = .ok (.iconst 1, 1) := by decide +kernel
theorem dX11_find_107 : decode cX11_find 107 = .ok (.goto 4, 3) := by decide +kernel
theorem dX11_find_110 : decode cX11_find 110 = .ok (.iconst 0, 1) := by decide +kernel
theorem dX11_find_111 : decode cX11_find 111 = .ok (.ireturn, 1) := by decide +kernel
theorem dX11_find_112 : decode cX11_find 112 = .ok (.iload_n 3, 1) := by decide +kernel
theorem dX11_find_113 : decode cX11_find 113 = .ok (.ifCond .ne 8, 3) := by decide +kernel
theorem dX11_find_116 : decode cX11_find 116 = .ok (.iload 4, 2) := by decide +kernel
theorem dX11_find_118 : decode cX11_find 118 = .ok (.goto 15, 3) := by decide +kernel
theorem dX11_find_121 : decode cX11_find 121 = .ok (.iload_n 3, 1) := by decide +kernel
theorem dX11_find_122 : decode cX11_find 122 = .ok (.iconst 1, 1) := by decide +kernel
theorem dX11_find_123 : decode cX11_find 123 = .ok (.if_icmp .ne 8, 3) := by decide +kernel
theorem dX11_find_126 : decode cX11_find 126 = .ok (.iload 5, 2) := by decide +kernel
theorem dX11_find_128 : decode cX11_find 128 = .ok (.goto 5, 3) := by decide +kernel
theorem dX11_find_131 : decode cX11_find 131 = .ok (.iload 6, 2) := by decide +kernel
theorem dX11_find_133 : decode cX11_find 133 = .ok (.ireturn, 1) := by decide +kernel
theorem dX11_count_0 : decode cX11_count 0 = .ok (.iload_n 1, 1) := by decide +kernel
theorem dX11_count_1 : decode cX11_count 1 = .ok (.ifCond .lt 17, 3) := by decide +kernel
theorem dX11_count_4 : decode cX11_count 4 = .ok (.iload_n 1, 1) := by decide +kernel
theorem dX11_count_5 : decode cX11_count 5 = .ok (.iconst 5, 1) := by decide +kernel
theorem dX11_count_6 : decode cX11_count 6 = .ok (.if_icmp .gt 12, 3) := by decide +kernel
theorem dX11_count_9 : decode cX11_count 9 = .ok (.iload_n 2, 1) := by decide +kernel
theorem dX11_count_10 : decode cX11_count 10 = .ok (.ifCond .lt 8, 3) := by decide +kernel
theorem dX11_count_13 : decode cX11_count 13 = .ok (.iload_n 2, 1) := by decide +kernel
theorem dX11_count_14 : decode cX11_count 14 = .ok (.iconst 3, 1) := by decide +kernel
theorem dX11_count_15 : decode cX11_count 15 = .ok (.if_icmp .le 5, 3) := by decide +kernel
theorem dX11_count_18 : decode cX11_count 18 = .ok (.iconst (-1), 1) := by decide +kernel
theorem dX11_count_19 : decode cX11_count 19 = .ok (.ireturn, 1) := by decide +kernel
theorem dX11_count_20 : decode cX11_count 20 = .ok (.iload_n 2, 1) := by decide +kernel
theorem dX11_count_21 : decode cX11_count 21 = .ok (.ifCond .le 14, 3) := by decide +kernel
theorem dX11_count_24 : decode cX11_count 24 = .ok (.aload_n 0, 1) := by decide +kernel
theorem dX11_count_25 : decode cX11_count 25 = .ok (.getfield 19, 3) := by decide +kernel
theorem dX11_count_28 : decode cX11_count 28 = .ok (.iload_n 3, 1) := by decide +kernel
theorem dX11_count_29 : decode cX11_count 29 = .ok (.invokevirtual 215, 3) := by decide +kernel
theorem dX11_count_32 : decode cX11_count 32 = .ok (.ifCond .eq 37, 3) := by decide +kernel
theorem dX11_count_35 : decode cX11_count 35 = .ok (.iload_n 2, 1) := by decide +kernel
theorem dX11_count_36 : decode cX11_count 36 = .ok (.iconst 1, 1) := by decide +kernel
theorem dX11_count_37 : decode cX11_count 37 = .ok (.if_icmp .le 15, 3) := by decide +kernel
theorem dX11_count_40 : decode cX11_count 40 = .ok (.aload_n 0, 1) := by decide +kernel
theorem dX11_count_41 : decode cX11_count 41 = .ok (.getfield 19, 3) := by decide +kernel
theorem dX11_count_44 : decode cX11_count 44 = .ok (.iload 4, 2) := by decide +kernel
theorem dX11_count_46 : decode cX11_count 46 = .ok (.invokevirtual 215, 3) := by decide +kernel
theorem dX11_count_49 : decode cX11_count 49 = .ok (.ifCond .eq 20, 3) := by decide +kernel
theorem dX11_count_52 : decode cX11_count 52 = .ok (.iload_n 2, 1) := by decide +kernel
theorem dX11_count_53 : decode cX11_count 53 = .ok (.iconst 2, 1) := by decide +kernel
theorem dX11_count_54 : decode cX11_count 54 = .ok (.if_icmp .le 19, 3) := by decide +kernel
theorem dX11_count_57 : decode cX11_count 57 = .ok (.aload_n 0, 1) := by decide +kernel
theorem dX11_count_58 : decode cX11_count 58 = .ok (.getfield 19, 3) := by decide +kernel
theorem dX11_count_61 : decode cX11_count 61 = .ok (.iload 5, 2) := by decide +kernel
theorem dX11_count_63 : decode cX11_count 63 = .ok (.invokevirtual 215, 3) := by decide +kernel
theorem dX11_count_66 : decode cX11_count 66 = .ok (.ifCond .ne 7, 3) := by decide +kernel
theorem dX11_count_69 : decode cX11_count 69 = .ok (.iconst 1, 1) := by decide +kernel
theorem dX11_count_70 : decode cX11_count 70 = .ok (.goto 4, 3) := by decide +kernel
theorem dX11_count_73 : decode cX11_count 73 = .ok (.iconst 0, 1) := by decide +kernel
theorem dX11_count_74 : decode cX11_count 74 = .ok (.istore 6, 2) := by decide +kernel
theorem dX11_count_76 : decode cX11_count 76 = .ok (.iload 6, 2) := by decide +kernel
theorem dX11_count_78 : decode cX11_count 78 = .ok (.ifCond .eq 5, 3) := by decide +kernel
theorem dX11_count_81 : decode cX11_count 81 = .ok (.iconst 0, 1) := by decide +kernel
theorem dX11_count_82 : decode cX11_count 82 = .ok (.ireturn, 1) := by decide +kernel
theorem dX11_count_83 : decode cX11_count 83 = .ok (.aload_n 0, 1) := by decide +kernel
theorem dX11_count_84 : decode cX11_count 84 = .ok (.getfield 26, 3) := by decide +kernel
theorem dX11_count_87 : decode cX11_count 87 = .ok (.invokevirtual 201, 3) := by decide +kernel
theorem dX11_count_90 : decode cX11_count 90 = .ok (.aload_n 0, 1) := by decide +kernel
theorem dX11_count_91 : decode cX11_count 91 = .ok (.getfield 26, 3) := by decide +kernel
theorem dX11_count_94 : decode cX11_count 94 = .ok (.iload_n 1, 1) := by decide +kernel
theorem dX11_count_95 : decode cX11_count 95 = .ok (.iload_n 2, 1) := by decide +kernel
theorem dX11_count_96 : decode cX11_count 96 = .ok (.iload_n 2, 1) := by decide +kernel
theorem dX11_count_97 : decode cX11_count 97 = .ok (.ifCond .le 7, 3) := by decide +kernel
theorem dX11_count_100 : decode cX11_count 100 = .ok (.iload_n 3, 1) := by decide +kernel
theorem dX11_count_101 : decode cX11_count 101 = .ok (.goto 4, 3) := by decide +kernel
theorem dX11_count_104 : decode cX11_count 104 = .ok (.iconst 0, 1) := by decide +kernel
theorem dX11_count_105 : decode cX11_count 105 = .ok (.iload_n 2, 1) := by decide +kernel
theorem dX11_count_106 : decode cX11_count 106 = .ok (.iconst 1, 1) := by decide +kernel
theorem dX11_count_107 : decode cX11_count 107 = .ok (.if_icmp .le 8, 3) := by decide +kernel
theorem dX11_count_110 : decode cX11_count 110 = .ok (.iload 4, 2) := by decide +kernel
theorem dX11_count_112 : decode cX11_count 112 = .ok (.goto 4, 3) := by decide +kernel
theorem dX11_count_115 : decode cX11_count 115 = .ok (.iconst 0, 1) := by decide +kernel
theorem dX11_count_116 : decode cX11_count 116 = .ok (.iload_n 2, 1) := by decide +kernel
theorem dX11_count_117 : decode cX11_count 117 = .ok (.iconst 2, 1) := by decide +kernel
theorem dX11_count_118 : decode cX11_count 118 = .ok (.if_icmp .le 8, 3) := by decide +kernel
theorem dX11_count_121 : decode cX11_count 121 = .ok (.iload 5, 2) := by decide +kernel
theorem dX11_count_123 : decode cX11_count 123 = .ok (.goto 4, 3) := by decide +kernel
theorem dX11_count_126 : decode cX11_count 126 = .ok (.iconst 0, 1) := by decide +kernel
theorem dX11_count_127 : decode cX11_count 127 = .ok (.invokevirtual 218, 3) := by decide +kernel
theorem dX11_count_130 : decode cX11_count 130 = .ok (.aload_n 0, 1) := by decide +kernel
theorem dX11_count_131 : decode cX11_count 131 = .ok (.getfield 26, 3) := by decide +kernel
theorem dX11_count_134 : decode cX11_count 134 = .ok (.getfield 222, 3) := by decide +kernel
theorem dX11_count_137 : decode cX11_count 137 = .ok (.aload_n 0, 1) := by decide +kernel
theorem dX11_count_138 : decode cX11_count 138 = .ok (.getfield 26, 3) := by decide +kernel
theorem dX11_count_141 : decode cX11_count 141 = .ok (.getfield 225, 3) := by decide +kernel
theorem dX11_count_144 : decode cX11_count 144 = .ok (.isub, 1) := by decide +kernel
theorem dX11_count_145 : decode cX11_count 145 = .ok (.ireturn, 1) := by decide +kernel
