theorem dX14_begin_0 : decode cX14_begin 0 = .ok (.aload_n 0, 1) := by decide +kernel
theorem dX14_begin_1 : decode cX14_begin 1 = .ok (.iconst 0, 1) := by decide +kernel
theorem dX14_begin_2 : decode cX14_begin 2 = .ok (.putfield 19, 3) := by decide +kernel
theorem dX14_begin_5 : decode cX14_begin 5 = .ok (.aload_n 0, 1) := by decide +kernel
theorem dX14_begin_6 : decode cX14_begin 6 = .ok (.iconst 0, 1) := by decide +kernel
theorem dX14_begin_7 : decode cX14_begin 7 = .ok (.putfield 23, 3) := by decide +kernel
theorem dX14_begin_10 : decode cX14_begin 10 = .ok (.aload_n 0, 1) := by decide +kernel
theorem dX14_begin_11 : decode cX14_begin 11 = .ok (.iconst 0, 1) := by decide +kernel
theorem dX14_begin_12 : decode cX14_begin 12 = .ok (.putfield 27, 3) := by decide +kernel
theorem dX14_begin_15 : decode cX14_begin 15 = .ok (.return_, 1) := by decide +kernel
theorem dX14_byteAt_0 : decode cX14_byteAt 0 = .ok (.iload_n 1, 1) := by decide +kernel
theorem dX14_byteAt_1 : decode cX14_byteAt 1 = .ok (.aload_n 0, 1) := by decide +kernel
theorem dX14_byteAt_2 : decode cX14_byteAt 2 = .ok (.getfield 30, 3) := by decide +kernel
theorem dX14_byteAt_5 : decode cX14_byteAt 5 = .ok (.if_icmp .ge 16, 3) := by decide +kernel
theorem dX14_byteAt_8 : decode cX14_byteAt 8 = .ok (.aload_n 0, 1) := by decide +kernel
theorem dX14_byteAt_9 : decode cX14_byteAt 9 = .ok (.getfield 9, 3) := by decide +kernel
theorem dX14_byteAt_12 : decode cX14_byteAt 12 = .ok (.iload_n 1, 1) := by decide +kernel
theorem dX14_byteAt_13 : decode cX14_byteAt 13 = .ok (.baload, 1) := by decide +kernel
theorem dX14_byteAt_14 : decode cX14_byteAt 14 = .ok (.sipush 255, 3) := by decide +kernel
theorem dX14_byteAt_17 : decode cX14_byteAt 17 = .ok (.iand, 1) := by decide +kernel
theorem dX14_byteAt_18 : decode cX14_byteAt 18 = .ok (.goto 4, 3) := by decide +kernel
theorem dX14_byteAt_21 : decode cX14_byteAt 21 = .ok (.iconst (-1), 1) := by decide +kernel
theorem dX14_byteAt_22 : decode cX14_byteAt 22 = .ok (.ireturn, 1) := by decide +kernel
theorem dX14_skip_0 : decode cX14_skip 0 = .ok (.iconst 1, 1) := by decide +kernel
theorem dX14_skip_1 : decode cX14_skip 1 = .ok (.istore_n 1, 1) := by decide +kernel
theorem dX14_skip_2 : decode cX14_skip 2 = .ok (.iload_n 1, 1) := by decide +kernel
theorem dX14_skip_3 : decode cX14_skip 3 = .ok (.ifCond .eq 108, 3) := by decide +kernel
theorem dX14_skip_6 : decode cX14_skip 6 = .ok (.aload_n 0, 1) := by decide +kernel
theorem dX14_skip_7 : decode cX14_skip 7 = .ok (.aload_n 0, 1) := by decide +kernel
theorem dX14_skip_8 : decode cX14_skip 8 = .ok (.getfield 19, 3) := by decide +kernel
theorem dX14_skip_11 : decode cX14_skip 11 = .ok (.invokevirtual 40, 3) := by decide +kernel
theorem dX14_skip_14 : decode cX14_skip 14 = .ok (.istore_n 2, 1) := by decide +kernel
theorem dX14_skip_15 : decode cX14_skip 15 = .ok (.iload_n 2, 1) := by decide +kernel
theorem dX14_skip_16 : decode cX14_skip 16 = .ok (.bipush 32, 2) := by decide +kernel
theorem dX14_skip_18 : decode cX14_skip 18 = .ok (.if_icmp .eq 27, 3) := by decide +kernel
theorem dX14_skip_21 : decode cX14_skip 21 = .ok (.iload_n 2, 1) := by decide +kernel
theorem dX14_skip_22 : decode cX14_skip 22 = .ok (.bipush 9, 2) := by decide +kernel
theorem dX14_skip_24 : decode cX14_skip 24 = .ok (.if_icmp .eq 21, 3) := by decide +kernel
theorem dX14_skip_27 : decode cX14_skip 27 = .ok (.iload_n 2, 1) := by decide +kernel
theorem dX14_skip_28 : decode cX14_skip 28 = .ok (.bipush 10, 2) := by decide +kernel
theorem dX14_skip_30 : decode cX14_skip 30 = .ok (.if_icmp .eq 15, 3) := by decide +kernel
theorem dX14_skip_33 : decode cX14_skip 33 = .ok (.iload_n 2, 1) := by decide +kernel
theorem dX14_skip_34 : decode cX14_skip 34 = .ok (.bipush 13, 2) := by decide +kernel
theorem dX14_skip_36 : decode cX14_skip 36 = .ok (.if_icmp .eq 9, 3) := by decide +kernel
theorem dX14_skip_39 : decode cX14_skip 39 = .ok (.iload_n 2, 1) := by decide +kernel
theorem dX14_skip_40 : decode cX14_skip 40 = .ok (.bipush 35, 2) := by decide +kernel
theorem dX14_skip_42 : decode cX14_skip 42 = .ok (.if_icmp .ne 7, 3) := by decide +kernel
theorem dX14_skip_45 : decode cX14_skip 45 = .ok (.iconst 1, 1) := by decide +kernel
theorem dX14_skip_46 : decode cX14_skip 46 = .ok (.goto 4, 3) := by decide +kernel
theorem dX14_skip_49 : decode cX14_skip 49 = .ok (.iconst 0, 1) := by decide +kernel
theorem dX14_skip_50 : decode cX14_skip 50 = .ok (.istore_n 1, 1) := by decide +kernel
theorem dX14_skip_51 : decode cX14_skip 51 = .ok (.iload_n 2, 1) := by decide +kernel
theorem dX14_skip_52 : decode cX14_skip 52 = .ok (.bipush 35, 2) := by decide +kernel
theorem dX14_skip_54 : decode cX14_skip 54 = .ok (.if_icmp .ne 40, 3) := by decide +kernel
theorem dX14_skip_57 : decode cX14_skip 57 = .ok (.aload_n 0, 1) := by decide +kernel
theorem dX14_skip_58 : decode cX14_skip 58 = .ok (.getfield 19, 3) := by decide +kernel
theorem dX14_skip_61 : decode cX14_skip 61 = .ok (.aload_n 0, 1) := by decide +kernel
theorem dX14_skip_62 : decode cX14_skip 62 = .ok (.getfield 30, 3) := by decide +kernel
theorem dX14_skip_65 : decode cX14_skip 65 = .ok (.if_icmp .ge 43, 3) := by decide +kernel
theorem dX14_skip_68 : decode cX14_skip 68 = .ok (.aload_n 0, 1) := by decide +kernel
theorem dX14_skip_69 : decode cX14_skip 69 = .ok (.aload_n 0, 1) := by decide +kernel
theorem dX14_skip_70 : decode cX14_skip 70 = .ok (.getfield 19, 3) := by decide +kernel
theorem dX14_skip_73 : decode cX14_skip 73 = .ok (.invokevirtual 40, 3) := by decide +kernel
theorem dX14_skip_76 : decode cX14_skip 76 = .ok (.bipush 10, 2) := by decide +kernel
theorem dX14_skip_78 : decode cX14_skip 78 = .ok (.if_icmp .eq 30, 3) := by decide +kernel
theorem dX14_skip_81 : decode cX14_skip 81 = .ok (.aload_n 0, 1) := by decide +kernel
theorem dX14_skip_82 : decode cX14_skip 82 = .ok (.dup, 1) := by decide +kernel
theorem dX14_skip_83 : decode cX14_skip 83 = .ok (.getfield 19, 3) := by decide +kernel
theorem dX14_skip_86 : decode cX14_skip 86 = .ok (.iconst 1, 1) := by decide +kernel
theorem dX14_skip_87 : decode cX14_skip 87 = .ok (.iadd, 1) := by decide +kernel
theorem dX14_skip_88 : decode cX14_skip 88 = .ok (.putfield 19, 3) := by decide +kernel
theorem dX14_skip_91 : decode cX14_skip 91 = .ok (.goto (-34), 3) := by decide +kernel
theorem dX14_skip_94 : decode cX14_skip 94 = .ok (.iload_n 1, 1) := by decide +kernel
theorem dX14_skip_95 : decode cX14_skip 95 = .ok (.ifCond .eq 13, 3) := by decide +kernel
theorem dX14_skip_98 : decode cX14_skip 98 = .ok (.aload_n 0, 1) := by decide +kernel
theorem dX14_skip_99 : decode cX14_skip 99 = .ok (.dup, 1) := by decide +kernel
theorem dX14_skip_100 : decode cX14_skip 100 = .ok (.getfield 19, 3) := by decide +kernel
theorem dX14_skip_103 : decode cX14_skip 103 = .ok (.iconst 1, 1) := by decide +kernel
theorem dX14_skip_104 : decode cX14_skip 104 = .ok (.iadd, 1) := by decide +kernel
theorem dX14_skip_105 : decode cX14_skip 105 = .ok (.putfield 19, 3) := by decide +kernel
theorem dX14_skip_108 : decode cX14_skip 108 = .ok (.goto (-106), 3) := by decide +kernel
theorem dX14_skip_111 : decode cX14_skip 111 = .ok (.return_, 1) := by decide +kernel
theorem dX14_look_0 : decode cX14_look 0 = .ok (.aload_n 0, 1) := by decide +kernel
theorem dX14_look_1 : decode cX14_look 1 = .ok (.getfield 23, 3) := by decide +kernel
theorem dX14_look_4 : decode cX14_look 4 = .ok (.ifCond .eq 8, 3) := by decide +kernel
theorem dX14_look_7 : decode cX14_look 7 = .ok (.aload_n 0, 1) := by decide +kernel
theorem dX14_look_8 : decode cX14_look 8 = .ok (.getfield 44, 3) := by decide +kernel
theorem dX14_look_11 : decode cX14_look 11 = .ok (.ireturn, 1) := by decide +kernel
theorem dX14_look_12 : decode cX14_look 12 = .ok (.aload_n 0, 1) := by decide +kernel
theorem dX14_look_13 : decode cX14_look 13 = .ok (.invokevirtual 47, 3) := by decide +kernel
theorem dX14_look_16 : decode cX14_look 16 = .ok (.aload_n 0, 1) := by decide +kernel
theorem dX14_look_17 : decode cX14_look 17 = .ok (.iconst 1, 1) := by decide +kernel
theorem dX14_look_18 : decode cX14_look 18 = .ok (.putfield 23, 3) := by decide +kernel
theorem dX14_look_21 : decode cX14_look 21 = .ok (.aload_n 0, 1) := by decide +kernel
theorem dX14_look_22 : decode cX14_look 22 = .ok (.aload_n 0, 1) := by decide +kernel
theorem dX14_look_23 : decode cX14_look 23 = .ok (.getfield 19, 3) := by decide +kernel
theorem dX14_look_26 : decode cX14_look 26 = .ok (.putfield 50, 3) := by decide +kernel
theorem dX14_look_29 : decode cX14_look 29 = .ok (.aload_n 0, 1) := by decide +kernel
theorem dX14_look_30 : decode cX14_look 30 = .ok (.iconst 0, 1) := by decide +kernel
theorem dX14_look_31 : decode cX14_look 31 = .ok (.putfield 53, 3) := by decide +kernel
theorem dX14_look_34 : decode cX14_look 34 = .ok (.aload_n 0, 1) := by decide +kernel
theorem dX14_look_35 : decode cX14_look 35 = .ok (.iconst 0, 1) := by decide +kernel
theorem dX14_look_36 : decode cX14_look 36 = .ok (.putfield 56, 3) := by decide +kernel
theorem dX14_look_39 : decode cX14_look 39 = .ok (.aload_n 0, 1) := by decide +kernel
theorem dX14_look_40 : decode cX14_look 40 = .ok (.aload_n 0, 1) := by decide +kernel
theorem dX14_look_41 : decode cX14_look 41 = .ok (.getfield 19, 3) := by decide +kernel
theorem dX14_look_44 : decode cX14_look 44 = .ok (.invokevirtual 40, 3) := by decide +kernel
theorem dX14_look_47 : decode cX14_look 47 = .ok (.istore_n 1, 1) := by decide +kernel
theorem dX14_look_48 : decode cX14_look 48 = .ok (.iload_n 1, 1) := by decide +kernel
theorem dX14_look_49 : decode cX14_look 49 = .ok (.ifCond .ge 19, 3) := by decide +kernel
theorem dX14_look_52 : decode cX14_look 52 = .ok (.aload_n 0, 1) := by decide +kernel
theorem dX14_look_53 : decode cX14_look 53 = .ok (.iconst 0, 1) := by decide +kernel
theorem dX14_look_54 : decode cX14_look 54 = .ok (.putfield 44, 3) := by decide +kernel
theorem dX14_look_57 : decode cX14_look 57 = .ok (.aload_n 0, 1) := by decide +kernel
theorem dX14_look_58 : decode cX14_look 58 = .ok (.aload_n 0, 1) := by decide +kernel
theorem dX14_look_59 : decode cX14_look 59 = .ok (.getfield 19, 3) := by decide +kernel
theorem dX14_look_62 : decode cX14_look 62 = .ok (.putfield 59, 3) := by decide +kernel
theorem dX14_look_65 : decode cX14_look 65 = .ok (.goto 201, 3) := by decide +kernel
theorem dX14_look_68 : decode cX14_look 68 = .ok (.aload_n 0, 1) := by decide +kernel
theorem dX14_look_69 : decode cX14_look 69 = .ok (.iload_n 1, 1) := by decide +kernel
theorem dX14_look_70 : decode cX14_look 70 = .ok (.invokevirtual 62, 3) := by decide +kernel
theorem dX14_look_73 : decode cX14_look 73 = .ok (.ifCond .eq 10, 3) := by decide +kernel
theorem dX14_look_76 : decode cX14_look 76 = .ok (.aload_n 0, 1) := by decide +kernel
theorem dX14_look_77 : decode cX14_look 77 = .ok (.invokevirtual 65, 3) := by decide +kernel
theorem dX14_look_80 : decode cX14_look 80 = .ok (.goto 186, 3) := by decide +kernel
theorem dX14_look_83 : decode cX14_look 83 = .ok (.iload_n 1, 1) := by decide +kernel
theorem dX14_look_84 : decode cX14_look 84 = .ok (.invokestatic 33, 3) := by decide +kernel
theorem dX14_look_87 : decode cX14_look 87 = .ok (.ifCond .eq 10, 3) := by decide +kernel
theorem dX14_look_90 : decode cX14_look 90 = .ok (.aload_n 0, 1) := by decide +kernel
theorem dX14_look_91 : decode cX14_look 91 = .ok (.invokevirtual 68, 3) := by decide +kernel
theorem dX14_look_94 : decode cX14_look 94 = .ok (.goto 172, 3) := by decide +kernel
theorem dX14_look_97 : decode cX14_look 97 = .ok (.iload_n 1, 1) := by decide +kernel
theorem dX14_look_98 : decode cX14_look 98 = .ok (.bipush 34, 2) := by decide +kernel
theorem dX14_look_100 : decode cX14_look 100 = .ok (.if_icmp .ne 10, 3) := by decide +kernel
theorem dX14_look_103 : decode cX14_look 103 = .ok (.aload_n 0, 1) := by decide +kernel
theorem dX14_look_104 : decode cX14_look 104 = .ok (.invokevirtual 71, 3) := by decide +kernel
theorem dX14_look_107 : decode cX14_look 107 = .ok (.goto 159, 3) := by decide +kernel
theorem dX14_look_110 : decode cX14_look 110 = .ok (.iload_n 1, 1) := by decide +kernel
theorem dX14_look_111 : decode cX14_look 111 = .ok (.bipush 95, 2) := by decide +kernel
theorem dX14_look_113 : decode cX14_look 113 = .ok (.if_icmp .ne 45, 3) := by decide +kernel
theorem dX14_look_116 : decode cX14_look 116 = .ok (.aload_n 0, 1) := by decide +kernel
theorem dX14_look_117 : decode cX14_look 117 = .ok (.aload_n 0, 1) := by decide +kernel
theorem dX14_look_118 : decode cX14_look 118 = .ok (.getfield 19, 3) := by decide +kernel
theorem dX14_look_121 : decode cX14_look 121 = .ok (.iconst 1, 1) := by decide +kernel
theorem dX14_look_122 : decode cX14_look 122 = .ok (.iadd, 1) := by decide +kernel
theorem dX14_look_123 : decode cX14_look 123 = .ok (.invokevirtual 40, 3) := by decide +kernel
theorem dX14_look_126 : decode cX14_look 126 = .ok (.bipush 58, 2) := by decide +kernel
theorem dX14_look_128 : decode cX14_look 128 = .ok (.if_icmp .ne 30, 3) := by decide +kernel
theorem dX14_look_131 : decode cX14_look 131 = .ok (.aload_n 0, 1) := by decide +kernel
theorem dX14_look_132 : decode cX14_look 132 = .ok (.aload_n 0, 1) := by decide +kernel
theorem dX14_look_133 : decode cX14_look 133 = .ok (.getfield 19, 3) := by decide +kernel
theorem dX14_look_136 : decode cX14_look 136 = .ok (.iconst 2, 1) := by decide +kernel
theorem dX14_look_137 : decode cX14_look 137 = .ok (.iadd, 1) := by decide +kernel
theorem dX14_look_138 : decode cX14_look 138 = .ok (.invokevirtual 40, 3) := by decide +kernel
theorem dX14_look_141 : decode cX14_look 141 = .ok (.invokestatic 74, 3) := by decide +kernel
theorem dX14_look_144 : decode cX14_look 144 = .ok (.ifCond .eq 14, 3) := by decide +kernel
theorem dX14_look_147 : decode cX14_look 147 = .ok (.aload_n 0, 1) := by decide +kernel
theorem dX14_look_148 : decode cX14_look 148 = .ok (.iconst 1, 1) := by decide +kernel
theorem dX14_look_149 : decode cX14_look 149 = .ok (.iconst 2, 1) := by decide +kernel
theorem dX14_look_150 : decode cX14_look 150 = .ok (.bipush 40, 2) := by decide +kernel
theorem dX14_look_152 : decode cX14_look 152 = .ok (.invokevirtual 77, 3) := by decide +kernel
theorem dX14_look_155 : decode cX14_look 155 = .ok (.goto 111, 3) := by decide +kernel
theorem dX14_look_158 : decode cX14_look 158 = .ok (.iload_n 1, 1) := by decide +kernel
theorem dX14_look_159 : decode cX14_look 159 = .ok (.bipush 58, 2) := by decide +kernel
theorem dX14_look_161 : decode cX14_look 161 = .ok (.if_icmp .ne 30, 3) := by decide +kernel
theorem dX14_look_164 : decode cX14_look 164 = .ok (.aload_n 0, 1) := by decide +kernel
theorem dX14_look_165 : decode cX14_look 165 = .ok (.aload_n 0, 1) := by decide +kernel
theorem dX14_look_166 : decode cX14_look 166 = .ok (.getfield 19, 3) := by decide +kernel
theorem dX14_look_169 : decode cX14_look 169 = .ok (.iconst 1, 1) := by decide +kernel
theorem dX14_look_170 : decode cX14_look 170 = .ok (.iadd, 1) := by decide +kernel
theorem dX14_look_171 : decode cX14_look 171 = .ok (.invokevirtual 40, 3) := by decide +kernel
theorem dX14_look_174 : decode cX14_look 174 = .ok (.invokestatic 74, 3) := by decide +kernel
theorem dX14_look_177 : decode cX14_look 177 = .ok (.ifCond .eq 14, 3) := by decide +kernel
theorem dX14_look_180 : decode cX14_look 180 = .ok (.aload_n 0, 1) := by decide +kernel
theorem dX14_look_181 : decode cX14_look 181 = .ok (.iconst 2, 1) := by decide +kernel
theorem dX14_look_182 : decode cX14_look 182 = .ok (.iconst 1, 1) := by decide +kernel
theorem dX14_look_183 : decode cX14_look 183 = .ok (.bipush 40, 2) := by decide +kernel
theorem dX14_look_185 : decode cX14_look 185 = .ok (.invokevirtual 77, 3) := by decide +kernel
theorem dX14_look_188 : decode cX14_look 188 = .ok (.goto 78, 3) := by decide +kernel
theorem dX14_look_191 : decode cX14_look 191 = .ok (.iload_n 1, 1) := by decide +kernel
theorem dX14_look_192 : decode cX14_look 192 = .ok (.bipush 63, 2) := by decide +kernel
theorem dX14_look_194 : decode cX14_look 194 = .ok (.if_icmp .ne 43, 3) := by decide +kernel
theorem dX14_look_197 : decode cX14_look 197 = .ok (.aload_n 0, 1) := by decide +kernel
theorem dX14_look_198 : decode cX14_look 198 = .ok (.aload_n 0, 1) := by decide +kernel
theorem dX14_look_199 : decode cX14_look 199 = .ok (.getfield 19, 3) := by decide +kernel
theorem dX14_look_202 : decode cX14_look 202 = .ok (.iconst 1, 1) := by decide +kernel
theorem dX14_look_203 : decode cX14_look 203 = .ok (.iadd, 1) := by decide +kernel
theorem dX14_look_204 : decode cX14_look 204 = .ok (.invokevirtual 40, 3) := by decide +kernel
theorem dX14_look_207 : decode cX14_look 207 = .ok (.invokestatic 74, 3) := by decide +kernel
theorem dX14_look_210 : decode cX14_look 210 = .ok (.ifCond .eq 27, 3) := by decide +kernel
theorem dX14_look_213 : decode cX14_look 213 = .ok (.aload_n 0, 1) := by decide +kernel
theorem dX14_look_214 : decode cX14_look 214 = .ok (.aload_n 0, 1) := by decide +kernel
theorem dX14_look_215 : decode cX14_look 215 = .ok (.aload_n 0, 1) := by decide +kernel
theorem dX14_look_216 : decode cX14_look 216 = .ok (.getfield 19, 3) := by decide +kernel
theorem dX14_look_219 : decode cX14_look 219 = .ok (.iconst 1, 1) := by decide +kernel
theorem dX14_look_220 : decode cX14_look 220 = .ok (.iadd, 1) := by decide +kernel
theorem dX14_look_221 : decode cX14_look 221 = .ok (.bipush 12, 2) := by decide +kernel
theorem dX14_look_223 : decode cX14_look 223 = .ok (.invokevirtual 81, 3) := by decide +kernel
theorem dX14_look_226 : decode cX14_look 226 = .ok (.putfield 59, 3) := by decide +kernel
theorem dX14_look_229 : decode cX14_look 229 = .ok (.aload_n 0, 1) := by decide +kernel
theorem dX14_look_230 : decode cX14_look 230 = .ok (.iconst 2, 1) := by decide +kernel
theorem dX14_look_231 : decode cX14_look 231 = .ok (.putfield 44, 3) := by decide +kernel
theorem dX14_look_234 : decode cX14_look 234 = .ok (.goto 32, 3) := by decide +kernel
theorem dX14_look_237 : decode cX14_look 237 = .ok (.iload_n 1, 1) := by decide +kernel
theorem dX14_look_238 : decode cX14_look 238 = .ok (.bipush 60, 2) := by decide +kernel
theorem dX14_look_240 : decode cX14_look 240 = .ok (.if_icmp .ne 21, 3) := by decide +kernel
theorem dX14_look_243 : decode cX14_look 243 = .ok (.aload_n 0, 1) := by decide +kernel
theorem dX14_look_244 : decode cX14_look 244 = .ok (.aload_n 0, 1) := by decide +kernel
theorem dX14_look_245 : decode cX14_look 245 = .ok (.getfield 19, 3) := by decide +kernel
theorem dX14_look_248 : decode cX14_look 248 = .ok (.invokevirtual 85, 3) := by decide +kernel
theorem dX14_look_251 : decode cX14_look 251 = .ok (.ifCond .le 10, 3) := by decide +kernel
theorem dX14_look_254 : decode cX14_look 254 = .ok (.aload_n 0, 1) := by decide +kernel
theorem dX14_look_255 : decode cX14_look 255 = .ok (.invokevirtual 88, 3) := by decide +kernel
theorem dX14_look_258 : decode cX14_look 258 = .ok (.goto 8, 3) := by decide +kernel
theorem dX14_look_261 : decode cX14_look 261 = .ok (.aload_n 0, 1) := by decide +kernel
theorem dX14_look_262 : decode cX14_look 262 = .ok (.iload_n 1, 1) := by decide +kernel
theorem dX14_look_263 : decode cX14_look 263 = .ok (.invokevirtual 91, 3) := by decide +kernel
theorem dX14_look_266 : decode cX14_look 266 = .ok (.aload_n 0, 1) := by decide +kernel
theorem dX14_look_267 : decode cX14_look 267 = .ok (.getfield 44, 3) := by decide +kernel
theorem dX14_look_270 : decode cX14_look 270 = .ok (.ireturn, 1) := by decide +kernel
theorem dX14_isWordHere_0 : decode cX14_isWordHere 0 = .ok (.aload_n 0, 1) := by decide +kernel
theorem dX14_isWordHere_1 : decode cX14_isWordHere 1 = .ok (.invokevirtual 95, 3) := by decide +kernel
theorem dX14_isWordHere_4 : decode cX14_isWordHere 4 = .ok (.iconst 3, 1) := by decide +kernel
theorem dX14_isWordHere_5 : decode cX14_isWordHere 5 = .ok (.if_icmp .ne 19, 3) := by decide +kernel
theorem dX14_isWordHere_8 : decode cX14_isWordHere 8 = .ok (.aload_n 0, 1) := by decide +kernel
theorem dX14_isWordHere_9 : decode cX14_isWordHere 9 = .ok (.getfield 59, 3) := by decide +kernel
theorem dX14_isWordHere_12 : decode cX14_isWordHere 12 = .ok (.aload_n 0, 1) := by decide +kernel
theorem dX14_isWordHere_13 : decode cX14_isWordHere 13 = .ok (.getfield 50, 3) := by decide +kernel
theorem dX14_isWordHere_16 : decode cX14_isWordHere 16 = .ok (.isub, 1) := by decide +kernel
theorem dX14_isWordHere_17 : decode cX14_isWordHere 17 = .ok (.aload_n 1, 1) := by decide +kernel
theorem dX14_isWordHere_18 : decode cX14_isWordHere 18 = .ok (.invokevirtual 99, 3) := by decide +kernel
theorem dX14_isWordHere_21 : decode cX14_isWordHere 21 = .ok (.if_icmp .eq 5, 3) := by decide +kernel
theorem dX14_isWordHere_24 : decode cX14_isWordHere 24 = .ok (.iconst 0, 1) := by decide +kernel
theorem dX14_isWordHere_25 : decode cX14_isWordHere 25 = .ok (.ireturn, 1) := by decide +kernel
theorem dX14_isWordHere_26 : decode cX14_isWordHere 26 = .ok (.iconst 0, 1) := by decide +kernel
theorem dX14_isWordHere_27 : decode cX14_isWordHere 27 = .ok (.istore_n 2, 1) := by decide +kernel
theorem dX14_isWordHere_28 : decode cX14_isWordHere 28 = .ok (.iload_n 2, 1) := by decide +kernel
theorem dX14_isWordHere_29 : decode cX14_isWordHere 29 = .ok (.aload_n 1, 1) := by decide +kernel
theorem dX14_isWordHere_30 : decode cX14_isWordHere 30 = .ok (.invokevirtual 99, 3) := by decide +kernel
theorem dX14_isWordHere_33 : decode cX14_isWordHere 33 = .ok (.if_icmp .ge 29, 3) := by decide +kernel
theorem dX14_isWordHere_36 : decode cX14_isWordHere 36 = .ok (.aload_n 0, 1) := by decide +kernel
theorem dX14_isWordHere_37 : decode cX14_isWordHere 37 = .ok (.aload_n 0, 1) := by decide +kernel
theorem dX14_isWordHere_38 : decode cX14_isWordHere 38 = .ok (.getfield 50, 3) := by decide +kernel
theorem dX14_isWordHere_41 : decode cX14_isWordHere 41 = .ok (.iload_n 2, 1) := by decide +kernel
theorem dX14_isWordHere_42 : decode cX14_isWordHere 42 = .ok (.iadd, 1) := by decide +kernel
theorem dX14_isWordHere_43 : decode cX14_isWordHere 43 = .ok (.invokevirtual 40, 3) := by decide +kernel
theorem dX14_isWordHere_46 : decode cX14_isWordHere 46 = .ok (.aload_n 1, 1) := by decide +kernel
theorem dX14_isWordHere_47 : decode cX14_isWordHere 47 = .ok (.iload_n 2, 1) := by decide +kernel
theorem dX14_isWordHere_48 : decode cX14_isWordHere 48 = .ok (.invokevirtual 104, 3) := by decide +kernel
theorem dX14_isWordHere_51 : decode cX14_isWordHere 51 = .ok (.if_icmp .eq 5, 3) := by decide +kernel
theorem dX14_isWordHere_54 : decode cX14_isWordHere 54 = .ok (.iconst 0, 1) := by decide +kernel
theorem dX14_isWordHere_55 : decode cX14_isWordHere 55 = .ok (.ireturn, 1) := by decide +kernel
theorem dX14_isWordHere_56 : decode cX14_isWordHere 56 = .ok (.iinc 2 1, 3) := by decide +kernel
theorem dX14_isWordHere_59 : decode cX14_isWordHere 59 = .ok (.goto (-31), 3) := by decide +kernel
theorem dX14_isWordHere_62 : decode cX14_isWordHere 62 = .ok (.iconst 1, 1) := by decide +kernel
theorem dX14_isWordHere_63 : decode cX14_isWordHere 63 = .ok (.ireturn, 1) := by decide +kernel
theorem dX15_clear_0 : decode cX15_clear 0 = .ok (.aload_n 0, 1) := by decide +kernel
theorem dX15_clear_1 : decode cX15_clear 1 = .ok (.iconst 0, 1) := by decide +kernel
theorem dX15_clear_2 : decode cX15_clear 2 = .ok (.putfield 31, 3) := by decide +kernel
theorem dX15_clear_5 : decode cX15_clear 5 = .ok (.aload_n 0, 1) := by decide +kernel
theorem dX15_clear_6 : decode cX15_clear 6 = .ok (.iconst 0, 1) := by decide +kernel
theorem dX15_clear_7 : decode cX15_clear 7 = .ok (.putfield 35, 3) := by decide +kernel
theorem dX15_clear_10 : decode cX15_clear 10 = .ok (.return_, 1) := by decide +kernel
theorem dX16_fail_0 : decode cX16_fail 0 = .ok (.aload_n 0, 1) := by decide +kernel
theorem dX16_fail_1 : decode cX16_fail 1 = .ok (.iload_n 1, 1) := by decide +kernel
theorem dX16_fail_2 : decode cX16_fail 2 = .ok (.putfield 50, 3) := by decide +kernel
theorem dX16_fail_5 : decode cX16_fail 5 = .ok (.aload_n 0, 1) := by decide +kernel
theorem dX16_fail_6 : decode cX16_fail 6 = .ok (.iload_n 2, 1) := by decide +kernel
theorem dX16_fail_7 : decode cX16_fail 7 = .ok (.putfield 54, 3) := by decide +kernel
theorem dX16_fail_10 : decode cX16_fail 10 = .ok (.aload_n 0, 1) := by decide +kernel
theorem dX16_fail_11 : decode cX16_fail 11 = .ok (.getfield 16, 3) := by decide +kernel
theorem dX16_fail_14 : decode cX16_fail 14 = .ok (.athrow, 1) := by decide +kernel
theorem dX16_need_0 : decode cX16_need 0 = .ok (.iload_n 1, 1) := by decide +kernel
theorem dX16_need_1 : decode cX16_need 1 = .ok (.ifCond .ne 15, 3) := by decide +kernel
theorem dX16_need_4 : decode cX16_need 4 = .ok (.aload_n 0, 1) := by decide +kernel
theorem dX16_need_5 : decode cX16_need 5 = .ok (.iload_n 2, 1) := by decide +kernel
theorem dX16_need_6 : decode cX16_need 6 = .ok (.aload_n 0, 1) := by decide +kernel
theorem dX16_need_7 : decode cX16_need 7 = .ok (.getfield 34, 3) := by decide +kernel
theorem dX16_need_10 : decode cX16_need 10 = .ok (.getfield 57, 3) := by decide +kernel
theorem dX16_need_13 : decode cX16_need 13 = .ok (.invokevirtual 62, 3) := by decide +kernel
theorem dX16_need_16 : decode cX16_need 16 = .ok (.return_, 1) := by decide +kernel
theorem dX16_check_0 : decode cX16_check 0 = .ok (.aload_n 0, 1) := by decide +kernel
theorem dX16_check_1 : decode cX16_check 1 = .ok (.getfield 34, 3) := by decide +kernel
theorem dX16_check_4 : decode cX16_check 4 = .ok (.invokevirtual 66, 3) := by decide +kernel
theorem dX16_check_7 : decode cX16_check 7 = .ok (.iconst 5, 1) := by decide +kernel
theorem dX16_check_8 : decode cX16_check 8 = .ok (.if_icmp .ne 15, 3) := by decide +kernel
theorem dX16_check_11 : decode cX16_check 11 = .ok (.aload_n 0, 1) := by decide +kernel
theorem dX16_check_12 : decode cX16_check 12 = .ok (.iconst 1, 1) := by decide +kernel
theorem dX16_check_13 : decode cX16_check 13 = .ok (.aload_n 0, 1) := by decide +kernel
theorem dX16_check_14 : decode cX16_check 14 = .ok (.getfield 34, 3) := by decide +kernel
theorem dX16_check_17 : decode cX16_check 17 = .ok (.getfield 57, 3) := by decide +kernel
theorem dX16_check_20 : decode cX16_check 20 = .ok (.invokevirtual 62, 3) := by decide +kernel
theorem dX16_check_23 : decode cX16_check 23 = .ok (.return_, 1) := by decide +kernel
theorem dX16_isWord_0 : decode cX16_isWord 0 = .ok (.aload_n 0, 1) := by decide +kernel
theorem dX16_isWord_1 : decode cX16_isWord 1 = .ok (.getfield 34, 3) := by decide +kernel
theorem dX16_isWord_4 : decode cX16_isWord 4 = .ok (.aload_n 1, 1) := by decide +kernel
theorem dX16_isWord_5 : decode cX16_isWord 5 = .ok (.invokevirtual 80, 3) := by decide +kernel
theorem dX16_isWord_8 : decode cX16_isWord 8 = .ok (.ireturn, 1) := by decide +kernel
theorem dX16_takesWord_0 : decode cX16_takesWord 0 = .ok (.aload_n 0, 1) := by decide +kernel
theorem dX16_takesWord_1 : decode cX16_takesWord 1 = .ok (.aload_n 1, 1) := by decide +kernel
theorem dX16_takesWord_2 : decode cX16_takesWord 2 = .ok (.invokevirtual 86, 3) := by decide +kernel
theorem dX16_takesWord_5 : decode cX16_takesWord 5 = .ok (.istore_n 2, 1) := by decide +kernel
theorem dX16_takesWord_6 : decode cX16_takesWord 6 = .ok (.iload_n 2, 1) := by decide +kernel
theorem dX16_takesWord_7 : decode cX16_takesWord 7 = .ok (.ifCond .eq 7, 3) := by decide +kernel
theorem dX16_takesWord_10 : decode cX16_takesWord 10 = .ok (.aload_n 0, 1) := by decide +kernel
theorem dX16_takesWord_11 : decode cX16_takesWord 11 = .ok (.invokevirtual 85, 3) := by decide +kernel
theorem dX16_takesWord_14 : decode cX16_takesWord 14 = .ok (.iload_n 2, 1) := by decide +kernel
theorem dX16_takesWord_15 : decode cX16_takesWord 15 = .ok (.ireturn, 1) := by decide +kernel
theorem dX16_statement_0 : decode cX16_statement 0 = .ok (.aload_n 0, 1) := by decide +kernel
theorem dX16_statement_1 : decode cX16_statement 1 = .ok (.ldc_w 302, 3) := by decide +kernel
theorem dX16_statement_4 : decode cX16_statement 4 = .ok (.invokevirtual 86, 3) := by decide +kernel
theorem dX16_statement_7 : decode cX16_statement 7 = .ok (.ifCond .eq 19, 3) := by decide +kernel
theorem dX16_statement_10 : decode cX16_statement 10 = .ok (.aload_n 0, 1) := by decide +kernel
theorem dX16_statement_11 : decode cX16_statement 11 = .ok (.iconst 1, 1) := by decide +kernel
theorem dX16_statement_12 : decode cX16_statement 12 = .ok (.putfield 653, 3) := by decide +kernel
theorem dX16_statement_15 : decode cX16_statement 15 = .ok (.aload_n 0, 1) := by decide +kernel
theorem dX16_statement_16 : decode cX16_statement 16 = .ok (.aload_n 0, 1) := by decide +kernel
theorem dX16_statement_17 : decode cX16_statement 17 = .ok (.invokevirtual 304, 3) := by decide +kernel
theorem dX16_statement_20 : decode cX16_statement 20 = .ok (.putfield 650, 3) := by decide +kernel
theorem dX16_statement_23 : decode cX16_statement 23 = .ok (.goto 229, 3) := by decide +kernel
theorem dX16_statement_26 : decode cX16_statement 26 = .ok (.aload_n 0, 1) := by decide +kernel
theorem dX16_statement_27 : decode cX16_statement 27 = .ok (.ldc_w 655, 3) := by decide +kernel
theorem dX16_statement_30 : decode cX16_statement 30 = .ok (.invokevirtual 354, 3) := by decide +kernel
theorem dX16_statement_33 : decode cX16_statement 33 = .ok (.ifCond .eq 19, 3) := by decide +kernel
theorem dX16_statement_36 : decode cX16_statement 36 = .ok (.aload_n 0, 1) := by decide +kernel
theorem dX16_statement_37 : decode cX16_statement 37 = .ok (.iconst 2, 1) := by decide +kernel
theorem dX16_statement_38 : decode cX16_statement 38 = .ok (.putfield 653, 3) := by decide +kernel
theorem dX16_statement_41 : decode cX16_statement 41 = .ok (.aload_n 0, 1) := by decide +kernel
theorem dX16_statement_42 : decode cX16_statement 42 = .ok (.aload_n 0, 1) := by decide +kernel
theorem dX16_statement_43 : decode cX16_statement 43 = .ok (.invokestatic 369, 3) := by decide +kernel
theorem dX16_statement_46 : decode cX16_statement 46 = .ok (.putfield 650, 3) := by decide +kernel
theorem dX16_statement_49 : decode cX16_statement 49 = .ok (.goto 203, 3) := by decide +kernel
theorem dX16_statement_52 : decode cX16_statement 52 = .ok (.aload_n 0, 1) := by decide +kernel
theorem dX16_statement_53 : decode cX16_statement 53 = .ok (.ldc_w 657, 3) := by decide +kernel
theorem dX16_statement_56 : decode cX16_statement 56 = .ok (.invokevirtual 354, 3) := by decide +kernel
theorem dX16_statement_59 : decode cX16_statement 59 = .ok (.ifCond .eq 20, 3) := by decide +kernel
theorem dX16_statement_62 : decode cX16_statement 62 = .ok (.aload_n 0, 1) := by decide +kernel
theorem dX16_statement_63 : decode cX16_statement 63 = .ok (.iconst 3, 1) := by decide +kernel
theorem dX16_statement_64 : decode cX16_statement 64 = .ok (.putfield 653, 3) := by decide +kernel
theorem dX16_statement_67 : decode cX16_statement 67 = .ok (.aload_n 0, 1) := by decide +kernel
theorem dX16_statement_68 : decode cX16_statement 68 = .ok (.iconst 0, 1) := by decide +kernel
theorem dX16_statement_69 : decode cX16_statement 69 = .ok (.invokevirtual 659, 3) := by decide +kernel
theorem dX16_statement_72 : decode cX16_statement 72 = .ok (.aload_n 0, 1) := by decide +kernel
theorem dX16_statement_73 : decode cX16_statement 73 = .ok (.invokevirtual 662, 3) := by decide +kernel
theorem dX16_statement_76 : decode cX16_statement 76 = .ok (.goto 176, 3) := by decide +kernel
theorem dX16_statement_79 : decode cX16_statement 79 = .ok (.aload_n 0, 1) := by decide +kernel
theorem dX16_statement_80 : decode cX16_statement 80 = .ok (.ldc_w 664, 3) := by decide +kernel
theorem dX16_statement_83 : decode cX16_statement 83 = .ok (.invokevirtual 354, 3) := by decide +kernel
theorem dX16_statement_86 : decode cX16_statement 86 = .ok (.ifCond .eq 32, 3) := by decide +kernel
theorem dX16_statement_89 : decode cX16_statement 89 = .ok (.aload_n 0, 1) := by decide +kernel
theorem dX16_statement_90 : decode cX16_statement 90 = .ok (.iconst 4, 1) := by decide +kernel
theorem dX16_statement_91 : decode cX16_statement 91 = .ok (.putfield 653, 3) := by decide +kernel
theorem dX16_statement_94 : decode cX16_statement 94 = .ok (.aload_n 0, 1) := by decide +kernel
theorem dX16_statement_95 : decode cX16_statement 95 = .ok (.ldc_w 666, 3) := by decide +kernel
theorem dX16_statement_98 : decode cX16_statement 98 = .ok (.invokevirtual 354, 3) := by decide +kernel
theorem dX16_statement_101 : decode cX16_statement 101 = .ok (.istore_n 1, 1) := by decide +kernel
theorem dX16_statement_102 : decode cX16_statement 102 = .ok (.aload_n 0, 1) := by decide +kernel
theorem dX16_statement_103 : decode cX16_statement 103 = .ok (.iload_n 1, 1) := by decide +kernel
theorem dX16_statement_104 : decode cX16_statement 104 = .ok (.invokevirtual 659, 3) := by decide +kernel
theorem dX16_statement_107 : decode cX16_statement 107 = .ok (.iload_n 1, 1) := by decide +kernel
theorem dX16_statement_108 : decode cX16_statement 108 = .ok (.ifCond .ne 7, 3) := by decide +kernel
theorem dX16_statement_111 : decode cX16_statement 111 = .ok (.aload_n 0, 1) := by decide +kernel
theorem dX16_statement_112 : decode cX16_statement 112 = .ok (.invokevirtual 662, 3) := by decide +kernel
theorem dX16_statement_115 : decode cX16_statement 115 = .ok (.goto 137, 3) := by decide +kernel
theorem dX16_statement_118 : decode cX16_statement 118 = .ok (.aload_n 0, 1) := by decide +kernel
theorem dX16_statement_119 : decode cX16_statement 119 = .ok (.ldc_w 668, 3) := by decide +kernel
theorem dX16_statement_122 : decode cX16_statement 122 = .ok (.invokevirtual 354, 3) := by decide +kernel
theorem dX16_statement_125 : decode cX16_statement 125 = .ok (.ifCond .eq 59, 3) := by decide +kernel
theorem dX16_statement_128 : decode cX16_statement 128 = .ok (.aload_n 0, 1) := by decide +kernel
theorem dX16_statement_129 : decode cX16_statement 129 = .ok (.iconst 4, 1) := by decide +kernel
theorem dX16_statement_130 : decode cX16_statement 130 = .ok (.putfield 653, 3) := by decide +kernel
theorem dX16_statement_133 : decode cX16_statement 133 = .ok (.aload_n 0, 1) := by decide +kernel
theorem dX16_statement_134 : decode cX16_statement 134 = .ok (.ldc_w 666, 3) := by decide +kernel
theorem dX16_statement_137 : decode cX16_statement 137 = .ok (.invokevirtual 354, 3) := by decide +kernel
theorem dX16_statement_140 : decode cX16_statement 140 = .ok (.istore_n 1, 1) := by decide +kernel
theorem dX16_statement_141 : decode cX16_statement 141 = .ok (.aload_n 0, 1) := by decide +kernel
theorem dX16_statement_142 : decode cX16_statement 142 = .ok (.iload_n 1, 1) := by decide +kernel
theorem dX16_statement_143 : decode cX16_statement 143 = .ok (.invokevirtual 659, 3) := by decide +kernel
theorem dX16_statement_146 : decode cX16_statement 146 = .ok (.aload_n 0, 1) := by decide +kernel
theorem dX16_statement_147 : decode cX16_statement 147 = .ok (.aload_n 0, 1) := by decide +kernel
theorem dX16_statement_148 : decode cX16_statement 148 = .ok (.getfield 190, 3) := by decide +kernel
theorem dX16_statement_151 : decode cX16_statement 151 = .ok (.putfield 670, 3) := by decide +kernel
theorem dX16_statement_154 : decode cX16_statement 154 = .ok (.iload_n 1, 1) := by decide +kernel
theorem dX16_statement_155 : decode cX16_statement 155 = .ok (.ifCond .ne 18, 3) := by decide +kernel
theorem dX16_statement_158 : decode cX16_statement 158 = .ok (.aload_n 0, 1) := by decide +kernel
theorem dX16_statement_159 : decode cX16_statement 159 = .ok (.ldc_w 664, 3) := by decide +kernel
theorem dX16_statement_162 : decode cX16_statement 162 = .ok (.invokevirtual 354, 3) := by decide +kernel
theorem dX16_statement_165 : decode cX16_statement 165 = .ok (.ifCond .eq 8, 3) := by decide +kernel
theorem dX16_statement_168 : decode cX16_statement 168 = .ok (.aload_n 0, 1) := by decide +kernel
theorem dX16_statement_169 : decode cX16_statement 169 = .ok (.iconst 0, 1) := by decide +kernel
theorem dX16_statement_170 : decode cX16_statement 170 = .ok (.invokevirtual 659, 3) := by decide +kernel
theorem dX16_statement_173 : decode cX16_statement 173 = .ok (.iload_n 1, 1) := by decide +kernel
theorem dX16_statement_174 : decode cX16_statement 174 = .ok (.ifCond .ne 7, 3) := by decide +kernel
theorem dX16_statement_177 : decode cX16_statement 177 = .ok (.aload_n 0, 1) := by decide +kernel
theorem dX16_statement_178 : decode cX16_statement 178 = .ok (.invokevirtual 662, 3) := by decide +kernel
theorem dX16_statement_181 : decode cX16_statement 181 = .ok (.goto 71, 3) := by decide +kernel
theorem dX16_statement_184 : decode cX16_statement 184 = .ok (.aload_n 0, 1) := by decide +kernel
theorem dX16_statement_185 : decode cX16_statement 185 = .ok (.ldc_w 673, 3) := by decide +kernel
theorem dX16_statement_188 : decode cX16_statement 188 = .ok (.invokevirtual 354, 3) := by decide +kernel
theorem dX16_statement_191 : decode cX16_statement 191 = .ok (.ifCond .eq 15, 3) := by decide +kernel
theorem dX16_statement_194 : decode cX16_statement 194 = .ok (.aload_n 0, 1) := by decide +kernel
theorem dX16_statement_195 : decode cX16_statement 195 = .ok (.iconst 5, 1) := by decide +kernel
theorem dX16_statement_196 : decode cX16_statement 196 = .ok (.putfield 653, 3) := by decide +kernel
theorem dX16_statement_199 : decode cX16_statement 199 = .ok (.aload_n 0, 1) := by decide +kernel
theorem dX16_statement_200 : decode cX16_statement 200 = .ok (.invokevirtual 675, 3) := by decide +kernel
theorem dX16_statement_203 : decode cX16_statement 203 = .ok (.goto 49, 3) := by decide +kernel
theorem dX16_statement_206 : decode cX16_statement 206 = .ok (.aload_n 0, 1) := by decide +kernel
theorem dX16_statement_207 : decode cX16_statement 207 = .ok (.ldc_w 678, 3) := by decide +kernel
theorem dX16_statement_210 : decode cX16_statement 210 = .ok (.invokevirtual 354, 3) := by decide +kernel
theorem dX16_statement_213 : decode cX16_statement 213 = .ok (.ifCond .eq 17, 3) := by decide +kernel
theorem dX16_statement_216 : decode cX16_statement 216 = .ok (.aload_n 0, 1) := by decide +kernel
theorem dX16_statement_217 : decode cX16_statement 217 = .ok (.bipush 6, 2) := by decide +kernel
theorem dX16_statement_219 : decode cX16_statement 219 = .ok (.putfield 653, 3) := by decide +kernel
theorem dX16_statement_222 : decode cX16_statement 222 = .ok (.aload_n 0, 1) := by decide +kernel
theorem dX16_statement_223 : decode cX16_statement 223 = .ok (.invokevirtual 612, 3) := by decide +kernel
theorem dX16_statement_226 : decode cX16_statement 226 = .ok (.pop, 1) := by decide +kernel
theorem dX16_statement_227 : decode cX16_statement 227 = .ok (.goto 25, 3) := by decide +kernel
theorem dX16_statement_230 : decode cX16_statement 230 = .ok (.aload_n 0, 1) := by decide +kernel
theorem dX16_statement_231 : decode cX16_statement 231 = .ok (.aload_n 0, 1) := by decide +kernel
theorem dX16_statement_232 : decode cX16_statement 232 = .ok (.ldc_w 680, 3) := by decide +kernel
theorem dX16_statement_235 : decode cX16_statement 235 = .ok (.invokevirtual 86, 3) := by decide +kernel
theorem dX16_statement_238 : decode cX16_statement 238 = .ok (.iconst 2, 1) := by decide +kernel
theorem dX16_statement_239 : decode cX16_statement 239 = .ok (.invokevirtual 89, 3) := by decide +kernel
theorem dX16_statement_242 : decode cX16_statement 242 = .ok (.aload_n 0, 1) := by decide +kernel
theorem dX16_statement_243 : decode cX16_statement 243 = .ok (.bipush 7, 2) := by decide +kernel
theorem dX16_statement_245 : decode cX16_statement 245 = .ok (.putfield 653, 3) := by decide +kernel
theorem dX16_statement_248 : decode cX16_statement 248 = .ok (.aload_n 0, 1) := by decide +kernel
theorem dX16_statement_249 : decode cX16_statement 249 = .ok (.invokevirtual 85, 3) := by decide +kernel
theorem dX16_statement_252 : decode cX16_statement 252 = .ok (.return_, 1) := by decide +kernel
theorem dX16_read_0 : decode cX16_read 0 = .ok (.aload_n 0, 1) := by decide +kernel
theorem dX16_read_1 : decode cX16_read 1 = .ok (.getfield 42, 3) := by decide +kernel
theorem dX16_read_4 : decode cX16_read 4 = .ok (.invokevirtual 682, 3) := by decide +kernel
theorem dX16_read_7 : decode cX16_read 7 = .ok (.aload_n 0, 1) := by decide +kernel
theorem dX16_read_8 : decode cX16_read 8 = .ok (.getfield 46, 3) := by decide +kernel
theorem dX16_read_11 : decode cX16_read 11 = .ok (.invokevirtual 685, 3) := by decide +kernel
theorem dX16_read_14 : decode cX16_read 14 = .ok (.aload_n 0, 1) := by decide +kernel
theorem dX16_read_15 : decode cX16_read 15 = .ok (.iconst (-1), 1) := by decide +kernel
theorem dX16_read_16 : decode cX16_read 16 = .ok (.putfield 650, 3) := by decide +kernel
theorem dX16_read_19 : decode cX16_read 19 = .ok (.aload_n 0, 1) := by decide +kernel
theorem dX16_read_20 : decode cX16_read 20 = .ok (.iconst 0, 1) := by decide +kernel
theorem dX16_read_21 : decode cX16_read 21 = .ok (.putfield 670, 3) := by decide +kernel
theorem dX16_read_24 : decode cX16_read 24 = .ok (.aload_n 0, 1) := by decide +kernel
theorem dX16_read_25 : decode cX16_read 25 = .ok (.iconst 0, 1) := by decide +kernel
theorem dX16_read_26 : decode cX16_read 26 = .ok (.putfield 190, 3) := by decide +kernel
theorem dX16_read_29 : decode cX16_read 29 = .ok (.aload_n 0, 1) := by decide +kernel
theorem dX16_read_30 : decode cX16_read 30 = .ok (.iconst 0, 1) := by decide +kernel
theorem dX16_read_31 : decode cX16_read 31 = .ok (.putfield 196, 3) := by decide +kernel
theorem dX16_read_34 : decode cX16_read 34 = .ok (.aload_n 0, 1) := by decide +kernel
theorem dX16_read_35 : decode cX16_read 35 = .ok (.getfield 28, 3) := by decide +kernel
theorem dX16_read_38 : decode cX16_read 38 = .ok (.iconst 0, 1) := by decide +kernel
theorem dX16_read_39 : decode cX16_read 39 = .ok (.iconst 0, 1) := by decide +kernel
theorem dX16_read_40 : decode cX16_read 40 = .ok (.iastore, 1) := by decide +kernel
theorem dX16_read_41 : decode cX16_read 41 = .ok (.aload_n 0, 1) := by decide +kernel
theorem dX16_read_42 : decode cX16_read 42 = .ok (.iconst 0, 1) := by decide +kernel
theorem dX16_read_43 : decode cX16_read 43 = .ok (.putfield 287, 3) := by decide +kernel
theorem dX16_read_46 : decode cX16_read 46 = .ok (.aload_n 0, 1) := by decide +kernel
theorem dX16_read_47 : decode cX16_read 47 = .ok (.iconst 0, 1) := by decide +kernel
theorem dX16_read_48 : decode cX16_read 48 = .ok (.putfield 290, 3) := by decide +kernel
theorem dX16_read_51 : decode cX16_read 51 = .ok (.aload_n 0, 1) := by decide +kernel
theorem dX16_read_52 : decode cX16_read 52 = .ok (.iconst 0, 1) := by decide +kernel
theorem dX16_read_53 : decode cX16_read 53 = .ok (.putfield 293, 3) := by decide +kernel
theorem dX16_read_56 : decode cX16_read 56 = .ok (.aload_n 0, 1) := by decide +kernel
theorem dX16_read_57 : decode cX16_read 57 = .ok (.iconst (-1), 1) := by decide +kernel
theorem dX16_read_58 : decode cX16_read 58 = .ok (.putfield 296, 3) := by decide +kernel
theorem dX16_read_61 : decode cX16_read 61 = .ok (.aload_n 0, 1) := by decide +kernel
theorem dX16_read_62 : decode cX16_read 62 = .ok (.iconst 0, 1) := by decide +kernel
theorem dX16_read_63 : decode cX16_read 63 = .ok (.putfield 299, 3) := by decide +kernel
theorem dX16_read_66 : decode cX16_read 66 = .ok (.aload_n 0, 1) := by decide +kernel
theorem dX16_read_67 : decode cX16_read 67 = .ok (.iconst 0, 1) := by decide +kernel
theorem dX16_read_68 : decode cX16_read 68 = .ok (.putfield 536, 3) := by decide +kernel
theorem dX16_read_71 : decode cX16_read 71 = .ok (.aload_n 0, 1) := by decide +kernel
theorem dX16_read_72 : decode cX16_read 72 = .ok (.iconst 0, 1) := by decide +kernel
theorem dX16_read_73 : decode cX16_read 73 = .ok (.putfield 517, 3) := by decide +kernel
theorem dX16_read_76 : decode cX16_read 76 = .ok (.aload_n 0, 1) := by decide +kernel
theorem dX16_read_77 : decode cX16_read 77 = .ok (.iconst 0, 1) := by decide +kernel
theorem dX16_read_78 : decode cX16_read 78 = .ok (.putfield 567, 3) := by decide +kernel
theorem dX16_read_81 : decode cX16_read 81 = .ok (.aload_n 0, 1) := by decide +kernel
theorem dX16_read_82 : decode cX16_read 82 = .ok (.iconst 0, 1) := by decide +kernel
theorem dX16_read_83 : decode cX16_read 83 = .ok (.putfield 446, 3) := by decide +kernel
theorem dX16_read_86 : decode cX16_read 86 = .ok (.aload_n 0, 1) := by decide +kernel
theorem dX16_read_87 : decode cX16_read 87 = .ok (.iconst 0, 1) := by decide +kernel
theorem dX16_read_88 : decode cX16_read 88 = .ok (.putfield 443, 3) := by decide +kernel
theorem dX16_read_91 : decode cX16_read 91 = .ok (.aload_n 0, 1) := by decide +kernel
theorem dX16_read_92 : decode cX16_read 92 = .ok (.iconst 0, 1) := by decide +kernel
theorem dX16_read_93 : decode cX16_read 93 = .ok (.putfield 168, 3) := by decide +kernel
theorem dX16_read_96 : decode cX16_read 96 = .ok (.aload_n 0, 1) := by decide +kernel
theorem dX16_read_97 : decode cX16_read 97 = .ok (.getfield 34, 3) := by decide +kernel
theorem dX16_read_100 : decode cX16_read 100 = .ok (.invokevirtual 686, 3) := by decide +kernel
theorem dX16_read_103 : decode cX16_read 103 = .ok (.aload_n 0, 1) := by decide +kernel
theorem dX16_read_104 : decode cX16_read 104 = .ok (.invokevirtual 73, 3) := by decide +kernel
theorem dX16_read_107 : decode cX16_read 107 = .ok (.aload_n 0, 1) := by decide +kernel
theorem dX16_read_108 : decode cX16_read 108 = .ok (.invokevirtual 688, 3) := by decide +kernel
theorem dX16_read_111 : decode cX16_read 111 = .ok (.aload_n 0, 1) := by decide +kernel
theorem dX16_read_112 : decode cX16_read 112 = .ok (.aload_n 0, 1) := by decide +kernel
theorem dX16_read_113 : decode cX16_read 113 = .ok (.getfield 34, 3) := by decide +kernel
theorem dX16_read_116 : decode cX16_read 116 = .ok (.invokevirtual 66, 3) := by decide +kernel
theorem dX16_read_119 : decode cX16_read 119 = .ok (.ifCond .ne 7, 3) := by decide +kernel
theorem dX16_read_122 : decode cX16_read 122 = .ok (.iconst 1, 1) := by decide +kernel
theorem dX16_read_123 : decode cX16_read 123 = .ok (.goto 4, 3) := by decide +kernel
theorem dX16_read_126 : decode cX16_read 126 = .ok (.iconst 0, 1) := by decide +kernel
theorem dX16_read_127 : decode cX16_read 127 = .ok (.iconst 2, 1) := by decide +kernel
theorem dX16_read_128 : decode cX16_read 128 = .ok (.invokevirtual 89, 3) := by decide +kernel
theorem dX16_read_131 : decode cX16_read 131 = .ok (.goto 9, 3) := by decide +kernel
theorem dX16_read_134 : decode cX16_read 134 = .ok (.astore_n 1, 1) := by decide +kernel
theorem dX16_read_135 : decode cX16_read 135 = .ok (.aload_n 0, 1) := by decide +kernel
theorem dX16_read_136 : decode cX16_read 136 = .ok (.getfield 50, 3) := by decide +kernel
theorem dX16_read_139 : decode cX16_read 139 = .ok (.ireturn, 1) := by decide +kernel
theorem dX16_read_140 : decode cX16_read 140 = .ok (.aload_n 0, 1) := by decide +kernel
theorem dX16_read_141 : decode cX16_read 141 = .ok (.aload_n 0, 1) := by decide +kernel
theorem dX16_read_142 : decode cX16_read 142 = .ok (.getfield 34, 3) := by decide +kernel
theorem dX16_read_145 : decode cX16_read 145 = .ok (.getfield 691, 3) := by decide +kernel
theorem dX16_read_148 : decode cX16_read 148 = .ok (.putfield 54, 3) := by decide +kernel
theorem dX16_read_151 : decode cX16_read 151 = .ok (.iconst 0, 1) := by decide +kernel
theorem dX16_read_152 : decode cX16_read 152 = .ok (.ireturn, 1) := by decide +kernel
theorem dX18_clear_0 : decode cX18_clear 0 = .ok (.aload_n 0, 1) := by decide +kernel
theorem dX18_clear_1 : decode cX18_clear 1 = .ok (.iconst 0, 1) := by decide +kernel
theorem dX18_clear_2 : decode cX18_clear 2 = .ok (.putfield 76, 3) := by decide +kernel
theorem dX18_clear_5 : decode cX18_clear 5 = .ok (.aload_n 0, 1) := by decide +kernel
theorem dX18_clear_6 : decode cX18_clear 6 = .ok (.iconst 0, 1) := by decide +kernel
theorem dX18_clear_7 : decode cX18_clear 7 = .ok (.putfield 84, 3) := by decide +kernel
theorem dX18_clear_10 : decode cX18_clear 10 = .ok (.aload_n 0, 1) := by decide +kernel
theorem dX18_clear_11 : decode cX18_clear 11 = .ok (.iconst 0, 1) := by decide +kernel
theorem dX18_clear_12 : decode cX18_clear 12 = .ok (.putfield 91, 3) := by decide +kernel
theorem dX18_clear_15 : decode cX18_clear 15 = .ok (.aload_n 0, 1) := by decide +kernel
theorem dX18_clear_16 : decode cX18_clear 16 = .ok (.iconst 0, 1) := by decide +kernel
theorem dX18_clear_17 : decode cX18_clear 17 = .ok (.putfield 94, 3) := by decide +kernel
theorem dX18_clear_20 : decode cX18_clear 20 = .ok (.aload_n 0, 1) := by decide +kernel
theorem dX18_clear_21 : decode cX18_clear 21 = .ok (.iconst 0, 1) := by decide +kernel
theorem dX18_clear_22 : decode cX18_clear 22 = .ok (.putfield 100, 3) := by decide +kernel
theorem dX18_clear_25 : decode cX18_clear 25 = .ok (.return_, 1) := by decide +kernel
theorem dX19_clear_0 : decode cX19_clear 0 = .ok (.aload_n 0, 1) := by decide +kernel
theorem dX19_clear_1 : decode cX19_clear 1 = .ok (.iconst 0, 1) := by decide +kernel
theorem dX19_clear_2 : decode cX19_clear 2 = .ok (.putfield 146, 3) := by decide +kernel
theorem dX19_clear_5 : decode cX19_clear 5 = .ok (.aload_n 0, 1) := by decide +kernel
theorem dX19_clear_6 : decode cX19_clear 6 = .ok (.iconst 0, 1) := by decide +kernel
theorem dX19_clear_7 : decode cX19_clear 7 = .ok (.putfield 150, 3) := by decide +kernel
theorem dX19_clear_10 : decode cX19_clear 10 = .ok (.aload_n 0, 1) := by decide +kernel
theorem dX19_clear_11 : decode cX19_clear 11 = .ok (.iconst 0, 1) := by decide +kernel
theorem dX19_clear_12 : decode cX19_clear 12 = .ok (.putfield 153, 3) := by decide +kernel
theorem dX19_clear_15 : decode cX19_clear 15 = .ok (.aload_n 0, 1) := by decide +kernel
theorem dX19_clear_16 : decode cX19_clear 16 = .ok (.iconst 0, 1) := by decide +kernel
theorem dX19_clear_17 : decode cX19_clear 17 = .ok (.putfield 156, 3) := by decide +kernel
theorem dX19_clear_20 : decode cX19_clear 20 = .ok (.aload_n 0, 1) := by decide +kernel
theorem dX19_clear_21 : decode cX19_clear 21 = .ok (.iconst 0, 1) := by decide +kernel
theorem dX19_clear_22 : decode cX19_clear 22 = .ok (.putfield 159, 3) := by decide +kernel
theorem dX19_clear_25 : decode cX19_clear 25 = .ok (.aload_n 0, 1) := by decide +kernel
theorem dX19_clear_26 : decode cX19_clear 26 = .ok (.iconst 0, 1) := by decide +kernel
theorem dX19_clear_27 : decode cX19_clear 27 = .ok (.putfield 162, 3) := by decide +kernel
theorem dX19_clear_30 : decode cX19_clear 30 = .ok (.aload_n 0, 1) := by decide +kernel
theorem dX19_clear_31 : decode cX19_clear 31 = .ok (.iconst 0, 1) := by decide +kernel
theorem dX19_clear_32 : decode cX19_clear 32 = .ok (.putfield 165, 3) := by decide +kernel
theorem dX19_clear_35 : decode cX19_clear 35 = .ok (.aload_n 0, 1) := by decide +kernel
theorem dX19_clear_36 : decode cX19_clear 36 = .ok (.iconst 0, 1) := by decide +kernel
theorem dX19_clear_37 : decode cX19_clear 37 = .ok (.putfield 168, 3) := by decide +kernel
theorem dX19_clear_40 : decode cX19_clear 40 = .ok (.aload_n 0, 1) := by decide +kernel
theorem dX19_clear_41 : decode cX19_clear 41 = .ok (.iconst 0, 1) := by decide +kernel
theorem dX19_clear_42 : decode cX19_clear 42 = .ok (.putfield 171, 3) := by decide +kernel
theorem dX19_clear_45 : decode cX19_clear 45 = .ok (.aload_n 0, 1) := by decide +kernel
theorem dX19_clear_46 : decode cX19_clear 46 = .ok (.iconst 0, 1) := by decide +kernel
theorem dX19_clear_47 : decode cX19_clear 47 = .ok (.putfield 174, 3) := by decide +kernel
theorem dX19_clear_50 : decode cX19_clear 50 = .ok (.aload_n 0, 1) := by decide +kernel
theorem dX19_clear_51 : decode cX19_clear 51 = .ok (.iconst 0, 1) := by decide +kernel
theorem dX19_clear_52 : decode cX19_clear 52 = .ok (.putfield 177, 3) := by decide +kernel
theorem dX19_clear_55 : decode cX19_clear 55 = .ok (.return_, 1) := by decide +kernel
theorem dX20_run_0 : decode cX20_run 0 = .ok (.aload_n 0, 1) := by decide +kernel
theorem dX20_run_1 : decode cX20_run 1 = .ok (.iconst 0, 1) := by decide +kernel
theorem dX20_run_2 : decode cX20_run 2 = .ok (.putfield 122, 3) := by decide +kernel
theorem dX20_run_5 : decode cX20_run 5 = .ok (.aload_n 0, 1) := by decide +kernel
theorem dX20_run_6 : decode cX20_run 6 = .ok (.iconst 0, 1) := by decide +kernel
theorem dX20_run_7 : decode cX20_run 7 = .ok (.putfield 125, 3) := by decide +kernel
theorem dX20_run_10 : decode cX20_run 10 = .ok (.aload_n 0, 1) := by decide +kernel
theorem dX20_run_11 : decode cX20_run 11 = .ok (.iconst 0, 1) := by decide +kernel
theorem dX20_run_12 : decode cX20_run 12 = .ok (.putfield 128, 3) := by decide +kernel
theorem dX20_run_15 : decode cX20_run 15 = .ok (.aload_n 0, 1) := by decide +kernel
theorem dX20_run_16 : decode cX20_run 16 = .ok (.iconst 0, 1) := by decide +kernel
theorem dX20_run_17 : decode cX20_run 17 = .ok (.putfield 131, 3) := by decide +kernel
theorem dX20_run_20 : decode cX20_run 20 = .ok (.aload_n 0, 1) := by decide +kernel
theorem dX20_run_21 : decode cX20_run 21 = .ok (.getfield 10, 3) := by decide +kernel
theorem dX20_run_24 : decode cX20_run 24 = .ok (.invokevirtual 134, 3) := by decide +kernel
theorem dX20_run_27 : decode cX20_run 27 = .ok (.aload_n 0, 1) := by decide +kernel
theorem dX20_run_28 : decode cX20_run 28 = .ok (.getfield 60, 3) := by decide +kernel
theorem dX20_run_31 : decode cX20_run 31 = .ok (.invokevirtual 137, 3) := by decide +kernel
theorem dX20_run_34 : decode cX20_run 34 = .ok (.istore_n 1, 1) := by decide +kernel
theorem dX20_run_35 : decode cX20_run 35 = .ok (.aload_n 0, 1) := by decide +kernel
theorem dX20_run_36 : decode cX20_run 36 = .ok (.aload_n 0, 1) := by decide +kernel
theorem dX20_run_37 : decode cX20_run 37 = .ok (.getfield 60, 3) := by decide +kernel
theorem dX20_run_40 : decode cX20_run 40 = .ok (.getfield 141, 3) := by decide +kernel
theorem dX20_run_43 : decode cX20_run 43 = .ok (.putfield 119, 3) := by decide +kernel
theorem dX20_run_46 : decode cX20_run 46 = .ok (.iload_n 1, 1) := by decide +kernel
theorem dX20_run_47 : decode cX20_run 47 = .ok (.ifCond .eq 10, 3) := by decide +kernel
theorem dX20_run_50 : decode cX20_run 50 = .ok (.bipush (-100), 2) := by decide +kernel
theorem dX20_run_52 : decode cX20_run 52 = .ok (.iload_n 1, 1) := by decide +kernel
theorem dX20_run_53 : decode cX20_run 53 = .ok (.isub, 1) := by decide +kernel
theorem dX20_run_54 : decode cX20_run 54 = .ok (.goto 7, 3) := by decide +kernel
theorem dX20_run_57 : decode cX20_run 57 = .ok (.aload_n 0, 1) := by decide +kernel
theorem dX20_run_58 : decode cX20_run 58 = .ok (.invokevirtual 144, 3) := by decide +kernel
theorem dX20_run_61 : decode cX20_run 61 = .ok (.istore_n 2, 1) := by decide +kernel
theorem dX20_run_62 : decode cX20_run 62 = .ok (.aload_n 0, 1) := by decide +kernel
theorem dX20_run_63 : decode cX20_run 63 = .ok (.getfield 28, 3) := by decide +kernel
theorem dX20_run_66 : decode cX20_run 66 = .ok (.iconst 0, 1) := by decide +kernel
theorem dX20_run_67 : decode cX20_run 67 = .ok (.putfield 112, 3) := by decide +kernel
theorem dX20_run_70 : decode cX20_run 70 = .ok (.iload_n 2, 1) := by decide +kernel
theorem dX20_run_71 : decode cX20_run 71 = .ok (.ireturn, 1) := by decide +kernel
