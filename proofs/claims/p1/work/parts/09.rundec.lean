theorem dX4_statement_0 : decode cX4_statement 0 = .ok (.aload_n 0, 1) := by decide +kernel
theorem dX4_statement_1 : decode cX4_statement 1 = .ok (.iconst 0, 1) := by decide +kernel
theorem dX4_statement_2 : decode cX4_statement 2 = .ok (.putfield 25, 3) := by decide +kernel
theorem dX4_statement_5 : decode cX4_statement 5 = .ok (.aload_n 0, 1) := by decide +kernel
theorem dX4_statement_6 : decode cX4_statement 6 = .ok (.iconst 0, 1) := by decide +kernel
theorem dX4_statement_7 : decode cX4_statement 7 = .ok (.putfield 29, 3) := by decide +kernel
theorem dX4_statement_10 : decode cX4_statement 10 = .ok (.aload_n 0, 1) := by decide +kernel
theorem dX4_statement_11 : decode cX4_statement 11 = .ok (.iconst 0, 1) := by decide +kernel
theorem dX4_statement_12 : decode cX4_statement 12 = .ok (.putfield 32, 3) := by decide +kernel
theorem dX4_statement_15 : decode cX4_statement 15 = .ok (.aload_n 0, 1) := by decide +kernel
theorem dX4_statement_16 : decode cX4_statement 16 = .ok (.iconst 0, 1) := by decide +kernel
theorem dX4_statement_17 : decode cX4_statement 17 = .ok (.putfield 35, 3) := by decide +kernel
theorem dX4_statement_20 : decode cX4_statement 20 = .ok (.aload_n 0, 1) := by decide +kernel
theorem dX4_statement_21 : decode cX4_statement 21 = .ok (.iconst 0, 1) := by decide +kernel
theorem dX4_statement_22 : decode cX4_statement 22 = .ok (.putfield 38, 3) := by decide +kernel
theorem dX4_statement_25 : decode cX4_statement 25 = .ok (.aload_n 0, 1) := by decide +kernel
theorem dX4_statement_26 : decode cX4_statement 26 = .ok (.iconst 0, 1) := by decide +kernel
theorem dX4_statement_27 : decode cX4_statement 27 = .ok (.putfield 41, 3) := by decide +kernel
theorem dX4_statement_30 : decode cX4_statement 30 = .ok (.aload_n 0, 1) := by decide +kernel
theorem dX4_statement_31 : decode cX4_statement 31 = .ok (.aconst_null, 1) := by decide +kernel
theorem dX4_statement_32 : decode cX4_statement 32 = .ok (.putfield 44, 3) := by decide +kernel
theorem dX4_statement_35 : decode cX4_statement 35 = .ok (.aload_n 0, 1) := by decide +kernel
theorem dX4_statement_36 : decode cX4_statement 36 = .ok (.aconst_null, 1) := by decide +kernel
theorem dX4_statement_37 : decode cX4_statement 37 = .ok (.putfield 48, 3) := by decide +kernel
theorem dX4_statement_40 : decode cX4_statement 40 = .ok (.aload_n 0, 1) := by decide +kernel
theorem dX4_statement_41 : decode cX4_statement 41 = .ok (.iconst 0, 1) := by decide +kernel
theorem dX4_statement_42 : decode cX4_statement 42 = .ok (.putfield 51, 3) := by decide +kernel
theorem dX4_statement_45 : decode cX4_statement 45 = .ok (.new 55, 3) := by decide +kernel
theorem dX4_statement_48 : decode cX4_statement 48 = .ok (.dup, 1) := by decide +kernel
theorem dX4_statement_49 : decode cX4_statement 49 = .ok (.aload_n 0, 1) := by decide +kernel
theorem dX4_statement_50 : decode cX4_statement 50 = .ok (.getfield 17, 3) := by decide +kernel
theorem dX4_statement_53 : decode cX4_statement 53 = .ok (.invokevirtual 57, 3) := by decide +kernel
theorem dX4_statement_56 : decode cX4_statement 56 = .ok (.aload_n 0, 1) := by decide +kernel
theorem dX4_statement_57 : decode cX4_statement 57 = .ok (.getfield 17, 3) := by decide +kernel
theorem dX4_statement_60 : decode cX4_statement 60 = .ok (.getfield 63, 3) := by decide +kernel
theorem dX4_statement_63 : decode cX4_statement 63 = .ok (.invokespecial 66, 3) := by decide +kernel
theorem dX4_statement_66 : decode cX4_statement 66 = .ok (.astore_n 1, 1) := by decide +kernel
theorem dX4_statement_67 : decode cX4_statement 67 = .ok (.aload_n 1, 1) := by decide +kernel
theorem dX4_statement_68 : decode cX4_statement 68 = .ok (.getfield 69, 3) := by decide +kernel
theorem dX4_statement_71 : decode cX4_statement 71 = .ok (.iconst 1, 1) := by decide +kernel
theorem dX4_statement_72 : decode cX4_statement 72 = .ok (.if_icmp .ne 12, 3) := by decide +kernel
theorem dX4_statement_75 : decode cX4_statement 75 = .ok (.aload_n 0, 1) := by decide +kernel
theorem dX4_statement_76 : decode cX4_statement 76 = .ok (.aload_n 1, 1) := by decide +kernel
theorem dX4_statement_77 : decode cX4_statement 77 = .ok (.iconst 0, 1) := by decide +kernel
theorem dX4_statement_78 : decode cX4_statement 78 = .ok (.invokevirtual 72, 3) := by decide +kernel
theorem dX4_statement_81 : decode cX4_statement 81 = .ok (.goto 141, 3) := by decide +kernel
theorem dX4_statement_84 : decode cX4_statement 84 = .ok (.aload_n 1, 1) := by decide +kernel
theorem dX4_statement_85 : decode cX4_statement 85 = .ok (.getfield 69, 3) := by decide +kernel
theorem dX4_statement_88 : decode cX4_statement 88 = .ok (.bipush 10, 2) := by decide +kernel
theorem dX4_statement_90 : decode cX4_statement 90 = .ok (.if_icmp .ne 21, 3) := by decide +kernel
theorem dX4_statement_93 : decode cX4_statement 93 = .ok (.aload_n 0, 1) := by decide +kernel
theorem dX4_statement_94 : decode cX4_statement 94 = .ok (.getfield 17, 3) := by decide +kernel
theorem dX4_statement_97 : decode cX4_statement 97 = .ok (.invokevirtual 76, 3) := by decide +kernel
theorem dX4_statement_100 : decode cX4_statement 100 = .ok (.aload_n 1, 1) := by decide +kernel
theorem dX4_statement_101 : decode cX4_statement 101 = .ok (.aload_n 0, 1) := by decide +kernel
theorem dX4_statement_102 : decode cX4_statement 102 = .ok (.invokevirtual 79, 3) := by decide +kernel
theorem dX4_statement_105 : decode cX4_statement 105 = .ok (.putfield 82, 3) := by decide +kernel
theorem dX4_statement_108 : decode cX4_statement 108 = .ok (.goto 114, 3) := by decide +kernel
theorem dX4_statement_111 : decode cX4_statement 111 = .ok (.aload_n 1, 1) := by decide +kernel
theorem dX4_statement_112 : decode cX4_statement 112 = .ok (.getfield 69, 3) := by decide +kernel
theorem dX4_statement_115 : decode cX4_statement 115 = .ok (.iconst 4, 1) := by decide +kernel
theorem dX4_statement_116 : decode cX4_statement 116 = .ok (.if_icmp .eq 29, 3) := by decide +kernel
theorem dX4_statement_119 : decode cX4_statement 119 = .ok (.aload_n 1, 1) := by decide +kernel
theorem dX4_statement_120 : decode cX4_statement 120 = .ok (.getfield 69, 3) := by decide +kernel
theorem dX4_statement_123 : decode cX4_statement 123 = .ok (.iconst 5, 1) := by decide +kernel
theorem dX4_statement_124 : decode cX4_statement 124 = .ok (.if_icmp .lt 90, 3) := by decide +kernel
theorem dX4_statement_127 : decode cX4_statement 127 = .ok (.aload_n 1, 1) := by decide +kernel
theorem dX4_statement_128 : decode cX4_statement 128 = .ok (.getfield 69, 3) := by decide +kernel
theorem dX4_statement_131 : decode cX4_statement 131 = .ok (.bipush 11, 2) := by decide +kernel
theorem dX4_statement_133 : decode cX4_statement 133 = .ok (.if_icmp .gt 81, 3) := by decide +kernel
theorem dX4_statement_136 : decode cX4_statement 136 = .ok (.aload_n 1, 1) := by decide +kernel
theorem dX4_statement_137 : decode cX4_statement 137 = .ok (.getfield 69, 3) := by decide +kernel
theorem dX4_statement_140 : decode cX4_statement 140 = .ok (.bipush 7, 2) := by decide +kernel
theorem dX4_statement_142 : decode cX4_statement 142 = .ok (.if_icmp .eq 72, 3) := by decide +kernel
theorem dX4_statement_145 : decode cX4_statement 145 = .ok (.aload_n 0, 1) := by decide +kernel
theorem dX4_statement_146 : decode cX4_statement 146 = .ok (.getfield 17, 3) := by decide +kernel
theorem dX4_statement_149 : decode cX4_statement 149 = .ok (.invokevirtual 76, 3) := by decide +kernel
theorem dX4_statement_152 : decode cX4_statement 152 = .ok (.aload_n 1, 1) := by decide +kernel
theorem dX4_statement_153 : decode cX4_statement 153 = .ok (.getfield 69, 3) := by decide +kernel
theorem dX4_statement_156 : decode cX4_statement 156 = .ok (.iconst 4, 1) := by decide +kernel
theorem dX4_statement_157 : decode cX4_statement 157 = .ok (.if_icmp .eq 11, 3) := by decide +kernel
theorem dX4_statement_160 : decode cX4_statement 160 = .ok (.aload_n 0, 1) := by decide +kernel
theorem dX4_statement_161 : decode cX4_statement 161 = .ok (.aload_n 1, 1) := by decide +kernel
theorem dX4_statement_162 : decode cX4_statement 162 = .ok (.invokevirtual 85, 3) := by decide +kernel
theorem dX4_statement_165 : decode cX4_statement 165 = .ok (.ifCond .eq 7, 3) := by decide +kernel
theorem dX4_statement_168 : decode cX4_statement 168 = .ok (.iconst 1, 1) := by decide +kernel
theorem dX4_statement_169 : decode cX4_statement 169 = .ok (.goto 4, 3) := by decide +kernel
theorem dX4_statement_172 : decode cX4_statement 172 = .ok (.iconst 0, 1) := by decide +kernel
theorem dX4_statement_173 : decode cX4_statement 173 = .ok (.istore_n 2, 1) := by decide +kernel
theorem dX4_statement_174 : decode cX4_statement 174 = .ok (.iload_n 2, 1) := by decide +kernel
theorem dX4_statement_175 : decode cX4_statement 175 = .ok (.ifCond .eq 19, 3) := by decide +kernel
theorem dX4_statement_178 : decode cX4_statement 178 = .ok (.aload_n 1, 1) := by decide +kernel
theorem dX4_statement_179 : decode cX4_statement 179 = .ok (.getfield 69, 3) := by decide +kernel
theorem dX4_statement_182 : decode cX4_statement 182 = .ok (.iconst 4, 1) := by decide +kernel
theorem dX4_statement_183 : decode cX4_statement 183 = .ok (.if_icmp .eq 11, 3) := by decide +kernel
theorem dX4_statement_186 : decode cX4_statement 186 = .ok (.aload_n 0, 1) := by decide +kernel
theorem dX4_statement_187 : decode cX4_statement 187 = .ok (.getfield 17, 3) := by decide +kernel
theorem dX4_statement_190 : decode cX4_statement 190 = .ok (.iconst 3, 1) := by decide +kernel
theorem dX4_statement_191 : decode cX4_statement 191 = .ok (.invokevirtual 89, 3) := by decide +kernel
theorem dX4_statement_194 : decode cX4_statement 194 = .ok (.aload_n 1, 1) := by decide +kernel
theorem dX4_statement_195 : decode cX4_statement 195 = .ok (.iload_n 2, 1) := by decide +kernel
theorem dX4_statement_196 : decode cX4_statement 196 = .ok (.ifCond .eq 11, 3) := by decide +kernel
theorem dX4_statement_199 : decode cX4_statement 199 = .ok (.aload_n 0, 1) := by decide +kernel
theorem dX4_statement_200 : decode cX4_statement 200 = .ok (.iconst 1, 1) := by decide +kernel
theorem dX4_statement_201 : decode cX4_statement 201 = .ok (.invokevirtual 93, 3) := by decide +kernel
theorem dX4_statement_204 : decode cX4_statement 204 = .ok (.goto 4, 3) := by decide +kernel
theorem dX4_statement_207 : decode cX4_statement 207 = .ok (.aconst_null, 1) := by decide +kernel
theorem dX4_statement_208 : decode cX4_statement 208 = .ok (.putfield 97, 3) := by decide +kernel
theorem dX4_statement_211 : decode cX4_statement 211 = .ok (.goto 11, 3) := by decide +kernel
theorem dX4_statement_214 : decode cX4_statement 214 = .ok (.aload_n 0, 1) := by decide +kernel
theorem dX4_statement_215 : decode cX4_statement 215 = .ok (.getfield 17, 3) := by decide +kernel
theorem dX4_statement_218 : decode cX4_statement 218 = .ok (.iconst 2, 1) := by decide +kernel
theorem dX4_statement_219 : decode cX4_statement 219 = .ok (.invokevirtual 100, 3) := by decide +kernel
theorem dX4_statement_222 : decode cX4_statement 222 = .ok (.aload_n 0, 1) := by decide +kernel
theorem dX4_statement_223 : decode cX4_statement 223 = .ok (.getfield 17, 3) := by decide +kernel
theorem dX4_statement_226 : decode cX4_statement 226 = .ok (.invokevirtual 103, 3) := by decide +kernel
theorem dX4_statement_229 : decode cX4_statement 229 = .ok (.ifCond .ne 11, 3) := by decide +kernel
theorem dX4_statement_232 : decode cX4_statement 232 = .ok (.aload_n 0, 1) := by decide +kernel
theorem dX4_statement_233 : decode cX4_statement 233 = .ok (.getfield 17, 3) := by decide +kernel
theorem dX4_statement_236 : decode cX4_statement 236 = .ok (.iconst 2, 1) := by decide +kernel
theorem dX4_statement_237 : decode cX4_statement 237 = .ok (.invokevirtual 100, 3) := by decide +kernel
theorem dX4_statement_240 : decode cX4_statement 240 = .ok (.aload_n 1, 1) := by decide +kernel
theorem dX4_statement_241 : decode cX4_statement 241 = .ok (.areturn, 1) := by decide +kernel
theorem dX5_begin_0 : decode cX5_begin 0 = .ok (.aload_n 0, 1) := by decide +kernel
theorem dX5_begin_1 : decode cX5_begin 1 = .ok (.iconst 0, 1) := by decide +kernel
theorem dX5_begin_2 : decode cX5_begin 2 = .ok (.iload_n 1, 1) := by decide +kernel
theorem dX5_begin_3 : decode cX5_begin 3 = .ok (.bipush 24, 2) := by decide +kernel
theorem dX5_begin_5 : decode cX5_begin 5 = .ok (.invokestatic 45, 3) := by decide +kernel
theorem dX5_begin_8 : decode cX5_begin 8 = .ok (.invokestatic 51, 3) := by decide +kernel
theorem dX5_begin_11 : decode cX5_begin 11 = .ok (.putfield 54, 3) := by decide +kernel
theorem dX5_begin_14 : decode cX5_begin 14 = .ok (.aload_n 0, 1) := by decide +kernel
theorem dX5_begin_15 : decode cX5_begin 15 = .ok (.iconst 3, 1) := by decide +kernel
theorem dX5_begin_16 : decode cX5_begin 16 = .ok (.aload_n 0, 1) := by decide +kernel
theorem dX5_begin_17 : decode cX5_begin 17 = .ok (.getfield 54, 3) := by decide +kernel
theorem dX5_begin_20 : decode cX5_begin 20 = .ok (.iconst 0, 1) := by decide +kernel
theorem dX5_begin_21 : decode cX5_begin 21 = .ok (.iload_n 2, 1) := by decide +kernel
theorem dX5_begin_22 : decode cX5_begin 22 = .ok (.bipush 6, 2) := by decide +kernel
theorem dX5_begin_24 : decode cX5_begin 24 = .ok (.invokestatic 45, 3) := by decide +kernel
theorem dX5_begin_27 : decode cX5_begin 27 = .ok (.invokestatic 51, 3) := by decide +kernel
theorem dX5_begin_30 : decode cX5_begin 30 = .ok (.iadd, 1) := by decide +kernel
theorem dX5_begin_31 : decode cX5_begin 31 = .ok (.invokestatic 51, 3) := by decide +kernel
theorem dX5_begin_34 : decode cX5_begin 34 = .ok (.putfield 38, 3) := by decide +kernel
theorem dX5_begin_37 : decode cX5_begin 37 = .ok (.aload_n 0, 1) := by decide +kernel
theorem dX5_begin_38 : decode cX5_begin 38 = .ok (.iload_n 3, 1) := by decide +kernel
theorem dX5_begin_39 : decode cX5_begin 39 = .ok (.putfield 57, 3) := by decide +kernel
theorem dX5_begin_42 : decode cX5_begin 42 = .ok (.aload_n 0, 1) := by decide +kernel
theorem dX5_begin_43 : decode cX5_begin 43 = .ok (.iconst 0, 1) := by decide +kernel
theorem dX5_begin_44 : decode cX5_begin 44 = .ok (.putfield 60, 3) := by decide +kernel
theorem dX5_begin_47 : decode cX5_begin 47 = .ok (.aload_n 0, 1) := by decide +kernel
theorem dX5_begin_48 : decode cX5_begin 48 = .ok (.iconst 0, 1) := by decide +kernel
theorem dX5_begin_49 : decode cX5_begin 49 = .ok (.putfield 63, 3) := by decide +kernel
theorem dX5_begin_52 : decode cX5_begin 52 = .ok (.aload_n 0, 1) := by decide +kernel
theorem dX5_begin_53 : decode cX5_begin 53 = .ok (.iconst 0, 1) := by decide +kernel
theorem dX5_begin_54 : decode cX5_begin 54 = .ok (.putfield 66, 3) := by decide +kernel
theorem dX5_begin_57 : decode cX5_begin 57 = .ok (.return_, 1) := by decide +kernel
theorem dX7_dropLoose_0 : decode cX7_dropLoose 0 = .ok (.aload_n 0, 1) := by decide +kernel
theorem dX7_dropLoose_1 : decode cX7_dropLoose 1 = .ok (.getfield 57, 3) := by decide +kernel
theorem dX7_dropLoose_4 : decode cX7_dropLoose 4 = .ok (.iconst 1, 1) := by decide +kernel
theorem dX7_dropLoose_5 : decode cX7_dropLoose 5 = .ok (.isub, 1) := by decide +kernel
theorem dX7_dropLoose_6 : decode cX7_dropLoose 6 = .ok (.istore_n 1, 1) := by decide +kernel
theorem dX7_dropLoose_7 : decode cX7_dropLoose 7 = .ok (.iload_n 1, 1) := by decide +kernel
theorem dX7_dropLoose_8 : decode cX7_dropLoose 8 = .ok (.sipush 800, 3) := by decide +kernel
theorem dX7_dropLoose_11 : decode cX7_dropLoose 11 = .ok (.if_icmp .le 33, 3) := by decide +kernel
theorem dX7_dropLoose_14 : decode cX7_dropLoose 14 = .ok (.iload_n 1, 1) := by decide +kernel
theorem dX7_dropLoose_15 : decode cX7_dropLoose 15 = .ok (.sipush 8000, 3) := by decide +kernel
theorem dX7_dropLoose_18 : decode cX7_dropLoose 18 = .ok (.if_icmp .ge 20, 3) := by decide +kernel
theorem dX7_dropLoose_21 : decode cX7_dropLoose 21 = .ok (.aload_n 0, 1) := by decide +kernel
theorem dX7_dropLoose_22 : decode cX7_dropLoose 22 = .ok (.getfield 41, 3) := by decide +kernel
theorem dX7_dropLoose_25 : decode cX7_dropLoose 25 = .ok (.aload_n 0, 1) := by decide +kernel
theorem dX7_dropLoose_26 : decode cX7_dropLoose 26 = .ok (.getfield 32, 3) := by decide +kernel
theorem dX7_dropLoose_29 : decode cX7_dropLoose 29 = .ok (.iload_n 1, 1) := by decide +kernel
theorem dX7_dropLoose_30 : decode cX7_dropLoose 30 = .ok (.iaload, 1) := by decide +kernel
theorem dX7_dropLoose_31 : decode cX7_dropLoose 31 = .ok (.aload_n 0, 1) := by decide +kernel
theorem dX7_dropLoose_32 : decode cX7_dropLoose 32 = .ok (.getfield 35, 3) := by decide +kernel
theorem dX7_dropLoose_35 : decode cX7_dropLoose 35 = .ok (.iload_n 1, 1) := by decide +kernel
theorem dX7_dropLoose_36 : decode cX7_dropLoose 36 = .ok (.iaload, 1) := by decide +kernel
theorem dX7_dropLoose_37 : decode cX7_dropLoose 37 = .ok (.iastore, 1) := by decide +kernel
theorem dX7_dropLoose_38 : decode cX7_dropLoose 38 = .ok (.iinc 1 (-1), 3) := by decide +kernel
theorem dX7_dropLoose_41 : decode cX7_dropLoose 41 = .ok (.goto (-34), 3) := by decide +kernel
theorem dX7_dropLoose_44 : decode cX7_dropLoose 44 = .ok (.aload_n 0, 1) := by decide +kernel
theorem dX7_dropLoose_45 : decode cX7_dropLoose 45 = .ok (.sipush 801, 3) := by decide +kernel
theorem dX7_dropLoose_48 : decode cX7_dropLoose 48 = .ok (.putfield 57, 3) := by decide +kernel
theorem dX7_dropLoose_51 : decode cX7_dropLoose 51 = .ok (.aload_n 0, 1) := by decide +kernel
theorem dX7_dropLoose_52 : decode cX7_dropLoose 52 = .ok (.iconst 0, 1) := by decide +kernel
theorem dX7_dropLoose_53 : decode cX7_dropLoose 53 = .ok (.putfield 86, 3) := by decide +kernel
theorem dX7_dropLoose_56 : decode cX7_dropLoose 56 = .ok (.return_, 1) := by decide +kernel
theorem dX8_read_0 : decode cX8_read 0 = .ok (.aload_n 0, 1) := by decide +kernel
theorem dX8_read_1 : decode cX8_read 1 = .ok (.iconst 0, 1) := by decide +kernel
theorem dX8_read_2 : decode cX8_read 2 = .ok (.iload_n 1, 1) := by decide +kernel
theorem dX8_read_3 : decode cX8_read 3 = .ok (.aload_n 0, 1) := by decide +kernel
theorem dX8_read_4 : decode cX8_read 4 = .ok (.getfield 38, 3) := by decide +kernel
theorem dX8_read_7 : decode cX8_read 7 = .ok (.arraylength, 1) := by decide +kernel
theorem dX8_read_8 : decode cX8_read 8 = .ok (.invokestatic 45, 3) := by decide +kernel
theorem dX8_read_11 : decode cX8_read 11 = .ok (.invokestatic 51, 3) := by decide +kernel
theorem dX8_read_14 : decode cX8_read 14 = .ok (.putfield 54, 3) := by decide +kernel
theorem dX8_read_17 : decode cX8_read 17 = .ok (.aload_n 0, 1) := by decide +kernel
theorem dX8_read_18 : decode cX8_read 18 = .ok (.iconst 0, 1) := by decide +kernel
theorem dX8_read_19 : decode cX8_read 19 = .ok (.putfield 58, 3) := by decide +kernel
theorem dX8_read_22 : decode cX8_read 22 = .ok (.aload_n 0, 1) := by decide +kernel
theorem dX8_read_23 : decode cX8_read 23 = .ok (.iconst 0, 1) := by decide +kernel
theorem dX8_read_24 : decode cX8_read 24 = .ok (.putfield 61, 3) := by decide +kernel
theorem dX8_read_27 : decode cX8_read 27 = .ok (.aload_n 0, 1) := by decide +kernel
theorem dX8_read_28 : decode cX8_read 28 = .ok (.iconst 0, 1) := by decide +kernel
theorem dX8_read_29 : decode cX8_read 29 = .ok (.putfield 64, 3) := by decide +kernel
theorem dX8_read_32 : decode cX8_read 32 = .ok (.aload_n 0, 1) := by decide +kernel
theorem dX8_read_33 : decode cX8_read 33 = .ok (.iconst (-1), 1) := by decide +kernel
theorem dX8_read_34 : decode cX8_read 34 = .ok (.putfield 67, 3) := by decide +kernel
theorem dX8_read_37 : decode cX8_read 37 = .ok (.aload_n 0, 1) := by decide +kernel
theorem dX8_read_38 : decode cX8_read 38 = .ok (.iconst 0, 1) := by decide +kernel
theorem dX8_read_39 : decode cX8_read 39 = .ok (.putfield 70, 3) := by decide +kernel
theorem dX8_read_42 : decode cX8_read 42 = .ok (.aload_n 0, 1) := by decide +kernel
theorem dX8_read_43 : decode cX8_read 43 = .ok (.iconst 0, 1) := by decide +kernel
theorem dX8_read_44 : decode cX8_read 44 = .ok (.putfield 73, 3) := by decide +kernel
theorem dX8_read_47 : decode cX8_read 47 = .ok (.aload_n 0, 1) := by decide +kernel
theorem dX8_read_48 : decode cX8_read 48 = .ok (.iconst 0, 1) := by decide +kernel
theorem dX8_read_49 : decode cX8_read 49 = .ok (.putfield 76, 3) := by decide +kernel
theorem dX8_read_52 : decode cX8_read 52 = .ok (.iconst 1, 1) := by decide +kernel
theorem dX8_read_53 : decode cX8_read 53 = .ok (.istore_n 2, 1) := by decide +kernel
theorem dX8_read_54 : decode cX8_read 54 = .ok (.iconst 0, 1) := by decide +kernel
theorem dX8_read_55 : decode cX8_read 55 = .ok (.istore_n 3, 1) := by decide +kernel
theorem dX8_read_56 : decode cX8_read 56 = .ok (.iload_n 3, 1) := by decide +kernel
theorem dX8_read_57 : decode cX8_read 57 = .ok (.sipush 4000, 3) := by decide +kernel
theorem dX8_read_60 : decode cX8_read 60 = .ok (.if_icmp .gt 22, 3) := by decide +kernel
theorem dX8_read_63 : decode cX8_read 63 = .ok (.iload_n 2, 1) := by decide +kernel
theorem dX8_read_64 : decode cX8_read 64 = .ok (.ifCond .eq 18, 3) := by decide +kernel
theorem dX8_read_67 : decode cX8_read 67 = .ok (.aload_n 0, 1) := by decide +kernel
theorem dX8_read_68 : decode cX8_read 68 = .ok (.invokevirtual 79, 3) := by decide +kernel
theorem dX8_read_71 : decode cX8_read 71 = .ok (.aload_n 0, 1) := by decide +kernel
theorem dX8_read_72 : decode cX8_read 72 = .ok (.invokevirtual 82, 3) := by decide +kernel
theorem dX8_read_75 : decode cX8_read 75 = .ok (.istore_n 2, 1) := by decide +kernel
theorem dX8_read_76 : decode cX8_read 76 = .ok (.iinc 3 1, 3) := by decide +kernel
theorem dX8_read_79 : decode cX8_read 79 = .ok (.goto (-23), 3) := by decide +kernel
theorem dX8_read_82 : decode cX8_read 82 = .ok (.aload_n 0, 1) := by decide +kernel
theorem dX8_read_83 : decode cX8_read 83 = .ok (.invokevirtual 86, 3) := by decide +kernel
theorem dX8_read_86 : decode cX8_read 86 = .ok (.return_, 1) := by decide +kernel
theorem dX8_byteAt_0 : decode cX8_byteAt 0 = .ok (.iload_n 1, 1) := by decide +kernel
theorem dX8_byteAt_1 : decode cX8_byteAt 1 = .ok (.ifCond .lt 29, 3) := by decide +kernel
theorem dX8_byteAt_4 : decode cX8_byteAt 4 = .ok (.iload_n 1, 1) := by decide +kernel
theorem dX8_byteAt_5 : decode cX8_byteAt 5 = .ok (.aload_n 0, 1) := by decide +kernel
theorem dX8_byteAt_6 : decode cX8_byteAt 6 = .ok (.getfield 54, 3) := by decide +kernel
theorem dX8_byteAt_9 : decode cX8_byteAt 9 = .ok (.if_icmp .ge 21, 3) := by decide +kernel
theorem dX8_byteAt_12 : decode cX8_byteAt 12 = .ok (.iload_n 1, 1) := by decide +kernel
theorem dX8_byteAt_13 : decode cX8_byteAt 13 = .ok (.aload_n 0, 1) := by decide +kernel
theorem dX8_byteAt_14 : decode cX8_byteAt 14 = .ok (.getfield 38, 3) := by decide +kernel
theorem dX8_byteAt_17 : decode cX8_byteAt 17 = .ok (.arraylength, 1) := by decide +kernel
theorem dX8_byteAt_18 : decode cX8_byteAt 18 = .ok (.if_icmp .ge 12, 3) := by decide +kernel
theorem dX8_byteAt_21 : decode cX8_byteAt 21 = .ok (.aload_n 0, 1) := by decide +kernel
theorem dX8_byteAt_22 : decode cX8_byteAt 22 = .ok (.getfield 38, 3) := by decide +kernel
theorem dX8_byteAt_25 : decode cX8_byteAt 25 = .ok (.iload_n 1, 1) := by decide +kernel
theorem dX8_byteAt_26 : decode cX8_byteAt 26 = .ok (.baload, 1) := by decide +kernel
theorem dX8_byteAt_27 : decode cX8_byteAt 27 = .ok (.goto 4, 3) := by decide +kernel
theorem dX8_byteAt_30 : decode cX8_byteAt 30 = .ok (.iconst 0, 1) := by decide +kernel
theorem dX8_byteAt_31 : decode cX8_byteAt 31 = .ok (.ireturn, 1) := by decide +kernel
theorem dX8_skipBlanks_0 : decode cX8_skipBlanks 0 = .ok (.iconst 0, 1) := by decide +kernel
theorem dX8_skipBlanks_1 : decode cX8_skipBlanks 1 = .ok (.istore_n 1, 1) := by decide +kernel
theorem dX8_skipBlanks_2 : decode cX8_skipBlanks 2 = .ok (.aload_n 0, 1) := by decide +kernel
theorem dX8_skipBlanks_3 : decode cX8_skipBlanks 3 = .ok (.getfield 61, 3) := by decide +kernel
theorem dX8_skipBlanks_6 : decode cX8_skipBlanks 6 = .ok (.aload_n 0, 1) := by decide +kernel
theorem dX8_skipBlanks_7 : decode cX8_skipBlanks 7 = .ok (.getfield 54, 3) := by decide +kernel
theorem dX8_skipBlanks_10 : decode cX8_skipBlanks 10 = .ok (.if_icmp .ge 76, 3) := by decide +kernel
theorem dX8_skipBlanks_13 : decode cX8_skipBlanks 13 = .ok (.aload_n 0, 1) := by decide +kernel
theorem dX8_skipBlanks_14 : decode cX8_skipBlanks 14 = .ok (.aload_n 0, 1) := by decide +kernel
theorem dX8_skipBlanks_15 : decode cX8_skipBlanks 15 = .ok (.getfield 61, 3) := by decide +kernel
theorem dX8_skipBlanks_18 : decode cX8_skipBlanks 18 = .ok (.invokevirtual 89, 3) := by decide +kernel
theorem dX8_skipBlanks_21 : decode cX8_skipBlanks 21 = .ok (.istore_n 2, 1) := by decide +kernel
theorem dX8_skipBlanks_22 : decode cX8_skipBlanks 22 = .ok (.iload_n 2, 1) := by decide +kernel
theorem dX8_skipBlanks_23 : decode cX8_skipBlanks 23 = .ok (.bipush 35, 2) := by decide +kernel
theorem dX8_skipBlanks_25 : decode cX8_skipBlanks 25 = .ok (.if_icmp .eq 13, 3) := by decide +kernel
theorem dX8_skipBlanks_28 : decode cX8_skipBlanks 28 = .ok (.iload_n 1, 1) := by decide +kernel
theorem dX8_skipBlanks_29 : decode cX8_skipBlanks 29 = .ok (.ifCond .eq 13, 3) := by decide +kernel
theorem dX8_skipBlanks_32 : decode cX8_skipBlanks 32 = .ok (.iload_n 2, 1) := by decide +kernel
theorem dX8_skipBlanks_33 : decode cX8_skipBlanks 33 = .ok (.bipush 10, 2) := by decide +kernel
theorem dX8_skipBlanks_35 : decode cX8_skipBlanks 35 = .ok (.if_icmp .eq 7, 3) := by decide +kernel
theorem dX8_skipBlanks_38 : decode cX8_skipBlanks 38 = .ok (.iconst 1, 1) := by decide +kernel
theorem dX8_skipBlanks_39 : decode cX8_skipBlanks 39 = .ok (.goto 4, 3) := by decide +kernel
theorem dX8_skipBlanks_42 : decode cX8_skipBlanks 42 = .ok (.iconst 0, 1) := by decide +kernel
theorem dX8_skipBlanks_43 : decode cX8_skipBlanks 43 = .ok (.istore_n 1, 1) := by decide +kernel
theorem dX8_skipBlanks_44 : decode cX8_skipBlanks 44 = .ok (.iload_n 1, 1) := by decide +kernel
theorem dX8_skipBlanks_45 : decode cX8_skipBlanks 45 = .ok (.ifCond .ne 28, 3) := by decide +kernel
theorem dX8_skipBlanks_48 : decode cX8_skipBlanks 48 = .ok (.iload_n 2, 1) := by decide +kernel
theorem dX8_skipBlanks_49 : decode cX8_skipBlanks 49 = .ok (.bipush 32, 2) := by decide +kernel
theorem dX8_skipBlanks_51 : decode cX8_skipBlanks 51 = .ok (.if_icmp .eq 22, 3) := by decide +kernel
theorem dX8_skipBlanks_54 : decode cX8_skipBlanks 54 = .ok (.iload_n 2, 1) := by decide +kernel
theorem dX8_skipBlanks_55 : decode cX8_skipBlanks 55 = .ok (.bipush 9, 2) := by decide +kernel
theorem dX8_skipBlanks_57 : decode cX8_skipBlanks 57 = .ok (.if_icmp .eq 16, 3) := by decide +kernel
theorem dX8_skipBlanks_60 : decode cX8_skipBlanks 60 = .ok (.iload_n 2, 1) := by decide +kernel
theorem dX8_skipBlanks_61 : decode cX8_skipBlanks 61 = .ok (.bipush 10, 2) := by decide +kernel
theorem dX8_skipBlanks_63 : decode cX8_skipBlanks 63 = .ok (.if_icmp .eq 10, 3) := by decide +kernel
theorem dX8_skipBlanks_66 : decode cX8_skipBlanks 66 = .ok (.iload_n 2, 1) := by decide +kernel
theorem dX8_skipBlanks_67 : decode cX8_skipBlanks 67 = .ok (.bipush 13, 2) := by decide +kernel
theorem dX8_skipBlanks_69 : decode cX8_skipBlanks 69 = .ok (.if_icmp .eq 4, 3) := by decide +kernel
theorem dX8_skipBlanks_72 : decode cX8_skipBlanks 72 = .ok (.return_, 1) := by decide +kernel
theorem dX8_skipBlanks_73 : decode cX8_skipBlanks 73 = .ok (.aload_n 0, 1) := by decide +kernel
theorem dX8_skipBlanks_74 : decode cX8_skipBlanks 74 = .ok (.dup, 1) := by decide +kernel
theorem dX8_skipBlanks_75 : decode cX8_skipBlanks 75 = .ok (.getfield 61, 3) := by decide +kernel
theorem dX8_skipBlanks_78 : decode cX8_skipBlanks 78 = .ok (.iconst 1, 1) := by decide +kernel
theorem dX8_skipBlanks_79 : decode cX8_skipBlanks 79 = .ok (.iadd, 1) := by decide +kernel
theorem dX8_skipBlanks_80 : decode cX8_skipBlanks 80 = .ok (.putfield 61, 3) := by decide +kernel
theorem dX8_skipBlanks_83 : decode cX8_skipBlanks 83 = .ok (.goto (-81), 3) := by decide +kernel
theorem dX8_skipBlanks_86 : decode cX8_skipBlanks 86 = .ok (.return_, 1) := by decide +kernel
theorem dX8_readOne_0 : decode cX8_readOne 0 = .ok (.aload_n 0, 1) := by decide +kernel
theorem dX8_readOne_1 : decode cX8_readOne 1 = .ok (.getfield 61, 3) := by decide +kernel
theorem dX8_readOne_4 : decode cX8_readOne 4 = .ok (.istore_n 1, 1) := by decide +kernel
theorem dX8_readOne_5 : decode cX8_readOne 5 = .ok (.aload_n 0, 1) := by decide +kernel
theorem dX8_readOne_6 : decode cX8_readOne 6 = .ok (.iload_n 1, 1) := by decide +kernel
theorem dX8_readOne_7 : decode cX8_readOne 7 = .ok (.invokevirtual 89, 3) := by decide +kernel
theorem dX8_readOne_10 : decode cX8_readOne 10 = .ok (.istore_n 2, 1) := by decide +kernel
theorem dX8_readOne_11 : decode cX8_readOne 11 = .ok (.iload_n 1, 1) := by decide +kernel
theorem dX8_readOne_12 : decode cX8_readOne 12 = .ok (.aload_n 0, 1) := by decide +kernel
theorem dX8_readOne_13 : decode cX8_readOne 13 = .ok (.getfield 54, 3) := by decide +kernel
theorem dX8_readOne_16 : decode cX8_readOne 16 = .ok (.if_icmp .lt 13, 3) := by decide +kernel
theorem dX8_readOne_19 : decode cX8_readOne 19 = .ok (.aload_n 0, 1) := by decide +kernel
theorem dX8_readOne_20 : decode cX8_readOne 20 = .ok (.iconst 0, 1) := by decide +kernel
theorem dX8_readOne_21 : decode cX8_readOne 21 = .ok (.iconst 0, 1) := by decide +kernel
theorem dX8_readOne_22 : decode cX8_readOne 22 = .ok (.iload_n 1, 1) := by decide +kernel
theorem dX8_readOne_23 : decode cX8_readOne 23 = .ok (.iload_n 1, 1) := by decide +kernel
theorem dX8_readOne_24 : decode cX8_readOne 24 = .ok (.invokevirtual 93, 3) := by decide +kernel
theorem dX8_readOne_27 : decode cX8_readOne 27 = .ok (.iconst 0, 1) := by decide +kernel
theorem dX8_readOne_28 : decode cX8_readOne 28 = .ok (.ireturn, 1) := by decide +kernel
theorem dX8_readOne_29 : decode cX8_readOne 29 = .ok (.iload_n 2, 1) := by decide +kernel
theorem dX8_readOne_30 : decode cX8_readOne 30 = .ok (.invokestatic 97, 3) := by decide +kernel
theorem dX8_readOne_33 : decode cX8_readOne 33 = .ok (.ifCond .eq 10, 3) := by decide +kernel
theorem dX8_readOne_36 : decode cX8_readOne 36 = .ok (.aload_n 0, 1) := by decide +kernel
theorem dX8_readOne_37 : decode cX8_readOne 37 = .ok (.iload_n 1, 1) := by decide +kernel
theorem dX8_readOne_38 : decode cX8_readOne 38 = .ok (.invokevirtual 101, 3) := by decide +kernel
theorem dX8_readOne_41 : decode cX8_readOne 41 = .ok (.iconst 1, 1) := by decide +kernel
theorem dX8_readOne_42 : decode cX8_readOne 42 = .ok (.ireturn, 1) := by decide +kernel
theorem dX8_readOne_43 : decode cX8_readOne 43 = .ok (.iload_n 1, 1) := by decide +kernel
theorem dX8_readOne_44 : decode cX8_readOne 44 = .ok (.istore_n 3, 1) := by decide +kernel
theorem dX8_readOne_45 : decode cX8_readOne 45 = .ok (.iload_n 2, 1) := by decide +kernel
theorem dX8_readOne_46 : decode cX8_readOne 46 = .ok (.lookupswitch 116 #[(34, 107), (58, 85), (60, 98), (63, 50), (95, 56)], 50) := by decide +kernel
theorem dX8_readOne_96 : decode cX8_readOne 96 = .ok (.aload_n 0, 1) := by decide +kernel
theorem dX8_readOne_97 : decode cX8_readOne 97 = .ok (.iload_n 1, 1) := by decide +kernel
theorem dX8_readOne_98 : decode cX8_readOne 98 = .ok (.invokevirtual 105, 3) := by decide +kernel
theorem dX8_readOne_101 : decode cX8_readOne 101 = .ok (.ireturn, 1) := by decide +kernel
theorem dX8_readOne_102 : decode cX8_readOne 102 = .ok (.aload_n 0, 1) := by decide +kernel
theorem dX8_readOne_103 : decode cX8_readOne 103 = .ok (.iload_n 1, 1) := by decide +kernel
theorem dX8_readOne_104 : decode cX8_readOne 104 = .ok (.iconst 1, 1) := by decide +kernel
theorem dX8_readOne_105 : decode cX8_readOne 105 = .ok (.iadd, 1) := by decide +kernel
theorem dX8_readOne_106 : decode cX8_readOne 106 = .ok (.invokevirtual 89, 3) := by decide +kernel
theorem dX8_readOne_109 : decode cX8_readOne 109 = .ok (.bipush 58, 2) := by decide +kernel
theorem dX8_readOne_111 : decode cX8_readOne 111 = .ok (.if_icmp .ne 15, 3) := by decide +kernel
theorem dX8_readOne_114 : decode cX8_readOne 114 = .ok (.aload_n 0, 1) := by decide +kernel
theorem dX8_readOne_115 : decode cX8_readOne 115 = .ok (.iconst 1, 1) := by decide +kernel
theorem dX8_readOne_116 : decode cX8_readOne 116 = .ok (.iload_n 1, 1) := by decide +kernel
theorem dX8_readOne_117 : decode cX8_readOne 117 = .ok (.iconst 2, 1) := by decide +kernel
theorem dX8_readOne_118 : decode cX8_readOne 118 = .ok (.iadd, 1) := by decide +kernel
theorem dX8_readOne_119 : decode cX8_readOne 119 = .ok (.iload_n 1, 1) := by decide +kernel
theorem dX8_readOne_120 : decode cX8_readOne 120 = .ok (.invokevirtual 108, 3) := by decide +kernel
theorem dX8_readOne_123 : decode cX8_readOne 123 = .ok (.goto 4, 3) := by decide +kernel
theorem dX8_readOne_126 : decode cX8_readOne 126 = .ok (.iload_n 1, 1) := by decide +kernel
theorem dX8_readOne_127 : decode cX8_readOne 127 = .ok (.istore_n 3, 1) := by decide +kernel
theorem dX8_readOne_128 : decode cX8_readOne 128 = .ok (.goto 99, 3) := by decide +kernel
theorem dX8_readOne_131 : decode cX8_readOne 131 = .ok (.aload_n 0, 1) := by decide +kernel
theorem dX8_readOne_132 : decode cX8_readOne 132 = .ok (.iconst 2, 1) := by decide +kernel
theorem dX8_readOne_133 : decode cX8_readOne 133 = .ok (.iload_n 1, 1) := by decide +kernel
theorem dX8_readOne_134 : decode cX8_readOne 134 = .ok (.iconst 1, 1) := by decide +kernel
theorem dX8_readOne_135 : decode cX8_readOne 135 = .ok (.iadd, 1) := by decide +kernel
theorem dX8_readOne_136 : decode cX8_readOne 136 = .ok (.iload_n 1, 1) := by decide +kernel
theorem dX8_readOne_137 : decode cX8_readOne 137 = .ok (.invokevirtual 108, 3) := by decide +kernel
theorem dX8_readOne_140 : decode cX8_readOne 140 = .ok (.istore_n 3, 1) := by decide +kernel
theorem dX8_readOne_141 : decode cX8_readOne 141 = .ok (.goto 86, 3) := by decide +kernel
theorem dX8_readOne_144 : decode cX8_readOne 144 = .ok (.aload_n 0, 1) := by decide +kernel
theorem dX8_readOne_145 : decode cX8_readOne 145 = .ok (.iload_n 1, 1) := by decide +kernel
theorem dX8_readOne_146 : decode cX8_readOne 146 = .ok (.invokevirtual 112, 3) := by decide +kernel
theorem dX8_readOne_149 : decode cX8_readOne 149 = .ok (.istore_n 3, 1) := by decide +kernel
theorem dX8_readOne_150 : decode cX8_readOne 150 = .ok (.goto 77, 3) := by decide +kernel
theorem dX8_readOne_153 : decode cX8_readOne 153 = .ok (.aload_n 0, 1) := by decide +kernel
theorem dX8_readOne_154 : decode cX8_readOne 154 = .ok (.iload_n 1, 1) := by decide +kernel
theorem dX8_readOne_155 : decode cX8_readOne 155 = .ok (.invokevirtual 115, 3) := by decide +kernel
theorem dX8_readOne_158 : decode cX8_readOne 158 = .ok (.istore_n 3, 1) := by decide +kernel
theorem dX8_readOne_159 : decode cX8_readOne 159 = .ok (.goto 68, 3) := by decide +kernel
theorem dX8_readOne_162 : decode cX8_readOne 162 = .ok (.iload_n 2, 1) := by decide +kernel
theorem dX8_readOne_163 : decode cX8_readOne 163 = .ok (.invokestatic 118, 3) := by decide +kernel
theorem dX8_readOne_166 : decode cX8_readOne 166 = .ok (.ifCond .ne 28, 3) := by decide +kernel
theorem dX8_readOne_169 : decode cX8_readOne 169 = .ok (.iload_n 2, 1) := by decide +kernel
theorem dX8_readOne_170 : decode cX8_readOne 170 = .ok (.bipush 46, 2) := by decide +kernel
theorem dX8_readOne_172 : decode cX8_readOne 172 = .ok (.if_icmp .eq 22, 3) := by decide +kernel
theorem dX8_readOne_175 : decode cX8_readOne 175 = .ok (.iload_n 2, 1) := by decide +kernel
theorem dX8_readOne_176 : decode cX8_readOne 176 = .ok (.bipush 43, 2) := by decide +kernel
theorem dX8_readOne_178 : decode cX8_readOne 178 = .ok (.if_icmp .eq 9, 3) := by decide +kernel
theorem dX8_readOne_181 : decode cX8_readOne 181 = .ok (.iload_n 2, 1) := by decide +kernel
theorem dX8_readOne_182 : decode cX8_readOne 182 = .ok (.bipush 45, 2) := by decide +kernel
theorem dX8_readOne_184 : decode cX8_readOne 184 = .ok (.if_icmp .ne 14, 3) := by decide +kernel
theorem dX8_readOne_187 : decode cX8_readOne 187 = .ok (.aload_n 0, 1) := by decide +kernel
theorem dX8_readOne_188 : decode cX8_readOne 188 = .ok (.invokevirtual 121, 3) := by decide +kernel
theorem dX8_readOne_191 : decode cX8_readOne 191 = .ok (.ifCond .ne 7, 3) := by decide +kernel
theorem dX8_readOne_194 : decode cX8_readOne 194 = .ok (.iconst 1, 1) := by decide +kernel
theorem dX8_readOne_195 : decode cX8_readOne 195 = .ok (.goto 4, 3) := by decide +kernel
theorem dX8_readOne_198 : decode cX8_readOne 198 = .ok (.iconst 0, 1) := by decide +kernel
theorem dX8_readOne_199 : decode cX8_readOne 199 = .ok (.istore 4, 2) := by decide +kernel
theorem dX8_readOne_201 : decode cX8_readOne 201 = .ok (.iload 4, 2) := by decide +kernel
theorem dX8_readOne_203 : decode cX8_readOne 203 = .ok (.ifCond .eq 22, 3) := by decide +kernel
theorem dX8_readOne_206 : decode cX8_readOne 206 = .ok (.aload_n 0, 1) := by decide +kernel
theorem dX8_readOne_207 : decode cX8_readOne 207 = .ok (.getfield 38, 3) := by decide +kernel
theorem dX8_readOne_210 : decode cX8_readOne 210 = .ok (.iload_n 1, 1) := by decide +kernel
theorem dX8_readOne_211 : decode cX8_readOne 211 = .ok (.aload_n 0, 1) := by decide +kernel
theorem dX8_readOne_212 : decode cX8_readOne 212 = .ok (.getfield 54, 3) := by decide +kernel
theorem dX8_readOne_215 : decode cX8_readOne 215 = .ok (.aload_n 0, 1) := by decide +kernel
theorem dX8_readOne_216 : decode cX8_readOne 216 = .ok (.getfield 31, 3) := by decide +kernel
theorem dX8_readOne_219 : decode cX8_readOne 219 = .ok (.invokestatic 124, 3) := by decide +kernel
theorem dX8_readOne_222 : decode cX8_readOne 222 = .ok (.goto 4, 3) := by decide +kernel
theorem dX8_readOne_225 : decode cX8_readOne 225 = .ok (.iload_n 1, 1) := by decide +kernel
theorem dX8_readOne_226 : decode cX8_readOne 226 = .ok (.istore_n 3, 1) := by decide +kernel
theorem dX8_readOne_227 : decode cX8_readOne 227 = .ok (.iload_n 3, 1) := by decide +kernel
theorem dX8_readOne_228 : decode cX8_readOne 228 = .ok (.iload_n 1, 1) := by decide +kernel
theorem dX8_readOne_229 : decode cX8_readOne 229 = .ok (.if_icmp .le 11, 3) := by decide +kernel
theorem dX8_readOne_232 : decode cX8_readOne 232 = .ok (.aload_n 0, 1) := by decide +kernel
theorem dX8_readOne_233 : decode cX8_readOne 233 = .ok (.iload_n 1, 1) := by decide +kernel
theorem dX8_readOne_234 : decode cX8_readOne 234 = .ok (.iload_n 3, 1) := by decide +kernel
theorem dX8_readOne_235 : decode cX8_readOne 235 = .ok (.invokevirtual 128, 3) := by decide +kernel
theorem dX8_readOne_238 : decode cX8_readOne 238 = .ok (.iconst 1, 1) := by decide +kernel
theorem dX8_readOne_239 : decode cX8_readOne 239 = .ok (.ireturn, 1) := by decide +kernel
theorem dX8_readOne_240 : decode cX8_readOne 240 = .ok (.aload_n 0, 1) := by decide +kernel
theorem dX8_readOne_241 : decode cX8_readOne 241 = .ok (.iload_n 1, 1) := by decide +kernel
theorem dX8_readOne_242 : decode cX8_readOne 242 = .ok (.iload_n 2, 1) := by decide +kernel
theorem dX8_readOne_243 : decode cX8_readOne 243 = .ok (.invokevirtual 132, 3) := by decide +kernel
theorem dX8_readOne_246 : decode cX8_readOne 246 = .ok (.ireturn, 1) := by decide +kernel
theorem dX8_note_0 : decode cX8_note 0 = .ok (.aload_n 0, 1) := by decide +kernel
theorem dX8_note_1 : decode cX8_note 1 = .ok (.getfield 58, 3) := by decide +kernel
theorem dX8_note_4 : decode cX8_note 4 = .ok (.aload_n 0, 1) := by decide +kernel
theorem dX8_note_5 : decode cX8_note 5 = .ok (.getfield 9, 3) := by decide +kernel
theorem dX8_note_8 : decode cX8_note 8 = .ok (.arraylength, 1) := by decide +kernel
theorem dX8_note_9 : decode cX8_note 9 = .ok (.if_icmp .ge 44, 3) := by decide +kernel
theorem dX8_note_12 : decode cX8_note 12 = .ok (.aload_n 0, 1) := by decide +kernel
theorem dX8_note_13 : decode cX8_note 13 = .ok (.getfield 9, 3) := by decide +kernel
theorem dX8_note_16 : decode cX8_note 16 = .ok (.aload_n 0, 1) := by decide +kernel
theorem dX8_note_17 : decode cX8_note 17 = .ok (.getfield 58, 3) := by decide +kernel
theorem dX8_note_20 : decode cX8_note 20 = .ok (.iload_n 1, 1) := by decide +kernel
theorem dX8_note_21 : decode cX8_note 21 = .ok (.i2b, 1) := by decide +kernel
theorem dX8_note_22 : decode cX8_note 22 = .ok (.bastore, 1) := by decide +kernel
theorem dX8_note_23 : decode cX8_note 23 = .ok (.aload_n 0, 1) := by decide +kernel
theorem dX8_note_24 : decode cX8_note 24 = .ok (.getfield 15, 3) := by decide +kernel
theorem dX8_note_27 : decode cX8_note 27 = .ok (.aload_n 0, 1) := by decide +kernel
theorem dX8_note_28 : decode cX8_note 28 = .ok (.getfield 58, 3) := by decide +kernel
theorem dX8_note_31 : decode cX8_note 31 = .ok (.iload_n 2, 1) := by decide +kernel
theorem dX8_note_32 : decode cX8_note 32 = .ok (.iastore, 1) := by decide +kernel
theorem dX8_note_33 : decode cX8_note 33 = .ok (.aload_n 0, 1) := by decide +kernel
theorem dX8_note_34 : decode cX8_note 34 = .ok (.getfield 19, 3) := by decide +kernel
theorem dX8_note_37 : decode cX8_note 37 = .ok (.aload_n 0, 1) := by decide +kernel
theorem dX8_note_38 : decode cX8_note 38 = .ok (.getfield 58, 3) := by decide +kernel
theorem dX8_note_41 : decode cX8_note 41 = .ok (.iload_n 3, 1) := by decide +kernel
theorem dX8_note_42 : decode cX8_note 42 = .ok (.iastore, 1) := by decide +kernel
theorem dX8_note_43 : decode cX8_note 43 = .ok (.aload_n 0, 1) := by decide +kernel
theorem dX8_note_44 : decode cX8_note 44 = .ok (.dup, 1) := by decide +kernel
theorem dX8_note_45 : decode cX8_note 45 = .ok (.getfield 58, 3) := by decide +kernel
theorem dX8_note_48 : decode cX8_note 48 = .ok (.iconst 1, 1) := by decide +kernel
theorem dX8_note_49 : decode cX8_note 49 = .ok (.iadd, 1) := by decide +kernel
theorem dX8_note_50 : decode cX8_note 50 = .ok (.putfield 58, 3) := by decide +kernel
theorem dX8_note_53 : decode cX8_note 53 = .ok (.aload_n 0, 1) := by decide +kernel
theorem dX8_note_54 : decode cX8_note 54 = .ok (.iload 4, 2) := by decide +kernel
theorem dX8_note_56 : decode cX8_note 56 = .ok (.putfield 61, 3) := by decide +kernel
theorem dX8_note_59 : decode cX8_note 59 = .ok (.return_, 1) := by decide +kernel
theorem dX8_isEnd_0 : decode cX8_isEnd 0 = .ok (.aload_n 0, 1) := by decide +kernel
theorem dX8_isEnd_1 : decode cX8_isEnd 1 = .ok (.getfield 267, 3) := by decide +kernel
theorem dX8_isEnd_4 : decode cX8_isEnd 4 = .ok (.ifCond .ne 7, 3) := by decide +kernel
theorem dX8_isEnd_7 : decode cX8_isEnd 7 = .ok (.iconst 1, 1) := by decide +kernel
theorem dX8_isEnd_8 : decode cX8_isEnd 8 = .ok (.goto 4, 3) := by decide +kernel
theorem dX8_isEnd_11 : decode cX8_isEnd 11 = .ok (.iconst 0, 1) := by decide +kernel
theorem dX8_isEnd_12 : decode cX8_isEnd 12 = .ok (.ireturn, 1) := by decide +kernel
theorem dX8_word_0 : decode cX8_word 0 = .ok (.aload_n 0, 1) := by decide +kernel
theorem dX8_word_1 : decode cX8_word 1 = .ok (.getfield 267, 3) := by decide +kernel
theorem dX8_word_4 : decode cX8_word 4 = .ok (.iconst 3, 1) := by decide +kernel
theorem dX8_word_5 : decode cX8_word 5 = .ok (.if_icmp .ne 10, 3) := by decide +kernel
theorem dX8_word_8 : decode cX8_word 8 = .ok (.aload_n 0, 1) := by decide +kernel
theorem dX8_word_9 : decode cX8_word 9 = .ok (.getfield 268, 3) := by decide +kernel
theorem dX8_word_12 : decode cX8_word 12 = .ok (.goto 4, 3) := by decide +kernel
theorem dX8_word_15 : decode cX8_word 15 = .ok (.iconst 0, 1) := by decide +kernel
theorem dX8_word_16 : decode cX8_word 16 = .ok (.ireturn, 1) := by decide +kernel
theorem dX8_take_0 : decode cX8_take 0 = .ok (.aload_n 0, 1) := by decide +kernel
theorem dX8_take_1 : decode cX8_take 1 = .ok (.getfield 73, 3) := by decide +kernel
theorem dX8_take_4 : decode cX8_take 4 = .ok (.ifCond .ne 30, 3) := by decide +kernel
theorem dX8_take_7 : decode cX8_take 7 = .ok (.aload_n 0, 1) := by decide +kernel
theorem dX8_take_8 : decode cX8_take 8 = .ok (.getfield 67, 3) := by decide +kernel
theorem dX8_take_11 : decode cX8_take 11 = .ok (.iconst 1, 1) := by decide +kernel
theorem dX8_take_12 : decode cX8_take 12 = .ok (.iadd, 1) := by decide +kernel
theorem dX8_take_13 : decode cX8_take 13 = .ok (.aload_n 0, 1) := by decide +kernel
theorem dX8_take_14 : decode cX8_take 14 = .ok (.getfield 58, 3) := by decide +kernel
theorem dX8_take_17 : decode cX8_take 17 = .ok (.if_icmp .ge 17, 3) := by decide +kernel
theorem dX8_take_20 : decode cX8_take 20 = .ok (.aload_n 0, 1) := by decide +kernel
theorem dX8_take_21 : decode cX8_take 21 = .ok (.getfield 67, 3) := by decide +kernel
theorem dX8_take_24 : decode cX8_take 24 = .ok (.iconst 1, 1) := by decide +kernel
theorem dX8_take_25 : decode cX8_take 25 = .ok (.iadd, 1) := by decide +kernel
theorem dX8_take_26 : decode cX8_take 26 = .ok (.aload_n 0, 1) := by decide +kernel
theorem dX8_take_27 : decode cX8_take 27 = .ok (.getfield 9, 3) := by decide +kernel
theorem dX8_take_30 : decode cX8_take 30 = .ok (.arraylength, 1) := by decide +kernel
theorem dX8_take_31 : decode cX8_take 31 = .ok (.if_icmp .lt 4, 3) := by decide +kernel
theorem dX8_take_34 : decode cX8_take 34 = .ok (.return_, 1) := by decide +kernel
theorem dX8_take_35 : decode cX8_take 35 = .ok (.aload_n 0, 1) := by decide +kernel
theorem dX8_take_36 : decode cX8_take 36 = .ok (.dup, 1) := by decide +kernel
theorem dX8_take_37 : decode cX8_take 37 = .ok (.getfield 67, 3) := by decide +kernel
theorem dX8_take_40 : decode cX8_take 40 = .ok (.iconst 1, 1) := by decide +kernel
theorem dX8_take_41 : decode cX8_take 41 = .ok (.iadd, 1) := by decide +kernel
theorem dX8_take_42 : decode cX8_take 42 = .ok (.putfield 67, 3) := by decide +kernel
theorem dX8_take_45 : decode cX8_take 45 = .ok (.aload_n 0, 1) := by decide +kernel
theorem dX8_take_46 : decode cX8_take 46 = .ok (.aload_n 0, 1) := by decide +kernel
theorem dX8_take_47 : decode cX8_take 47 = .ok (.getfield 9, 3) := by decide +kernel
theorem dX8_take_50 : decode cX8_take 50 = .ok (.aload_n 0, 1) := by decide +kernel
theorem dX8_take_51 : decode cX8_take 51 = .ok (.getfield 67, 3) := by decide +kernel
theorem dX8_take_54 : decode cX8_take 54 = .ok (.baload, 1) := by decide +kernel
theorem dX8_take_55 : decode cX8_take 55 = .ok (.putfield 267, 3) := by decide +kernel
theorem dX8_take_58 : decode cX8_take 58 = .ok (.aload_n 0, 1) := by decide +kernel
theorem dX8_take_59 : decode cX8_take 59 = .ok (.aload_n 0, 1) := by decide +kernel
theorem dX8_take_60 : decode cX8_take 60 = .ok (.getfield 15, 3) := by decide +kernel
theorem dX8_take_63 : decode cX8_take 63 = .ok (.aload_n 0, 1) := by decide +kernel
theorem dX8_take_64 : decode cX8_take 64 = .ok (.getfield 67, 3) := by decide +kernel
theorem dX8_take_67 : decode cX8_take 67 = .ok (.iaload, 1) := by decide +kernel
theorem dX8_take_68 : decode cX8_take 68 = .ok (.putfield 268, 3) := by decide +kernel
theorem dX8_take_71 : decode cX8_take 71 = .ok (.aload_n 0, 1) := by decide +kernel
theorem dX8_take_72 : decode cX8_take 72 = .ok (.aload_n 0, 1) := by decide +kernel
theorem dX8_take_73 : decode cX8_take 73 = .ok (.getfield 19, 3) := by decide +kernel
theorem dX8_take_76 : decode cX8_take 76 = .ok (.aload_n 0, 1) := by decide +kernel
theorem dX8_take_77 : decode cX8_take 77 = .ok (.getfield 67, 3) := by decide +kernel
theorem dX8_take_80 : decode cX8_take 80 = .ok (.iaload, 1) := by decide +kernel
theorem dX8_take_81 : decode cX8_take 81 = .ok (.putfield 274, 3) := by decide +kernel
theorem dX8_take_84 : decode cX8_take 84 = .ok (.aload_n 0, 1) := by decide +kernel
theorem dX8_take_85 : decode cX8_take 85 = .ok (.getfield 267, 3) := by decide +kernel
theorem dX8_take_88 : decode cX8_take 88 = .ok (.iconst 5, 1) := by decide +kernel
theorem dX8_take_89 : decode cX8_take 89 = .ok (.if_icmp .ne 16, 3) := by decide +kernel
theorem dX8_take_92 : decode cX8_take 92 = .ok (.aload_n 0, 1) := by decide +kernel
theorem dX8_take_93 : decode cX8_take 93 = .ok (.iconst 1, 1) := by decide +kernel
theorem dX8_take_94 : decode cX8_take 94 = .ok (.putfield 73, 3) := by decide +kernel
theorem dX8_take_97 : decode cX8_take 97 = .ok (.aload_n 0, 1) := by decide +kernel
theorem dX8_take_98 : decode cX8_take 98 = .ok (.aload_n 0, 1) := by decide +kernel
theorem dX8_take_99 : decode cX8_take 99 = .ok (.getfield 274, 3) := by decide +kernel
theorem dX8_take_102 : decode cX8_take 102 = .ok (.putfield 76, 3) := by decide +kernel
theorem dX8_take_105 : decode cX8_take 105 = .ok (.return_, 1) := by decide +kernel
theorem dX8_fail_0 : decode cX8_fail 0 = .ok (.aload_n 0, 1) := by decide +kernel
theorem dX8_fail_1 : decode cX8_fail 1 = .ok (.iload_n 1, 1) := by decide +kernel
theorem dX8_fail_2 : decode cX8_fail 2 = .ok (.aload_n 0, 1) := by decide +kernel
theorem dX8_fail_3 : decode cX8_fail 3 = .ok (.getfield 274, 3) := by decide +kernel
theorem dX8_fail_6 : decode cX8_fail 6 = .ok (.invokevirtual 280, 3) := by decide +kernel
theorem dX8_fail_9 : decode cX8_fail 9 = .ok (.return_, 1) := by decide +kernel
theorem dX8_failAt_0 : decode cX8_failAt 0 = .ok (.aload_n 0, 1) := by decide +kernel
theorem dX8_failAt_1 : decode cX8_failAt 1 = .ok (.getfield 73, 3) := by decide +kernel
theorem dX8_failAt_4 : decode cX8_failAt 4 = .ok (.ifCond .ne 18, 3) := by decide +kernel
theorem dX8_failAt_7 : decode cX8_failAt 7 = .ok (.aload_n 0, 1) := by decide +kernel
theorem dX8_failAt_8 : decode cX8_failAt 8 = .ok (.iload_n 1, 1) := by decide +kernel
theorem dX8_failAt_9 : decode cX8_failAt 9 = .ok (.putfield 73, 3) := by decide +kernel
theorem dX8_failAt_12 : decode cX8_failAt 12 = .ok (.aload_n 0, 1) := by decide +kernel
theorem dX8_failAt_13 : decode cX8_failAt 13 = .ok (.iload_n 2, 1) := by decide +kernel
theorem dX8_failAt_14 : decode cX8_failAt 14 = .ok (.putfield 76, 3) := by decide +kernel
theorem dX8_failAt_17 : decode cX8_failAt 17 = .ok (.aload_n 0, 1) := by decide +kernel
theorem dX8_failAt_18 : decode cX8_failAt 18 = .ok (.iconst 5, 1) := by decide +kernel
theorem dX8_failAt_19 : decode cX8_failAt 19 = .ok (.putfield 267, 3) := by decide +kernel
theorem dX8_failAt_22 : decode cX8_failAt 22 = .ok (.return_, 1) := by decide +kernel
theorem dX11_run_0 : decode cX11_run 0 = .ok (.aload_n 0, 1) := by decide +kernel
theorem dX11_run_1 : decode cX11_run 1 = .ok (.getfield 90, 3) := by decide +kernel
theorem dX11_run_4 : decode cX11_run 4 = .ok (.istore_n 1, 1) := by decide +kernel
theorem dX11_run_5 : decode cX11_run 5 = .ok (.aload_n 0, 1) := by decide +kernel
theorem dX11_run_6 : decode cX11_run 6 = .ok (.iconst 0, 1) := by decide +kernel
theorem dX11_run_7 : decode cX11_run 7 = .ok (.putfield 90, 3) := by decide +kernel
theorem dX11_run_10 : decode cX11_run 10 = .ok (.aload_n 0, 1) := by decide +kernel
theorem dX11_run_11 : decode cX11_run 11 = .ok (.aconst_null, 1) := by decide +kernel
theorem dX11_run_12 : decode cX11_run 12 = .ok (.putfield 94, 3) := by decide +kernel
theorem dX11_run_15 : decode cX11_run 15 = .ok (.aload_n 0, 1) := by decide +kernel
theorem dX11_run_16 : decode cX11_run 16 = .ok (.iconst 0, 1) := by decide +kernel
theorem dX11_run_17 : decode cX11_run 17 = .ok (.putfield 98, 3) := by decide +kernel
theorem dX11_run_20 : decode cX11_run 20 = .ok (.aload_n 0, 1) := by decide +kernel
theorem dX11_run_21 : decode cX11_run 21 = .ok (.getfield 71, 3) := by decide +kernel
theorem dX11_run_24 : decode cX11_run 24 = .ok (.iconst 0, 1) := by decide +kernel
theorem dX11_run_25 : decode cX11_run 25 = .ok (.putfield 101, 3) := by decide +kernel
theorem dX11_run_28 : decode cX11_run 28 = .ok (.aload_n 0, 1) := by decide +kernel
theorem dX11_run_29 : decode cX11_run 29 = .ok (.getfield 19, 3) := by decide +kernel
theorem dX11_run_32 : decode cX11_run 32 = .ok (.invokevirtual 104, 3) := by decide +kernel
theorem dX11_run_35 : decode cX11_run 35 = .ok (.aload_n 0, 1) := by decide +kernel
theorem dX11_run_36 : decode cX11_run 36 = .ok (.getfield 62, 3) := by decide +kernel
theorem dX11_run_39 : decode cX11_run 39 = .ok (.iconst 0, 1) := by decide +kernel
theorem dX11_run_40 : decode cX11_run 40 = .ok (.iconst 0, 1) := by decide +kernel
theorem dX11_run_41 : decode cX11_run 41 = .ok (.iconst 0, 1) := by decide +kernel
theorem dX11_run_42 : decode cX11_run 42 = .ok (.invokevirtual 107, 3) := by decide +kernel
theorem dX11_run_45 : decode cX11_run 45 = .ok (.aload_n 0, 1) := by decide +kernel
theorem dX11_run_46 : decode cX11_run 46 = .ok (.getfield 44, 3) := by decide +kernel
theorem dX11_run_49 : decode cX11_run 49 = .ok (.iload_n 1, 1) := by decide +kernel
theorem dX11_run_50 : decode cX11_run 50 = .ok (.invokevirtual 111, 3) := by decide +kernel
theorem dX11_run_53 : decode cX11_run 53 = .ok (.aload_n 0, 1) := by decide +kernel
theorem dX11_run_54 : decode cX11_run 54 = .ok (.getfield 53, 3) := by decide +kernel
theorem dX11_run_57 : decode cX11_run 57 = .ok (.invokevirtual 115, 3) := by decide +kernel
theorem dX11_run_60 : decode cX11_run 60 = .ok (.astore_n 2, 1) := by decide +kernel
theorem dX11_run_61 : decode cX11_run 61 = .ok (.aload_n 0, 1) := by decide +kernel
theorem dX11_run_62 : decode cX11_run 62 = .ok (.aload_n 0, 1) := by decide +kernel
theorem dX11_run_63 : decode cX11_run 63 = .ok (.getfield 44, 3) := by decide +kernel
theorem dX11_run_66 : decode cX11_run 66 = .ok (.getfield 119, 3) := by decide +kernel
theorem dX11_run_69 : decode cX11_run 69 = .ok (.putfield 122, 3) := by decide +kernel
theorem dX11_run_72 : decode cX11_run 72 = .ok (.aload_n 0, 1) := by decide +kernel
theorem dX11_run_73 : decode cX11_run 73 = .ok (.getfield 122, 3) := by decide +kernel
theorem dX11_run_76 : decode cX11_run 76 = .ok (.ifCond .ne 8, 3) := by decide +kernel
theorem dX11_run_79 : decode cX11_run 79 = .ok (.aload_n 0, 1) := by decide +kernel
theorem dX11_run_80 : decode cX11_run 80 = .ok (.aload_n 2, 1) := by decide +kernel
theorem dX11_run_81 : decode cX11_run 81 = .ok (.invokevirtual 123, 3) := by decide +kernel
theorem dX11_run_84 : decode cX11_run 84 = .ok (.iconst 0, 1) := by decide +kernel
theorem dX11_run_85 : decode cX11_run 85 = .ok (.istore_n 3, 1) := by decide +kernel
theorem dX11_run_86 : decode cX11_run 86 = .ok (.aload_n 0, 1) := by decide +kernel
theorem dX11_run_87 : decode cX11_run 87 = .ok (.getfield 122, 3) := by decide +kernel
theorem dX11_run_90 : decode cX11_run 90 = .ok (.ifCond .ne 10, 3) := by decide +kernel
theorem dX11_run_93 : decode cX11_run 93 = .ok (.aload_n 2, 1) := by decide +kernel
theorem dX11_run_94 : decode cX11_run 94 = .ok (.getfield 127, 3) := by decide +kernel
theorem dX11_run_97 : decode cX11_run 97 = .ok (.goto 4, 3) := by decide +kernel
theorem dX11_run_100 : decode cX11_run 100 = .ok (.iconst 0, 1) := by decide +kernel
theorem dX11_run_101 : decode cX11_run 101 = .ok (.tableswitch 150 0 11 #[63, 66, 150, 150, 75, 94, 150, 150, 150, 103, 112, 124], 63) := by decide +kernel
theorem dX11_run_164 : decode cX11_run 164 = .ok (.goto 93, 3) := by decide +kernel
theorem dX11_run_167 : decode cX11_run 167 = .ok (.aload_n 0, 1) := by decide +kernel
theorem dX11_run_168 : decode cX11_run 168 = .ok (.aload_n 2, 1) := by decide +kernel
theorem dX11_run_169 : decode cX11_run 169 = .ok (.invokevirtual 132, 3) := by decide +kernel
theorem dX11_run_172 : decode cX11_run 172 = .ok (.istore_n 3, 1) := by decide +kernel
theorem dX11_run_173 : decode cX11_run 173 = .ok (.goto 84, 3) := by decide +kernel
theorem dX11_run_176 : decode cX11_run 176 = .ok (.aload_n 0, 1) := by decide +kernel
theorem dX11_run_177 : decode cX11_run 177 = .ok (.getfield 62, 3) := by decide +kernel
theorem dX11_run_180 : decode cX11_run 180 = .ok (.getfield 136, 3) := by decide +kernel
theorem dX11_run_183 : decode cX11_run 183 = .ok (.ifCond .le 7, 3) := by decide +kernel
theorem dX11_run_186 : decode cX11_run 186 = .ok (.iconst 1, 1) := by decide +kernel
theorem dX11_run_187 : decode cX11_run 187 = .ok (.goto 4, 3) := by decide +kernel
theorem dX11_run_190 : decode cX11_run 190 = .ok (.iconst 0, 1) := by decide +kernel
theorem dX11_run_191 : decode cX11_run 191 = .ok (.istore_n 3, 1) := by decide +kernel
theorem dX11_run_192 : decode cX11_run 192 = .ok (.goto 65, 3) := by decide +kernel
theorem dX11_run_195 : decode cX11_run 195 = .ok (.aload_n 0, 1) := by decide +kernel
theorem dX11_run_196 : decode cX11_run 196 = .ok (.aload_n 2, 1) := by decide +kernel
theorem dX11_run_197 : decode cX11_run 197 = .ok (.invokevirtual 139, 3) := by decide +kernel
theorem dX11_run_200 : decode cX11_run 200 = .ok (.istore_n 3, 1) := by decide +kernel
theorem dX11_run_201 : decode cX11_run 201 = .ok (.goto 56, 3) := by decide +kernel
theorem dX11_run_204 : decode cX11_run 204 = .ok (.aload_n 0, 1) := by decide +kernel
theorem dX11_run_205 : decode cX11_run 205 = .ok (.aload_n 2, 1) := by decide +kernel
theorem dX11_run_206 : decode cX11_run 206 = .ok (.invokevirtual 142, 3) := by decide +kernel
theorem dX11_run_209 : decode cX11_run 209 = .ok (.istore_n 3, 1) := by decide +kernel
theorem dX11_run_210 : decode cX11_run 210 = .ok (.goto 47, 3) := by decide +kernel
theorem dX11_run_213 : decode cX11_run 213 = .ok (.aload_n 0, 1) := by decide +kernel
theorem dX11_run_214 : decode cX11_run 214 = .ok (.aload_n 2, 1) := by decide +kernel
theorem dX11_run_215 : decode cX11_run 215 = .ok (.getfield 145, 3) := by decide +kernel
theorem dX11_run_218 : decode cX11_run 218 = .ok (.invokevirtual 148, 3) := by decide +kernel
theorem dX11_run_221 : decode cX11_run 221 = .ok (.istore_n 3, 1) := by decide +kernel
theorem dX11_run_222 : decode cX11_run 222 = .ok (.goto 35, 3) := by decide +kernel
theorem dX11_run_225 : decode cX11_run 225 = .ok (.aload_n 0, 1) := by decide +kernel
theorem dX11_run_226 : decode cX11_run 226 = .ok (.getfield 26, 3) := by decide +kernel
theorem dX11_run_229 : decode cX11_run 229 = .ok (.getfield 152, 3) := by decide +kernel
theorem dX11_run_232 : decode cX11_run 232 = .ok (.istore_n 3, 1) := by decide +kernel
theorem dX11_run_233 : decode cX11_run 233 = .ok (.aload_n 0, 1) := by decide +kernel
theorem dX11_run_234 : decode cX11_run 234 = .ok (.getfield 26, 3) := by decide +kernel
theorem dX11_run_237 : decode cX11_run 237 = .ok (.invokevirtual 155, 3) := by decide +kernel
theorem dX11_run_240 : decode cX11_run 240 = .ok (.aload_n 0, 1) := by decide +kernel
theorem dX11_run_241 : decode cX11_run 241 = .ok (.getfield 35, 3) := by decide +kernel
theorem dX11_run_244 : decode cX11_run 244 = .ok (.iconst 0, 1) := by decide +kernel
theorem dX11_run_245 : decode cX11_run 245 = .ok (.putfield 158, 3) := by decide +kernel
theorem dX11_run_248 : decode cX11_run 248 = .ok (.goto 9, 3) := by decide +kernel
theorem dX11_run_251 : decode cX11_run 251 = .ok (.aload_n 0, 1) := by decide +kernel
theorem dX11_run_252 : decode cX11_run 252 = .ok (.aload_n 2, 1) := by decide +kernel
theorem dX11_run_253 : decode cX11_run 253 = .ok (.invokevirtual 161, 3) := by decide +kernel
theorem dX11_run_256 : decode cX11_run 256 = .ok (.istore_n 3, 1) := by decide +kernel
theorem dX11_run_257 : decode cX11_run 257 = .ok (.aload_n 0, 1) := by decide +kernel
theorem dX11_run_258 : decode cX11_run 258 = .ok (.iload_n 1, 1) := by decide +kernel
theorem dX11_run_259 : decode cX11_run 259 = .ok (.invokevirtual 164, 3) := by decide +kernel
theorem dX11_run_262 : decode cX11_run 262 = .ok (.aload_n 0, 1) := by decide +kernel
theorem dX11_run_263 : decode cX11_run 263 = .ok (.getfield 122, 3) := by decide +kernel
theorem dX11_run_266 : decode cX11_run 266 = .ok (.ifCond .ne 7, 3) := by decide +kernel
theorem dX11_run_269 : decode cX11_run 269 = .ok (.iload_n 3, 1) := by decide +kernel
theorem dX11_run_270 : decode cX11_run 270 = .ok (.goto 10, 3) := by decide +kernel
theorem dX11_run_273 : decode cX11_run 273 = .ok (.bipush (-100), 2) := by decide +kernel
theorem dX11_run_275 : decode cX11_run 275 = .ok (.aload_n 0, 1) := by decide +kernel
theorem dX11_run_276 : decode cX11_run 276 = .ok (.getfield 122, 3) := by decide +kernel
theorem dX11_run_279 : decode cX11_run 279 = .ok (.isub, 1) := by decide +kernel
theorem dX11_run_280 : decode cX11_run 280 = .ok (.ireturn, 1) := by decide +kernel
theorem dX11_account_0 : decode cX11_account 0 = .ok (.aload_n 0, 1) := by decide +kernel
theorem dX11_account_1 : decode cX11_account 1 = .ok (.iconst 0, 1) := by decide +kernel
theorem dX11_account_2 : decode cX11_account 2 = .ok (.putfield 190, 3) := by decide +kernel
theorem dX11_account_5 : decode cX11_account 5 = .ok (.aload_n 0, 1) := by decide +kernel
theorem dX11_account_6 : decode cX11_account 6 = .ok (.iconst 0, 1) := by decide +kernel
theorem dX11_account_7 : decode cX11_account 7 = .ok (.putfield 167, 3) := by decide +kernel
theorem dX11_account_10 : decode cX11_account 10 = .ok (.aload_n 0, 1) := by decide +kernel
theorem dX11_account_11 : decode cX11_account 11 = .ok (.getfield 44, 3) := by decide +kernel
theorem dX11_account_14 : decode cX11_account 14 = .ok (.getfield 119, 3) := by decide +kernel
theorem dX11_account_17 : decode cX11_account 17 = .ok (.ifCond .eq 17, 3) := by decide +kernel
theorem dX11_account_20 : decode cX11_account 20 = .ok (.aload_n 0, 1) := by decide +kernel
theorem dX11_account_21 : decode cX11_account 21 = .ok (.aload_n 0, 1) := by decide +kernel
theorem dX11_account_22 : decode cX11_account 22 = .ok (.getfield 44, 3) := by decide +kernel
theorem dX11_account_25 : decode cX11_account 25 = .ok (.getfield 228, 3) := by decide +kernel
theorem dX11_account_28 : decode cX11_account 28 = .ok (.putfield 167, 3) := by decide +kernel
theorem dX11_account_31 : decode cX11_account 31 = .ok (.goto 83, 3) := by decide +kernel
theorem dX11_account_34 : decode cX11_account 34 = .ok (.aload_n 0, 1) := by decide +kernel
theorem dX11_account_35 : decode cX11_account 35 = .ok (.getfield 122, 3) := by decide +kernel
theorem dX11_account_38 : decode cX11_account 38 = .ok (.iconst 5, 1) := by decide +kernel
theorem dX11_account_39 : decode cX11_account 39 = .ok (.if_icmp .ne 36, 3) := by decide +kernel
theorem dX11_account_42 : decode cX11_account 42 = .ok (.aload_n 0, 1) := by decide +kernel
theorem dX11_account_43 : decode cX11_account 43 = .ok (.sipush 8000, 3) := by decide +kernel
theorem dX11_account_46 : decode cX11_account 46 = .ok (.putfield 190, 3) := by decide +kernel
theorem dX11_account_49 : decode cX11_account 49 = .ok (.aload_n 0, 1) := by decide +kernel
theorem dX11_account_50 : decode cX11_account 50 = .ok (.dup, 1) := by decide +kernel
theorem dX11_account_51 : decode cX11_account 51 = .ok (.getfield 231, 3) := by decide +kernel
theorem dX11_account_54 : decode cX11_account 54 = .ok (.sipush 8000, 3) := by decide +kernel
theorem dX11_account_57 : decode cX11_account 57 = .ok (.sipush 20000, 3) := by decide +kernel
theorem dX11_account_60 : decode cX11_account 60 = .ok (.aload_n 0, 1) := by decide +kernel
theorem dX11_account_61 : decode cX11_account 61 = .ok (.getfield 231, 3) := by decide +kernel
theorem dX11_account_64 : decode cX11_account 64 = .ok (.isub, 1) := by decide +kernel
theorem dX11_account_65 : decode cX11_account 65 = .ok (.invokestatic 234, 3) := by decide +kernel
theorem dX11_account_68 : decode cX11_account 68 = .ok (.iadd, 1) := by decide +kernel
theorem dX11_account_69 : decode cX11_account 69 = .ok (.putfield 231, 3) := by decide +kernel
theorem dX11_account_72 : decode cX11_account 72 = .ok (.goto 42, 3) := by decide +kernel
theorem dX11_account_75 : decode cX11_account 75 = .ok (.aload_n 0, 1) := by decide +kernel
theorem dX11_account_76 : decode cX11_account 76 = .ok (.dup, 1) := by decide +kernel
theorem dX11_account_77 : decode cX11_account 77 = .ok (.getfield 231, 3) := by decide +kernel
theorem dX11_account_80 : decode cX11_account 80 = .ok (.aload_n 0, 1) := by decide +kernel
theorem dX11_account_81 : decode cX11_account 81 = .ok (.getfield 62, 3) := by decide +kernel
theorem dX11_account_84 : decode cX11_account 84 = .ok (.getfield 239, 3) := by decide +kernel
theorem dX11_account_87 : decode cX11_account 87 = .ok (.iadd, 1) := by decide +kernel
theorem dX11_account_88 : decode cX11_account 88 = .ok (.putfield 231, 3) := by decide +kernel
theorem dX11_account_91 : decode cX11_account 91 = .ok (.aload_n 0, 1) := by decide +kernel
theorem dX11_account_92 : decode cX11_account 92 = .ok (.getfield 122, 3) := by decide +kernel
theorem dX11_account_95 : decode cX11_account 95 = .ok (.ifCond .ne 19, 3) := by decide +kernel
theorem dX11_account_98 : decode cX11_account 98 = .ok (.aload_n 0, 1) := by decide +kernel
theorem dX11_account_99 : decode cX11_account 99 = .ok (.aload_n 0, 1) := by decide +kernel
theorem dX11_account_100 : decode cX11_account 100 = .ok (.getfield 62, 3) := by decide +kernel
theorem dX11_account_103 : decode cX11_account 103 = .ok (.getfield 239, 3) := by decide +kernel
theorem dX11_account_106 : decode cX11_account 106 = .ok (.putfield 190, 3) := by decide +kernel
theorem dX11_account_109 : decode cX11_account 109 = .ok (.aload_n 0, 1) := by decide +kernel
theorem dX11_account_110 : decode cX11_account 110 = .ok (.iload_n 1, 1) := by decide +kernel
theorem dX11_account_111 : decode cX11_account 111 = .ok (.putfield 167, 3) := by decide +kernel
theorem dX11_account_114 : decode cX11_account 114 = .ok (.aload_n 0, 1) := by decide +kernel
theorem dX11_account_115 : decode cX11_account 115 = .ok (.getfield 122, 3) := by decide +kernel
theorem dX11_account_118 : decode cX11_account 118 = .ok (.ifCond .eq 13, 3) := by decide +kernel
theorem dX11_account_121 : decode cX11_account 121 = .ok (.aload_n 0, 1) := by decide +kernel
theorem dX11_account_122 : decode cX11_account 122 = .ok (.aconst_null, 1) := by decide +kernel
theorem dX11_account_123 : decode cX11_account 123 = .ok (.putfield 94, 3) := by decide +kernel
theorem dX11_account_126 : decode cX11_account 126 = .ok (.aload_n 0, 1) := by decide +kernel
theorem dX11_account_127 : decode cX11_account 127 = .ok (.iconst 0, 1) := by decide +kernel
theorem dX11_account_128 : decode cX11_account 128 = .ok (.putfield 98, 3) := by decide +kernel
theorem dX11_account_131 : decode cX11_account 131 = .ok (.aload_n 0, 1) := by decide +kernel
theorem dX11_account_132 : decode cX11_account 132 = .ok (.getfield 122, 3) := by decide +kernel
theorem dX11_account_135 : decode cX11_account 135 = .ok (.ifCond .eq 19, 3) := by decide +kernel
theorem dX11_account_138 : decode cX11_account 138 = .ok (.aload_n 0, 1) := by decide +kernel
theorem dX11_account_139 : decode cX11_account 139 = .ok (.getfield 122, 3) := by decide +kernel
theorem dX11_account_142 : decode cX11_account 142 = .ok (.iconst 5, 1) := by decide +kernel
theorem dX11_account_143 : decode cX11_account 143 = .ok (.if_icmp .eq 11, 3) := by decide +kernel
theorem dX11_account_146 : decode cX11_account 146 = .ok (.aload_n 0, 1) := by decide +kernel
theorem dX11_account_147 : decode cX11_account 147 = .ok (.getfield 71, 3) := by decide +kernel
theorem dX11_account_150 : decode cX11_account 150 = .ok (.iconst 0, 1) := by decide +kernel
theorem dX11_account_151 : decode cX11_account 151 = .ok (.putfield 101, 3) := by decide +kernel
theorem dX11_account_154 : decode cX11_account 154 = .ok (.return_, 1) := by decide +kernel
