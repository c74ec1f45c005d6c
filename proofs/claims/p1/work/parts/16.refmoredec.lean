theorem dX17_beginning_0 : decode cX17_beginning 0 = .ok (.iconst 0, 1) := by decide +kernel
theorem dX17_beginning_1 : decode cX17_beginning 1 = .ok (.istore 6, 2) := by decide +kernel
theorem dX17_beginning_3 : decode cX17_beginning 3 = .ok (.iconst 0, 1) := by decide +kernel
theorem dX17_beginning_4 : decode cX17_beginning 4 = .ok (.istore 7, 2) := by decide +kernel
theorem dX17_beginning_6 : decode cX17_beginning 6 = .ok (.iload 7, 2) := by decide +kernel
theorem dX17_beginning_8 : decode cX17_beginning 8 = .ok (.aload_n 0, 1) := by decide +kernel
theorem dX17_beginning_9 : decode cX17_beginning 9 = .ok (.getfield 59, 3) := by decide +kernel
theorem dX17_beginning_12 : decode cX17_beginning 12 = .ok (.if_icmp .ge 84, 3) := by decide +kernel
theorem dX17_beginning_15 : decode cX17_beginning 15 = .ok (.iload_n 2, 1) := by decide +kernel
theorem dX17_beginning_16 : decode cX17_beginning 16 = .ok (.iconst 1, 1) := by decide +kernel
theorem dX17_beginning_17 : decode cX17_beginning 17 = .ok (.if_icmp .lt 15, 3) := by decide +kernel
theorem dX17_beginning_20 : decode cX17_beginning 20 = .ok (.aload_n 0, 1) := by decide +kernel
theorem dX17_beginning_21 : decode cX17_beginning 21 = .ok (.iload_n 1, 1) := by decide +kernel
theorem dX17_beginning_22 : decode cX17_beginning 22 = .ok (.iload 7, 2) := by decide +kernel
theorem dX17_beginning_24 : decode cX17_beginning 24 = .ok (.iconst 0, 1) := by decide +kernel
theorem dX17_beginning_25 : decode cX17_beginning 25 = .ok (.invokevirtual 119, 3) := by decide +kernel
theorem dX17_beginning_28 : decode cX17_beginning 28 = .ok (.iload_n 3, 1) := by decide +kernel
theorem dX17_beginning_29 : decode cX17_beginning 29 = .ok (.if_icmp .ne 43, 3) := by decide +kernel
theorem dX17_beginning_32 : decode cX17_beginning 32 = .ok (.iload_n 2, 1) := by decide +kernel
theorem dX17_beginning_33 : decode cX17_beginning 33 = .ok (.iconst 2, 1) := by decide +kernel
theorem dX17_beginning_34 : decode cX17_beginning 34 = .ok (.if_icmp .lt 16, 3) := by decide +kernel
theorem dX17_beginning_37 : decode cX17_beginning 37 = .ok (.aload_n 0, 1) := by decide +kernel
theorem dX17_beginning_38 : decode cX17_beginning 38 = .ok (.iload_n 1, 1) := by decide +kernel
theorem dX17_beginning_39 : decode cX17_beginning 39 = .ok (.iload 7, 2) := by decide +kernel
theorem dX17_beginning_41 : decode cX17_beginning 41 = .ok (.iconst 1, 1) := by decide +kernel
theorem dX17_beginning_42 : decode cX17_beginning 42 = .ok (.invokevirtual 119, 3) := by decide +kernel
theorem dX17_beginning_45 : decode cX17_beginning 45 = .ok (.iload 4, 2) := by decide +kernel
theorem dX17_beginning_47 : decode cX17_beginning 47 = .ok (.if_icmp .ne 25, 3) := by decide +kernel
theorem dX17_beginning_50 : decode cX17_beginning 50 = .ok (.iload_n 2, 1) := by decide +kernel
theorem dX17_beginning_51 : decode cX17_beginning 51 = .ok (.iconst 3, 1) := by decide +kernel
theorem dX17_beginning_52 : decode cX17_beginning 52 = .ok (.if_icmp .lt 16, 3) := by decide +kernel
theorem dX17_beginning_55 : decode cX17_beginning 55 = .ok (.aload_n 0, 1) := by decide +kernel
theorem dX17_beginning_56 : decode cX17_beginning 56 = .ok (.iload_n 1, 1) := by decide +kernel
theorem dX17_beginning_57 : decode cX17_beginning 57 = .ok (.iload 7, 2) := by decide +kernel
theorem dX17_beginning_59 : decode cX17_beginning 59 = .ok (.iconst 2, 1) := by decide +kernel
theorem dX17_beginning_60 : decode cX17_beginning 60 = .ok (.invokevirtual 119, 3) := by decide +kernel
theorem dX17_beginning_63 : decode cX17_beginning 63 = .ok (.iload 5, 2) := by decide +kernel
theorem dX17_beginning_65 : decode cX17_beginning 65 = .ok (.if_icmp .ne 7, 3) := by decide +kernel
theorem dX17_beginning_68 : decode cX17_beginning 68 = .ok (.iconst 1, 1) := by decide +kernel
theorem dX17_beginning_69 : decode cX17_beginning 69 = .ok (.goto 4, 3) := by decide +kernel
theorem dX17_beginning_72 : decode cX17_beginning 72 = .ok (.iconst 0, 1) := by decide +kernel
theorem dX17_beginning_73 : decode cX17_beginning 73 = .ok (.istore 8, 2) := by decide +kernel
theorem dX17_beginning_75 : decode cX17_beginning 75 = .ok (.iload 6, 2) := by decide +kernel
theorem dX17_beginning_77 : decode cX17_beginning 77 = .ok (.iload 8, 2) := by decide +kernel
theorem dX17_beginning_79 : decode cX17_beginning 79 = .ok (.ifCond .eq 7, 3) := by decide +kernel
theorem dX17_beginning_82 : decode cX17_beginning 82 = .ok (.iconst 1, 1) := by decide +kernel
theorem dX17_beginning_83 : decode cX17_beginning 83 = .ok (.goto 4, 3) := by decide +kernel
theorem dX17_beginning_86 : decode cX17_beginning 86 = .ok (.iconst 0, 1) := by decide +kernel
theorem dX17_beginning_87 : decode cX17_beginning 87 = .ok (.iadd, 1) := by decide +kernel
theorem dX17_beginning_88 : decode cX17_beginning 88 = .ok (.istore 6, 2) := by decide +kernel
theorem dX17_beginning_90 : decode cX17_beginning 90 = .ok (.iinc 7 1, 3) := by decide +kernel
theorem dX17_beginning_93 : decode cX17_beginning 93 = .ok (.goto (-87), 3) := by decide +kernel
theorem dX17_beginning_96 : decode cX17_beginning 96 = .ok (.iload 6, 2) := by decide +kernel
theorem dX17_beginning_98 : decode cX17_beginning 98 = .ok (.ireturn, 1) := by decide +kernel
theorem dX20_type_0 : decode cX20_type 0 = .ok (.iload_n 3, 1) := by decide +kernel
theorem dX20_type_1 : decode cX20_type 1 = .ok (.iconst 1, 1) := by decide +kernel
theorem dX20_type_2 : decode cX20_type 2 = .ok (.if_icmp .lt 9, 3) := by decide +kernel
theorem dX20_type_5 : decode cX20_type 5 = .ok (.iload_n 3, 1) := by decide +kernel
theorem dX20_type_6 : decode cX20_type 6 = .ok (.bipush 8, 2) := by decide +kernel
theorem dX20_type_8 : decode cX20_type 8 = .ok (.if_icmp .le 5, 3) := by decide +kernel
theorem dX20_type_11 : decode cX20_type 11 = .ok (.iconst (-1), 1) := by decide +kernel
theorem dX20_type_12 : decode cX20_type 12 = .ok (.ireturn, 1) := by decide +kernel
theorem dX20_type_13 : decode cX20_type 13 = .ok (.aload_n 0, 1) := by decide +kernel
theorem dX20_type_14 : decode cX20_type 14 = .ok (.getfield 28, 3) := by decide +kernel
theorem dX20_type_17 : decode cX20_type 17 = .ok (.getfield 112, 3) := by decide +kernel
theorem dX20_type_20 : decode cX20_type 20 = .ok (.iload_n 3, 1) := by decide +kernel
theorem dX20_type_21 : decode cX20_type 21 = .ok (.iadd, 1) := by decide +kernel
theorem dX20_type_22 : decode cX20_type 22 = .ok (.sipush 4000, 3) := by decide +kernel
theorem dX20_type_25 : decode cX20_type 25 = .ok (.if_icmp .le 6, 3) := by decide +kernel
theorem dX20_type_28 : decode cX20_type 28 = .ok (.bipush (-2), 2) := by decide +kernel
theorem dX20_type_30 : decode cX20_type 30 = .ok (.ireturn, 1) := by decide +kernel
theorem dX20_type_31 : decode cX20_type 31 = .ok (.iload_n 3, 1) := by decide +kernel
theorem dX20_type_32 : decode cX20_type 32 = .ok (.iconst 1, 1) := by decide +kernel
theorem dX20_type_33 : decode cX20_type 33 = .ok (.isub, 1) := by decide +kernel
theorem dX20_type_34 : decode cX20_type 34 = .ok (.istore 4, 2) := by decide +kernel
theorem dX20_type_36 : decode cX20_type 36 = .ok (.iload 4, 2) := by decide +kernel
theorem dX20_type_38 : decode cX20_type 38 = .ok (.ifCond .lt 46, 3) := by decide +kernel
theorem dX20_type_41 : decode cX20_type 41 = .ok (.aload_n 0, 1) := by decide +kernel
theorem dX20_type_42 : decode cX20_type 42 = .ok (.getfield 28, 3) := by decide +kernel
theorem dX20_type_45 : decode cX20_type 45 = .ok (.getfield 116, 3) := by decide +kernel
theorem dX20_type_48 : decode cX20_type 48 = .ok (.aload_n 0, 1) := by decide +kernel
theorem dX20_type_49 : decode cX20_type 49 = .ok (.getfield 28, 3) := by decide +kernel
theorem dX20_type_52 : decode cX20_type 52 = .ok (.getfield 112, 3) := by decide +kernel
theorem dX20_type_55 : decode cX20_type 55 = .ok (.lload_n 1, 1) := by decide +kernel
theorem dX20_type_56 : decode cX20_type 56 = .ok (.bipush 8, 2) := by decide +kernel
theorem dX20_type_58 : decode cX20_type 58 = .ok (.iload 4, 2) := by decide +kernel
theorem dX20_type_60 : decode cX20_type 60 = .ok (.imul, 1) := by decide +kernel
theorem dX20_type_61 : decode cX20_type 61 = .ok (.lshr, 1) := by decide +kernel
theorem dX20_type_62 : decode cX20_type 62 = .ok (.l2i, 1) := by decide +kernel
theorem dX20_type_63 : decode cX20_type 63 = .ok (.i2b, 1) := by decide +kernel
theorem dX20_type_64 : decode cX20_type 64 = .ok (.bastore, 1) := by decide +kernel
theorem dX20_type_65 : decode cX20_type 65 = .ok (.aload_n 0, 1) := by decide +kernel
theorem dX20_type_66 : decode cX20_type 66 = .ok (.getfield 28, 3) := by decide +kernel
theorem dX20_type_69 : decode cX20_type 69 = .ok (.dup, 1) := by decide +kernel
theorem dX20_type_70 : decode cX20_type 70 = .ok (.getfield 112, 3) := by decide +kernel
theorem dX20_type_73 : decode cX20_type 73 = .ok (.iconst 1, 1) := by decide +kernel
theorem dX20_type_74 : decode cX20_type 74 = .ok (.iadd, 1) := by decide +kernel
theorem dX20_type_75 : decode cX20_type 75 = .ok (.putfield 112, 3) := by decide +kernel
theorem dX20_type_78 : decode cX20_type 78 = .ok (.iinc 4 (-1), 3) := by decide +kernel
theorem dX20_type_81 : decode cX20_type 81 = .ok (.goto (-45), 3) := by decide +kernel
theorem dX20_type_84 : decode cX20_type 84 = .ok (.aload_n 0, 1) := by decide +kernel
theorem dX20_type_85 : decode cX20_type 85 = .ok (.getfield 28, 3) := by decide +kernel
theorem dX20_type_88 : decode cX20_type 88 = .ok (.getfield 112, 3) := by decide +kernel
theorem dX20_type_91 : decode cX20_type 91 = .ok (.ireturn, 1) := by decide +kernel
theorem dX20_wipe_0 : decode cX20_wipe 0 = .ok (.aload_n 0, 1) := by decide +kernel
theorem dX20_wipe_1 : decode cX20_wipe 1 = .ok (.getfield 28, 3) := by decide +kernel
theorem dX20_wipe_4 : decode cX20_wipe 4 = .ok (.getfield 112, 3) := by decide +kernel
theorem dX20_wipe_7 : decode cX20_wipe 7 = .ok (.istore_n 1, 1) := by decide +kernel
theorem dX20_wipe_8 : decode cX20_wipe 8 = .ok (.aload_n 0, 1) := by decide +kernel
theorem dX20_wipe_9 : decode cX20_wipe 9 = .ok (.getfield 28, 3) := by decide +kernel
theorem dX20_wipe_12 : decode cX20_wipe 12 = .ok (.iconst 0, 1) := by decide +kernel
theorem dX20_wipe_13 : decode cX20_wipe 13 = .ok (.putfield 112, 3) := by decide +kernel
theorem dX20_wipe_16 : decode cX20_wipe 16 = .ok (.iload_n 1, 1) := by decide +kernel
theorem dX20_wipe_17 : decode cX20_wipe 17 = .ok (.ireturn, 1) := by decide +kernel
theorem dX20_place_0 : decode cX20_place 0 = .ok (.aload_n 0, 1) := by decide +kernel
theorem dX20_place_1 : decode cX20_place 1 = .ok (.getfield 119, 3) := by decide +kernel
theorem dX20_place_4 : decode cX20_place 4 = .ok (.ireturn, 1) := by decide +kernel
theorem dX20_rows_0 : decode cX20_rows 0 = .ok (.aload_n 0, 1) := by decide +kernel
theorem dX20_rows_1 : decode cX20_rows 1 = .ok (.getfield 122, 3) := by decide +kernel
theorem dX20_rows_4 : decode cX20_rows 4 = .ok (.ireturn, 1) := by decide +kernel
theorem dX20_columns_0 : decode cX20_columns 0 = .ok (.aload_n 0, 1) := by decide +kernel
theorem dX20_columns_1 : decode cX20_columns 1 = .ok (.getfield 125, 3) := by decide +kernel
theorem dX20_columns_4 : decode cX20_columns 4 = .ok (.ireturn, 1) := by decide +kernel
theorem dX20_cell_0 : decode cX20_cell 0 = .ok (.iload_n 1, 1) := by decide +kernel
theorem dX20_cell_1 : decode cX20_cell 1 = .ok (.ifCond .lt 23, 3) := by decide +kernel
theorem dX20_cell_4 : decode cX20_cell 4 = .ok (.iload_n 1, 1) := by decide +kernel
theorem dX20_cell_5 : decode cX20_cell 5 = .ok (.aload_n 0, 1) := by decide +kernel
theorem dX20_cell_6 : decode cX20_cell 6 = .ok (.getfield 122, 3) := by decide +kernel
theorem dX20_cell_9 : decode cX20_cell 9 = .ok (.if_icmp .ge 15, 3) := by decide +kernel
theorem dX20_cell_12 : decode cX20_cell 12 = .ok (.iload_n 2, 1) := by decide +kernel
theorem dX20_cell_13 : decode cX20_cell 13 = .ok (.ifCond .lt 11, 3) := by decide +kernel
theorem dX20_cell_16 : decode cX20_cell 16 = .ok (.iload_n 2, 1) := by decide +kernel
theorem dX20_cell_17 : decode cX20_cell 17 = .ok (.aload_n 0, 1) := by decide +kernel
theorem dX20_cell_18 : decode cX20_cell 18 = .ok (.getfield 125, 3) := by decide +kernel
theorem dX20_cell_21 : decode cX20_cell 21 = .ok (.if_icmp .lt 5, 3) := by decide +kernel
theorem dX20_cell_24 : decode cX20_cell 24 = .ok (.iconst (-1), 1) := by decide +kernel
theorem dX20_cell_25 : decode cX20_cell 25 = .ok (.ireturn, 1) := by decide +kernel
theorem dX20_cell_26 : decode cX20_cell 26 = .ok (.aload_n 0, 1) := by decide +kernel
theorem dX20_cell_27 : decode cX20_cell 27 = .ok (.getfield 74, 3) := by decide +kernel
theorem dX20_cell_30 : decode cX20_cell 30 = .ok (.aload_n 0, 1) := by decide +kernel
theorem dX20_cell_31 : decode cX20_cell 31 = .ok (.getfield 125, 3) := by decide +kernel
theorem dX20_cell_34 : decode cX20_cell 34 = .ok (.iload_n 1, 1) := by decide +kernel
theorem dX20_cell_35 : decode cX20_cell 35 = .ok (.imul, 1) := by decide +kernel
theorem dX20_cell_36 : decode cX20_cell 36 = .ok (.iload_n 2, 1) := by decide +kernel
theorem dX20_cell_37 : decode cX20_cell 37 = .ok (.iadd, 1) := by decide +kernel
theorem dX20_cell_38 : decode cX20_cell 38 = .ok (.iaload, 1) := by decide +kernel
theorem dX20_cell_39 : decode cX20_cell 39 = .ok (.istore_n 3, 1) := by decide +kernel
theorem dX20_cell_40 : decode cX20_cell 40 = .ok (.aload_n 0, 1) := by decide +kernel
theorem dX20_cell_41 : decode cX20_cell 41 = .ok (.getfield 10, 3) := by decide +kernel
theorem dX20_cell_44 : decode cX20_cell 44 = .ok (.iconst 0, 1) := by decide +kernel
theorem dX20_cell_45 : decode cX20_cell 45 = .ok (.putfield 349, 3) := by decide +kernel
theorem dX20_cell_48 : decode cX20_cell 48 = .ok (.iload_n 3, 1) := by decide +kernel
theorem dX20_cell_49 : decode cX20_cell 49 = .ok (.ifCond .eq 11, 3) := by decide +kernel
theorem dX20_cell_52 : decode cX20_cell 52 = .ok (.aload_n 0, 1) := by decide +kernel
theorem dX20_cell_53 : decode cX20_cell 53 = .ok (.getfield 10, 3) := by decide +kernel
theorem dX20_cell_56 : decode cX20_cell 56 = .ok (.iload_n 3, 1) := by decide +kernel
theorem dX20_cell_57 : decode cX20_cell 57 = .ok (.invokevirtual 358, 3) := by decide +kernel
theorem dX20_cell_60 : decode cX20_cell 60 = .ok (.aload_n 0, 1) := by decide +kernel
theorem dX20_cell_61 : decode cX20_cell 61 = .ok (.invokevirtual 361, 3) := by decide +kernel
theorem dX20_cell_64 : decode cX20_cell 64 = .ok (.ireturn, 1) := by decide +kernel
theorem dX20_column_0 : decode cX20_column 0 = .ok (.iload_n 1, 1) := by decide +kernel
theorem dX20_column_1 : decode cX20_column 1 = .ok (.ifCond .lt 11, 3) := by decide +kernel
theorem dX20_column_4 : decode cX20_column 4 = .ok (.iload_n 1, 1) := by decide +kernel
theorem dX20_column_5 : decode cX20_column 5 = .ok (.aload_n 0, 1) := by decide +kernel
theorem dX20_column_6 : decode cX20_column 6 = .ok (.getfield 125, 3) := by decide +kernel
theorem dX20_column_9 : decode cX20_column 9 = .ok (.if_icmp .lt 5, 3) := by decide +kernel
theorem dX20_column_12 : decode cX20_column 12 = .ok (.iconst (-1), 1) := by decide +kernel
theorem dX20_column_13 : decode cX20_column 13 = .ok (.ireturn, 1) := by decide +kernel
theorem dX20_column_14 : decode cX20_column 14 = .ok (.aload_n 0, 1) := by decide +kernel
theorem dX20_column_15 : decode cX20_column 15 = .ok (.getfield 10, 3) := by decide +kernel
theorem dX20_column_18 : decode cX20_column 18 = .ok (.iconst 0, 1) := by decide +kernel
theorem dX20_column_19 : decode cX20_column 19 = .ok (.putfield 349, 3) := by decide +kernel
theorem dX20_column_22 : decode cX20_column 22 = .ok (.aload_n 0, 1) := by decide +kernel
theorem dX20_column_23 : decode cX20_column 23 = .ok (.getfield 82, 3) := by decide +kernel
theorem dX20_column_26 : decode cX20_column 26 = .ok (.iload_n 1, 1) := by decide +kernel
theorem dX20_column_27 : decode cX20_column 27 = .ok (.iaload, 1) := by decide +kernel
theorem dX20_column_28 : decode cX20_column 28 = .ok (.istore_n 2, 1) := by decide +kernel
theorem dX20_column_29 : decode cX20_column 29 = .ok (.iload_n 2, 1) := by decide +kernel
theorem dX20_column_30 : decode cX20_column 30 = .ok (.aload_n 0, 1) := by decide +kernel
theorem dX20_column_31 : decode cX20_column 31 = .ok (.getfield 82, 3) := by decide +kernel
theorem dX20_column_34 : decode cX20_column 34 = .ok (.iload_n 1, 1) := by decide +kernel
theorem dX20_column_35 : decode cX20_column 35 = .ok (.iconst 1, 1) := by decide +kernel
theorem dX20_column_36 : decode cX20_column 36 = .ok (.iadd, 1) := by decide +kernel
theorem dX20_column_37 : decode cX20_column 37 = .ok (.iaload, 1) := by decide +kernel
theorem dX20_column_38 : decode cX20_column 38 = .ok (.if_icmp .ge 22, 3) := by decide +kernel
theorem dX20_column_41 : decode cX20_column 41 = .ok (.aload_n 0, 1) := by decide +kernel
theorem dX20_column_42 : decode cX20_column 42 = .ok (.getfield 10, 3) := by decide +kernel
theorem dX20_column_45 : decode cX20_column 45 = .ok (.aload_n 0, 1) := by decide +kernel
theorem dX20_column_46 : decode cX20_column 46 = .ok (.getfield 78, 3) := by decide +kernel
theorem dX20_column_49 : decode cX20_column 49 = .ok (.iload_n 2, 1) := by decide +kernel
theorem dX20_column_50 : decode cX20_column 50 = .ok (.baload, 1) := by decide +kernel
theorem dX20_column_51 : decode cX20_column 51 = .ok (.invokevirtual 364, 3) := by decide +kernel
theorem dX20_column_54 : decode cX20_column 54 = .ok (.iinc 2 1, 3) := by decide +kernel
theorem dX20_column_57 : decode cX20_column 57 = .ok (.goto (-28), 3) := by decide +kernel
theorem dX20_column_60 : decode cX20_column 60 = .ok (.aload_n 0, 1) := by decide +kernel
theorem dX20_column_61 : decode cX20_column 61 = .ok (.invokevirtual 361, 3) := by decide +kernel
theorem dX20_column_64 : decode cX20_column 64 = .ok (.ireturn, 1) := by decide +kernel
theorem dX20_written_0 : decode cX20_written 0 = .ok (.iload_n 1, 1) := by decide +kernel
theorem dX20_written_1 : decode cX20_written 1 = .ok (.ifCond .lt 24, 3) := by decide +kernel
theorem dX20_written_4 : decode cX20_written 4 = .ok (.iload_n 1, 1) := by decide +kernel
theorem dX20_written_5 : decode cX20_written 5 = .ok (.aload_n 0, 1) := by decide +kernel
theorem dX20_written_6 : decode cX20_written 6 = .ok (.getfield 352, 3) := by decide +kernel
theorem dX20_written_9 : decode cX20_written 9 = .ok (.if_icmp .ge 16, 3) := by decide +kernel
theorem dX20_written_12 : decode cX20_written 12 = .ok (.aload_n 0, 1) := by decide +kernel
theorem dX20_written_13 : decode cX20_written 13 = .ok (.getfield 109, 3) := by decide +kernel
theorem dX20_written_16 : decode cX20_written 16 = .ok (.iload_n 1, 1) := by decide +kernel
theorem dX20_written_17 : decode cX20_written 17 = .ok (.baload, 1) := by decide +kernel
theorem dX20_written_18 : decode cX20_written 18 = .ok (.sipush 255, 3) := by decide +kernel
theorem dX20_written_21 : decode cX20_written 21 = .ok (.iand, 1) := by decide +kernel
theorem dX20_written_22 : decode cX20_written 22 = .ok (.goto 4, 3) := by decide +kernel
theorem dX20_written_25 : decode cX20_written 25 = .ok (.iconst (-1), 1) := by decide +kernel
theorem dX20_written_26 : decode cX20_written 26 = .ok (.ireturn, 1) := by decide +kernel
theorem dX20_made_0 : decode cX20_made 0 = .ok (.aload_n 0, 1) := by decide +kernel
theorem dX20_made_1 : decode cX20_made 1 = .ok (.getfield 128, 3) := by decide +kernel
theorem dX20_made_4 : decode cX20_made 4 = .ok (.ireturn, 1) := by decide +kernel
theorem dX20_plan_0 : decode cX20_plan 0 = .ok (.iload_n 1, 1) := by decide +kernel
theorem dX20_plan_1 : decode cX20_plan 1 = .ok (.ifCond .lt 20, 3) := by decide +kernel
theorem dX20_plan_4 : decode cX20_plan 4 = .ok (.iload_n 1, 1) := by decide +kernel
theorem dX20_plan_5 : decode cX20_plan 5 = .ok (.aload_n 0, 1) := by decide +kernel
theorem dX20_plan_6 : decode cX20_plan 6 = .ok (.getfield 131, 3) := by decide +kernel
theorem dX20_plan_9 : decode cX20_plan 9 = .ok (.if_icmp .ge 12, 3) := by decide +kernel
theorem dX20_plan_12 : decode cX20_plan 12 = .ok (.aload_n 0, 1) := by decide +kernel
theorem dX20_plan_13 : decode cX20_plan 13 = .ok (.getfield 85, 3) := by decide +kernel
theorem dX20_plan_16 : decode cX20_plan 16 = .ok (.iload_n 1, 1) := by decide +kernel
theorem dX20_plan_17 : decode cX20_plan 17 = .ok (.iaload, 1) := by decide +kernel
theorem dX20_plan_18 : decode cX20_plan 18 = .ok (.goto 4, 3) := by decide +kernel
theorem dX20_plan_21 : decode cX20_plan 21 = .ok (.iconst (-1), 1) := by decide +kernel
theorem dX20_plan_22 : decode cX20_plan 22 = .ok (.ireturn, 1) := by decide +kernel
theorem dX20_triples_0 : decode cX20_triples 0 = .ok (.aload_n 0, 1) := by decide +kernel
theorem dX20_triples_1 : decode cX20_triples 1 = .ok (.getfield 42, 3) := by decide +kernel
theorem dX20_triples_4 : decode cX20_triples 4 = .ok (.getfield 367, 3) := by decide +kernel
theorem dX20_triples_7 : decode cX20_triples 7 = .ok (.ireturn, 1) := by decide +kernel
theorem dX20_said_0 : decode cX20_said 0 = .ok (.aload_n 0, 1) := by decide +kernel
theorem dX20_said_1 : decode cX20_said 1 = .ok (.getfield 42, 3) := by decide +kernel
theorem dX20_said_4 : decode cX20_said 4 = .ok (.getfield 230, 3) := by decide +kernel
theorem dX20_said_7 : decode cX20_said 7 = .ok (.ireturn, 1) := by decide +kernel
theorem dX20_terms_0 : decode cX20_terms 0 = .ok (.aload_n 0, 1) := by decide +kernel
theorem dX20_terms_1 : decode cX20_terms 1 = .ok (.getfield 10, 3) := by decide +kernel
theorem dX20_terms_4 : decode cX20_terms 4 = .ok (.getfield 295, 3) := by decide +kernel
theorem dX20_terms_7 : decode cX20_terms 7 = .ok (.ireturn, 1) := by decide +kernel
theorem dX20_rules_0 : decode cX20_rules 0 = .ok (.aload_n 0, 1) := by decide +kernel
theorem dX20_rules_1 : decode cX20_rules 1 = .ok (.getfield 42, 3) := by decide +kernel
theorem dX20_rules_4 : decode cX20_rules 4 = .ok (.getfield 220, 3) := by decide +kernel
theorem dX20_rules_7 : decode cX20_rules 7 = .ok (.ireturn, 1) := by decide +kernel
theorem dX20_term_0 : decode cX20_term 0 = .ok (.iload_n 1, 1) := by decide +kernel
theorem dX20_term_1 : decode cX20_term 1 = .ok (.iconst 1, 1) := by decide +kernel
theorem dX20_term_2 : decode cX20_term 2 = .ok (.if_icmp .lt 14, 3) := by decide +kernel
theorem dX20_term_5 : decode cX20_term 5 = .ok (.iload_n 1, 1) := by decide +kernel
theorem dX20_term_6 : decode cX20_term 6 = .ok (.aload_n 0, 1) := by decide +kernel
theorem dX20_term_7 : decode cX20_term 7 = .ok (.getfield 10, 3) := by decide +kernel
theorem dX20_term_10 : decode cX20_term 10 = .ok (.getfield 295, 3) := by decide +kernel
theorem dX20_term_13 : decode cX20_term 13 = .ok (.if_icmp .le 5, 3) := by decide +kernel
theorem dX20_term_16 : decode cX20_term 16 = .ok (.iconst (-1), 1) := by decide +kernel
theorem dX20_term_17 : decode cX20_term 17 = .ok (.ireturn, 1) := by decide +kernel
theorem dX20_term_18 : decode cX20_term 18 = .ok (.aload_n 0, 1) := by decide +kernel
theorem dX20_term_19 : decode cX20_term 19 = .ok (.getfield 10, 3) := by decide +kernel
theorem dX20_term_22 : decode cX20_term 22 = .ok (.iload_n 1, 1) := by decide +kernel
theorem dX20_term_23 : decode cX20_term 23 = .ok (.invokevirtual 358, 3) := by decide +kernel
theorem dX20_term_26 : decode cX20_term 26 = .ok (.aload_n 0, 1) := by decide +kernel
theorem dX20_term_27 : decode cX20_term 27 = .ok (.invokevirtual 361, 3) := by decide +kernel
theorem dX20_term_30 : decode cX20_term 30 = .ok (.ireturn, 1) := by decide +kernel
theorem dX20_find_0 : decode cX20_find 0 = .ok (.iload_n 1, 1) := by decide +kernel
theorem dX20_find_1 : decode cX20_find 1 = .ok (.ifCond .lt 32, 3) := by decide +kernel
theorem dX20_find_4 : decode cX20_find 4 = .ok (.iload_n 1, 1) := by decide +kernel
theorem dX20_find_5 : decode cX20_find 5 = .ok (.iconst 5, 1) := by decide +kernel
theorem dX20_find_6 : decode cX20_find 6 = .ok (.if_icmp .gt 27, 3) := by decide +kernel
theorem dX20_find_9 : decode cX20_find 9 = .ok (.iload_n 2, 1) := by decide +kernel
theorem dX20_find_10 : decode cX20_find 10 = .ok (.ifCond .lt 23, 3) := by decide +kernel
theorem dX20_find_13 : decode cX20_find 13 = .ok (.iload_n 2, 1) := by decide +kernel
theorem dX20_find_14 : decode cX20_find 14 = .ok (.aload_n 0, 1) := by decide +kernel
theorem dX20_find_15 : decode cX20_find 15 = .ok (.getfield 42, 3) := by decide +kernel
theorem dX20_find_18 : decode cX20_find 18 = .ok (.getfield 367, 3) := by decide +kernel
theorem dX20_find_21 : decode cX20_find 21 = .ok (.if_icmp .ge 12, 3) := by decide +kernel
theorem dX20_find_24 : decode cX20_find 24 = .ok (.iload_n 3, 1) := by decide +kernel
theorem dX20_find_25 : decode cX20_find 25 = .ok (.ifCond .lt 8, 3) := by decide +kernel
theorem dX20_find_28 : decode cX20_find 28 = .ok (.iload_n 3, 1) := by decide +kernel
theorem dX20_find_29 : decode cX20_find 29 = .ok (.iconst 3, 1) := by decide +kernel
theorem dX20_find_30 : decode cX20_find 30 = .ok (.if_icmp .le 5, 3) := by decide +kernel
theorem dX20_find_33 : decode cX20_find 33 = .ok (.iconst (-1), 1) := by decide +kernel
theorem dX20_find_34 : decode cX20_find 34 = .ok (.ireturn, 1) := by decide +kernel
theorem dX20_find_35 : decode cX20_find 35 = .ok (.aload_n 0, 1) := by decide +kernel
theorem dX20_find_36 : decode cX20_find 36 = .ok (.getfield 42, 3) := by decide +kernel
theorem dX20_find_39 : decode cX20_find 39 = .ok (.iload_n 1, 1) := by decide +kernel
theorem dX20_find_40 : decode cX20_find 40 = .ok (.iload_n 2, 1) := by decide +kernel
theorem dX20_find_41 : decode cX20_find 41 = .ok (.invokevirtual 369, 3) := by decide +kernel
theorem dX20_find_44 : decode cX20_find 44 = .ok (.istore 4, 2) := by decide +kernel
theorem dX20_find_46 : decode cX20_find 46 = .ok (.iload_n 3, 1) := by decide +kernel
theorem dX20_find_47 : decode cX20_find 47 = .ok (.iconst 3, 1) := by decide +kernel
theorem dX20_find_48 : decode cX20_find 48 = .ok (.if_icmp .ge 18, 3) := by decide +kernel
theorem dX20_find_51 : decode cX20_find 51 = .ok (.aload_n 0, 1) := by decide +kernel
theorem dX20_find_52 : decode cX20_find 52 = .ok (.getfield 42, 3) := by decide +kernel
theorem dX20_find_55 : decode cX20_find 55 = .ok (.getfield 371, 3) := by decide +kernel
theorem dX20_find_58 : decode cX20_find 58 = .ok (.iconst 3, 1) := by decide +kernel
theorem dX20_find_59 : decode cX20_find 59 = .ok (.iload 4, 2) := by decide +kernel
theorem dX20_find_61 : decode cX20_find 61 = .ok (.imul, 1) := by decide +kernel
theorem dX20_find_62 : decode cX20_find 62 = .ok (.iload_n 3, 1) := by decide +kernel
theorem dX20_find_63 : decode cX20_find 63 = .ok (.iadd, 1) := by decide +kernel
theorem dX20_find_64 : decode cX20_find 64 = .ok (.iaload, 1) := by decide +kernel
theorem dX20_find_65 : decode cX20_find 65 = .ok (.ireturn, 1) := by decide +kernel
theorem dX20_find_66 : decode cX20_find 66 = .ok (.aload_n 0, 1) := by decide +kernel
theorem dX20_find_67 : decode cX20_find 67 = .ok (.getfield 42, 3) := by decide +kernel
theorem dX20_find_70 : decode cX20_find 70 = .ok (.aload_n 0, 1) := by decide +kernel
theorem dX20_find_71 : decode cX20_find 71 = .ok (.getfield 42, 3) := by decide +kernel
theorem dX20_find_74 : decode cX20_find 74 = .ok (.getfield 371, 3) := by decide +kernel
theorem dX20_find_77 : decode cX20_find 77 = .ok (.iconst 3, 1) := by decide +kernel
theorem dX20_find_78 : decode cX20_find 78 = .ok (.iload 4, 2) := by decide +kernel
theorem dX20_find_80 : decode cX20_find 80 = .ok (.imul, 1) := by decide +kernel
theorem dX20_find_81 : decode cX20_find 81 = .ok (.iaload, 1) := by decide +kernel
theorem dX20_find_82 : decode cX20_find 82 = .ok (.aload_n 0, 1) := by decide +kernel
theorem dX20_find_83 : decode cX20_find 83 = .ok (.getfield 42, 3) := by decide +kernel
theorem dX20_find_86 : decode cX20_find 86 = .ok (.getfield 371, 3) := by decide +kernel
theorem dX20_find_89 : decode cX20_find 89 = .ok (.iconst 3, 1) := by decide +kernel
theorem dX20_find_90 : decode cX20_find 90 = .ok (.iload 4, 2) := by decide +kernel
theorem dX20_find_92 : decode cX20_find 92 = .ok (.imul, 1) := by decide +kernel
theorem dX20_find_93 : decode cX20_find 93 = .ok (.iconst 1, 1) := by decide +kernel
theorem dX20_find_94 : decode cX20_find 94 = .ok (.iadd, 1) := by decide +kernel
theorem dX20_find_95 : decode cX20_find 95 = .ok (.iaload, 1) := by decide +kernel
theorem dX20_find_96 : decode cX20_find 96 = .ok (.aload_n 0, 1) := by decide +kernel
theorem dX20_find_97 : decode cX20_find 97 = .ok (.getfield 42, 3) := by decide +kernel
theorem dX20_find_100 : decode cX20_find 100 = .ok (.getfield 371, 3) := by decide +kernel
theorem dX20_find_103 : decode cX20_find 103 = .ok (.iconst 3, 1) := by decide +kernel
theorem dX20_find_104 : decode cX20_find 104 = .ok (.iload 4, 2) := by decide +kernel
theorem dX20_find_106 : decode cX20_find 106 = .ok (.imul, 1) := by decide +kernel
theorem dX20_find_107 : decode cX20_find 107 = .ok (.iconst 2, 1) := by decide +kernel
theorem dX20_find_108 : decode cX20_find 108 = .ok (.iadd, 1) := by decide +kernel
theorem dX20_find_109 : decode cX20_find 109 = .ok (.iaload, 1) := by decide +kernel
theorem dX20_find_110 : decode cX20_find 110 = .ok (.invokevirtual 322, 3) := by decide +kernel
theorem dX20_find_113 : decode cX20_find 113 = .ok (.ifCond .lt 7, 3) := by decide +kernel
theorem dX20_find_116 : decode cX20_find 116 = .ok (.iconst 1, 1) := by decide +kernel
theorem dX20_find_117 : decode cX20_find 117 = .ok (.goto 4, 3) := by decide +kernel
theorem dX20_find_120 : decode cX20_find 120 = .ok (.iconst 0, 1) := by decide +kernel
theorem dX20_find_121 : decode cX20_find 121 = .ok (.ireturn, 1) := by decide +kernel
theorem dX20_count_0 : decode cX20_count 0 = .ok (.iload_n 1, 1) := by decide +kernel
theorem dX20_count_1 : decode cX20_count 1 = .ok (.ifCond .lt 17, 3) := by decide +kernel
theorem dX20_count_4 : decode cX20_count 4 = .ok (.iload_n 1, 1) := by decide +kernel
theorem dX20_count_5 : decode cX20_count 5 = .ok (.iconst 5, 1) := by decide +kernel
theorem dX20_count_6 : decode cX20_count 6 = .ok (.if_icmp .gt 12, 3) := by decide +kernel
theorem dX20_count_9 : decode cX20_count 9 = .ok (.iload_n 2, 1) := by decide +kernel
theorem dX20_count_10 : decode cX20_count 10 = .ok (.ifCond .lt 8, 3) := by decide +kernel
theorem dX20_count_13 : decode cX20_count 13 = .ok (.iload_n 2, 1) := by decide +kernel
theorem dX20_count_14 : decode cX20_count 14 = .ok (.iconst 3, 1) := by decide +kernel
theorem dX20_count_15 : decode cX20_count 15 = .ok (.if_icmp .le 5, 3) := by decide +kernel
theorem dX20_count_18 : decode cX20_count 18 = .ok (.iconst (-1), 1) := by decide +kernel
theorem dX20_count_19 : decode cX20_count 19 = .ok (.ireturn, 1) := by decide +kernel
theorem dX20_count_20 : decode cX20_count 20 = .ok (.aload_n 0, 1) := by decide +kernel
theorem dX20_count_21 : decode cX20_count 21 = .ok (.getfield 42, 3) := by decide +kernel
theorem dX20_count_24 : decode cX20_count 24 = .ok (.iload_n 1, 1) := by decide +kernel
theorem dX20_count_25 : decode cX20_count 25 = .ok (.iload_n 2, 1) := by decide +kernel
theorem dX20_count_26 : decode cX20_count 26 = .ok (.iload_n 3, 1) := by decide +kernel
theorem dX20_count_27 : decode cX20_count 27 = .ok (.iload 4, 2) := by decide +kernel
theorem dX20_count_29 : decode cX20_count 29 = .ok (.iload 5, 2) := by decide +kernel
theorem dX20_count_31 : decode cX20_count 31 = .ok (.invokevirtual 374, 3) := by decide +kernel
theorem dX20_count_34 : decode cX20_count 34 = .ok (.ireturn, 1) := by decide +kernel
