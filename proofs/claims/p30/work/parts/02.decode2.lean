theorem dX8_inRange_0 : decode cX8_inRange 0 = .ok (.iload_n 1, 1) := by decide +kernel
theorem dX8_inRange_1 : decode cX8_inRange 1 = .ok (.iload_n 0, 1) := by decide +kernel
theorem dX8_inRange_2 : decode cX8_inRange 2 = .ok (.if_icmp .gt 12, 3) := by decide +kernel
theorem dX8_inRange_5 : decode cX8_inRange 5 = .ok (.iload_n 0, 1) := by decide +kernel
theorem dX8_inRange_6 : decode cX8_inRange 6 = .ok (.iload_n 2, 1) := by decide +kernel
theorem dX8_inRange_7 : decode cX8_inRange 7 = .ok (.if_icmp .gt 7, 3) := by decide +kernel
theorem dX8_inRange_10 : decode cX8_inRange 10 = .ok (.iconst 1, 1) := by decide +kernel
theorem dX8_inRange_11 : decode cX8_inRange 11 = .ok (.goto 4, 3) := by decide +kernel
theorem dX8_inRange_14 : decode cX8_inRange 14 = .ok (.iconst 0, 1) := by decide +kernel
theorem dX8_inRange_15 : decode cX8_inRange 15 = .ok (.ireturn, 1) := by decide +kernel
theorem dL_cell_0 : decode cL_cell 0 = .ok (.iload_n 1, 1) := by decide +kernel
theorem dL_cell_1 : decode cL_cell 1 = .ok (.aload_n 0, 1) := by decide +kernel
theorem dL_cell_2 : decode cL_cell 2 = .ok (.arraylength, 1) := by decide +kernel
theorem dL_cell_3 : decode cL_cell 3 = .ok (.if_icmp .ge 9, 3) := by decide +kernel
theorem dL_cell_6 : decode cL_cell 6 = .ok (.aload_n 0, 1) := by decide +kernel
theorem dL_cell_7 : decode cL_cell 7 = .ok (.iload_n 1, 1) := by decide +kernel
theorem dL_cell_8 : decode cL_cell 8 = .ok (.iaload, 1) := by decide +kernel
theorem dL_cell_9 : decode cL_cell 9 = .ok (.goto 12, 3) := by decide +kernel
theorem dL_cell_12 : decode cL_cell 12 = .ok (.ldc 7, 2) := by decide +kernel
theorem dL_cell_14 : decode cL_cell 14 = .ok (.iload_n 1, 1) := by decide +kernel
theorem dL_cell_15 : decode cL_cell 15 = .ok (.iconst 1, 1) := by decide +kernel
theorem dL_cell_16 : decode cL_cell 16 = .ok (.iadd, 1) := by decide +kernel
theorem dL_cell_17 : decode cL_cell 17 = .ok (.imul, 1) := by decide +kernel
theorem dL_cell_18 : decode cL_cell 18 = .ok (.ldc 8, 2) := by decide +kernel
theorem dL_cell_20 : decode cL_cell 20 = .ok (.iadd, 1) := by decide +kernel
theorem dL_cell_21 : decode cL_cell 21 = .ok (.ireturn, 1) := by decide +kernel
theorem dL_low_0 : decode cL_low 0 = .ok (.iload_n 0, 1) := by decide +kernel
theorem dL_low_1 : decode cL_low 1 = .ok (.ldc 9, 2) := by decide +kernel
theorem dL_low_3 : decode cL_low 3 = .ok (.iand, 1) := by decide +kernel
theorem dL_low_4 : decode cL_low 4 = .ok (.iload_n 1, 1) := by decide +kernel
theorem dL_low_5 : decode cL_low 5 = .ok (.irem, 1) := by decide +kernel
theorem dL_low_6 : decode cL_low 6 = .ok (.ireturn, 1) := by decide +kernel
theorem dL_move_0 : decode cL_move 0 = .ok (.aload_n 0, 1) := by decide +kernel
theorem dL_move_1 : decode cL_move 1 = .ok (.iload_n 1, 1) := by decide +kernel
theorem dL_move_2 : decode cL_move 2 = .ok (.iload_n 2, 1) := by decide +kernel
theorem dL_move_3 : decode cL_move 3 = .ok (.iload_n 3, 1) := by decide +kernel
theorem dL_move_4 : decode cL_move 4 = .ok (.iload 4, 2) := by decide +kernel
theorem dL_move_6 : decode cL_move 6 = .ok (.invokevirtual 10, 3) := by decide +kernel
theorem dL_move_9 : decode cL_move 9 = .ok (.ireturn, 1) := by decide +kernel
theorem dL_move_10 : decode cL_move 10 = .ok (.astore 5, 2) := by decide +kernel
theorem dL_move_12 : decode cL_move 12 = .ok (.iconst (-1), 1) := by decide +kernel
theorem dL_move_13 : decode cL_move 13 = .ok (.ireturn, 1) := by decide +kernel
theorem dL_move_14 : decode cL_move 14 = .ok (.astore 5, 2) := by decide +kernel
theorem dL_move_16 : decode cL_move 16 = .ok (.bipush (-2), 2) := by decide +kernel
theorem dL_move_18 : decode cL_move 18 = .ok (.ireturn, 1) := by decide +kernel
theorem dL_insert_0 : decode cL_insert 0 = .ok (.aload_n 0, 1) := by decide +kernel
theorem dL_insert_1 : decode cL_insert 1 = .ok (.iload_n 1, 1) := by decide +kernel
theorem dL_insert_2 : decode cL_insert 2 = .ok (.iload_n 2, 1) := by decide +kernel
theorem dL_insert_3 : decode cL_insert 3 = .ok (.iload_n 3, 1) := by decide +kernel
theorem dL_insert_4 : decode cL_insert 4 = .ok (.iload 4, 2) := by decide +kernel
theorem dL_insert_6 : decode cL_insert 6 = .ok (.invokevirtual 20, 3) := by decide +kernel
theorem dL_insert_9 : decode cL_insert 9 = .ok (.ireturn, 1) := by decide +kernel
theorem dL_insert_10 : decode cL_insert 10 = .ok (.astore 5, 2) := by decide +kernel
theorem dL_insert_12 : decode cL_insert 12 = .ok (.iconst (-1), 1) := by decide +kernel
theorem dL_insert_13 : decode cL_insert 13 = .ok (.ireturn, 1) := by decide +kernel
theorem dL_insert_14 : decode cL_insert 14 = .ok (.astore 5, 2) := by decide +kernel
theorem dL_insert_16 : decode cL_insert 16 = .ok (.bipush (-2), 2) := by decide +kernel
theorem dL_insert_18 : decode cL_insert 18 = .ok (.ireturn, 1) := by decide +kernel
theorem dL_remove_0 : decode cL_remove 0 = .ok (.aload_n 0, 1) := by decide +kernel
theorem dL_remove_1 : decode cL_remove 1 = .ok (.iload_n 1, 1) := by decide +kernel
theorem dL_remove_2 : decode cL_remove 2 = .ok (.iload_n 2, 1) := by decide +kernel
theorem dL_remove_3 : decode cL_remove 3 = .ok (.invokevirtual 23, 3) := by decide +kernel
theorem dL_remove_6 : decode cL_remove 6 = .ok (.ireturn, 1) := by decide +kernel
theorem dL_remove_7 : decode cL_remove 7 = .ok (.astore_n 3, 1) := by decide +kernel
theorem dL_remove_8 : decode cL_remove 8 = .ok (.iconst (-1), 1) := by decide +kernel
theorem dL_remove_9 : decode cL_remove 9 = .ok (.ireturn, 1) := by decide +kernel
theorem dL_remove_10 : decode cL_remove 10 = .ok (.astore_n 3, 1) := by decide +kernel
theorem dL_remove_11 : decode cL_remove 11 = .ok (.bipush (-2), 2) := by decide +kernel
theorem dL_remove_13 : decode cL_remove 13 = .ok (.ireturn, 1) := by decide +kernel
theorem dL_addHole_0 : decode cL_addHole 0 = .ok (.aload_n 0, 1) := by decide +kernel
theorem dL_addHole_1 : decode cL_addHole 1 = .ok (.iload_n 1, 1) := by decide +kernel
theorem dL_addHole_2 : decode cL_addHole 2 = .ok (.iload_n 2, 1) := by decide +kernel
theorem dL_addHole_3 : decode cL_addHole 3 = .ok (.invokevirtual 27, 3) := by decide +kernel
theorem dL_addHole_6 : decode cL_addHole 6 = .ok (.ireturn, 1) := by decide +kernel
theorem dL_addHole_7 : decode cL_addHole 7 = .ok (.astore_n 3, 1) := by decide +kernel
theorem dL_addHole_8 : decode cL_addHole 8 = .ok (.iconst (-1), 1) := by decide +kernel
theorem dL_addHole_9 : decode cL_addHole 9 = .ok (.ireturn, 1) := by decide +kernel
theorem dL_addHole_10 : decode cL_addHole 10 = .ok (.astore_n 3, 1) := by decide +kernel
theorem dL_addHole_11 : decode cL_addHole 11 = .ok (.bipush (-2), 2) := by decide +kernel
theorem dL_addHole_13 : decode cL_addHole 13 = .ok (.ireturn, 1) := by decide +kernel
theorem dL_next_0 : decode cL_next 0 = .ok (.iload_n 0, 1) := by decide +kernel
theorem dL_next_1 : decode cL_next 1 = .ok (.bipush 10, 2) := by decide +kernel
theorem dL_next_3 : decode cL_next 3 = .ok (.irem, 1) := by decide +kernel
theorem dL_next_4 : decode cL_next 4 = .ok (.iconst 1, 1) := by decide +kernel
theorem dL_next_5 : decode cL_next 5 = .ok (.iadd, 1) := by decide +kernel
theorem dL_next_6 : decode cL_next 6 = .ok (.aload_n 1, 1) := by decide +kernel
theorem dL_next_7 : decode cL_next 7 = .ok (.iconst 1, 1) := by decide +kernel
theorem dL_next_8 : decode cL_next 8 = .ok (.iload_n 0, 1) := by decide +kernel
theorem dL_next_9 : decode cL_next 9 = .ok (.bipush 10, 2) := by decide +kernel
theorem dL_next_11 : decode cL_next 11 = .ok (.idiv, 1) := by decide +kernel
theorem dL_next_12 : decode cL_next 12 = .ok (.iadd, 1) := by decide +kernel
theorem dL_next_13 : decode cL_next 13 = .ok (.iaload, 1) := by decide +kernel
theorem dL_next_14 : decode cL_next 14 = .ok (.if_icmp .ne 12, 3) := by decide +kernel
theorem dL_next_17 : decode cL_next 17 = .ok (.iload_n 0, 1) := by decide +kernel
theorem dL_next_18 : decode cL_next 18 = .ok (.iload_n 0, 1) := by decide +kernel
theorem dL_next_19 : decode cL_next 19 = .ok (.bipush 10, 2) := by decide +kernel
theorem dL_next_21 : decode cL_next 21 = .ok (.irem, 1) := by decide +kernel
theorem dL_next_22 : decode cL_next 22 = .ok (.isub, 1) := by decide +kernel
theorem dL_next_23 : decode cL_next 23 = .ok (.goto 6, 3) := by decide +kernel
theorem dL_next_26 : decode cL_next 26 = .ok (.iload_n 0, 1) := by decide +kernel
theorem dL_next_27 : decode cL_next 27 = .ok (.iconst 1, 1) := by decide +kernel
theorem dL_next_28 : decode cL_next 28 = .ok (.iadd, 1) := by decide +kernel
theorem dL_next_29 : decode cL_next 29 = .ok (.ireturn, 1) := by decide +kernel
theorem dL_before_0 : decode cL_before 0 = .ok (.iload_n 0, 1) := by decide +kernel
theorem dL_before_1 : decode cL_before 1 = .ok (.bipush 10, 2) := by decide +kernel
theorem dL_before_3 : decode cL_before 3 = .ok (.irem, 1) := by decide +kernel
theorem dL_before_4 : decode cL_before 4 = .ok (.ifCond .ne 18, 3) := by decide +kernel
theorem dL_before_7 : decode cL_before 7 = .ok (.iload_n 0, 1) := by decide +kernel
theorem dL_before_8 : decode cL_before 8 = .ok (.aload_n 1, 1) := by decide +kernel
theorem dL_before_9 : decode cL_before 9 = .ok (.iconst 1, 1) := by decide +kernel
theorem dL_before_10 : decode cL_before 10 = .ok (.iload_n 0, 1) := by decide +kernel
theorem dL_before_11 : decode cL_before 11 = .ok (.bipush 10, 2) := by decide +kernel
theorem dL_before_13 : decode cL_before 13 = .ok (.idiv, 1) := by decide +kernel
theorem dL_before_14 : decode cL_before 14 = .ok (.iadd, 1) := by decide +kernel
theorem dL_before_15 : decode cL_before 15 = .ok (.iaload, 1) := by decide +kernel
theorem dL_before_16 : decode cL_before 16 = .ok (.iadd, 1) := by decide +kernel
theorem dL_before_17 : decode cL_before 17 = .ok (.iconst 1, 1) := by decide +kernel
theorem dL_before_18 : decode cL_before 18 = .ok (.isub, 1) := by decide +kernel
theorem dL_before_19 : decode cL_before 19 = .ok (.goto 6, 3) := by decide +kernel
theorem dL_before_22 : decode cL_before 22 = .ok (.iload_n 0, 1) := by decide +kernel
theorem dL_before_23 : decode cL_before 23 = .ok (.iconst 1, 1) := by decide +kernel
theorem dL_before_24 : decode cL_before 24 = .ok (.isub, 1) := by decide +kernel
theorem dL_before_25 : decode cL_before 25 = .ok (.ireturn, 1) := by decide +kernel
theorem dL_there_0 : decode cL_there 0 = .ok (.iload_n 0, 1) := by decide +kernel
theorem dL_there_1 : decode cL_there 1 = .ok (.bipush 10, 2) := by decide +kernel
theorem dL_there_3 : decode cL_there 3 = .ok (.idiv, 1) := by decide +kernel
theorem dL_there_4 : decode cL_there 4 = .ok (.aload_n 1, 1) := by decide +kernel
theorem dL_there_5 : decode cL_there 5 = .ok (.iconst 0, 1) := by decide +kernel
theorem dL_there_6 : decode cL_there 6 = .ok (.iaload, 1) := by decide +kernel
theorem dL_there_7 : decode cL_there 7 = .ok (.if_icmp .ge 22, 3) := by decide +kernel
theorem dL_there_10 : decode cL_there 10 = .ok (.iload_n 0, 1) := by decide +kernel
theorem dL_there_11 : decode cL_there 11 = .ok (.bipush 10, 2) := by decide +kernel
theorem dL_there_13 : decode cL_there 13 = .ok (.irem, 1) := by decide +kernel
theorem dL_there_14 : decode cL_there 14 = .ok (.aload_n 1, 1) := by decide +kernel
theorem dL_there_15 : decode cL_there 15 = .ok (.iconst 1, 1) := by decide +kernel
theorem dL_there_16 : decode cL_there 16 = .ok (.iload_n 0, 1) := by decide +kernel
theorem dL_there_17 : decode cL_there 17 = .ok (.bipush 10, 2) := by decide +kernel
theorem dL_there_19 : decode cL_there 19 = .ok (.idiv, 1) := by decide +kernel
theorem dL_there_20 : decode cL_there 20 = .ok (.iadd, 1) := by decide +kernel
theorem dL_there_21 : decode cL_there 21 = .ok (.iaload, 1) := by decide +kernel
theorem dL_there_22 : decode cL_there 22 = .ok (.if_icmp .ge 7, 3) := by decide +kernel
theorem dL_there_25 : decode cL_there 25 = .ok (.iconst 1, 1) := by decide +kernel
theorem dL_there_26 : decode cL_there 26 = .ok (.goto 4, 3) := by decide +kernel
theorem dL_there_29 : decode cL_there 29 = .ok (.iconst 0, 1) := by decide +kernel
theorem dL_there_30 : decode cL_there 30 = .ok (.ireturn, 1) := by decide +kernel
theorem dL_cross_0 : decode cL_cross 0 = .ok (.iload_n 0, 1) := by decide +kernel
theorem dL_cross_1 : decode cL_cross 1 = .ok (.iload_n 3, 1) := by decide +kernel
theorem dL_cross_2 : decode cL_cross 2 = .ok (.imul, 1) := by decide +kernel
theorem dL_cross_3 : decode cL_cross 3 = .ok (.iload_n 1, 1) := by decide +kernel
theorem dL_cross_4 : decode cL_cross 4 = .ok (.iload_n 2, 1) := by decide +kernel
theorem dL_cross_5 : decode cL_cross 5 = .ok (.imul, 1) := by decide +kernel
theorem dL_cross_6 : decode cL_cross 6 = .ok (.isub, 1) := by decide +kernel
theorem dL_cross_7 : decode cL_cross 7 = .ok (.ireturn, 1) := by decide +kernel
theorem dL_common_0 : decode cL_common 0 = .ok (.iload_n 2, 1) := by decide +kernel
theorem dL_common_1 : decode cL_common 1 = .ok (.iload_n 3, 1) := by decide +kernel
theorem dL_common_2 : decode cL_common 2 = .ok (.iload 6, 2) := by decide +kernel
theorem dL_common_4 : decode cL_common 4 = .ok (.iload 7, 2) := by decide +kernel
theorem dL_common_6 : decode cL_common 6 = .ok (.invokestatic 32, 3) := by decide +kernel
theorem dL_common_9 : decode cL_common 9 = .ok (.istore 8, 2) := by decide +kernel
theorem dL_common_11 : decode cL_common 11 = .ok (.iload 4, 2) := by decide +kernel
theorem dL_common_13 : decode cL_common 13 = .ok (.iload_n 0, 1) := by decide +kernel
theorem dL_common_14 : decode cL_common 14 = .ok (.isub, 1) := by decide +kernel
theorem dL_common_15 : decode cL_common 15 = .ok (.iload 5, 2) := by decide +kernel
theorem dL_common_17 : decode cL_common 17 = .ok (.iload_n 1, 1) := by decide +kernel
theorem dL_common_18 : decode cL_common 18 = .ok (.isub, 1) := by decide +kernel
theorem dL_common_19 : decode cL_common 19 = .ok (.iload 6, 2) := by decide +kernel
theorem dL_common_21 : decode cL_common 21 = .ok (.iload 7, 2) := by decide +kernel
theorem dL_common_23 : decode cL_common 23 = .ok (.invokestatic 32, 3) := by decide +kernel
theorem dL_common_26 : decode cL_common 26 = .ok (.istore 9, 2) := by decide +kernel
theorem dL_common_28 : decode cL_common 28 = .ok (.iload 4, 2) := by decide +kernel
theorem dL_common_30 : decode cL_common 30 = .ok (.iload_n 0, 1) := by decide +kernel
theorem dL_common_31 : decode cL_common 31 = .ok (.isub, 1) := by decide +kernel
theorem dL_common_32 : decode cL_common 32 = .ok (.iload 5, 2) := by decide +kernel
theorem dL_common_34 : decode cL_common 34 = .ok (.iload_n 1, 1) := by decide +kernel
theorem dL_common_35 : decode cL_common 35 = .ok (.isub, 1) := by decide +kernel
theorem dL_common_36 : decode cL_common 36 = .ok (.iload_n 2, 1) := by decide +kernel
theorem dL_common_37 : decode cL_common 37 = .ok (.iload_n 3, 1) := by decide +kernel
theorem dL_common_38 : decode cL_common 38 = .ok (.invokestatic 32, 3) := by decide +kernel
theorem dL_common_41 : decode cL_common 41 = .ok (.istore 10, 2) := by decide +kernel
theorem dL_common_43 : decode cL_common 43 = .ok (.iload 8, 2) := by decide +kernel
theorem dL_common_45 : decode cL_common 45 = .ok (.ifCond .eq 92, 3) := by decide +kernel
theorem dL_common_48 : decode cL_common 48 = .ok (.iload 8, 2) := by decide +kernel
theorem dL_common_50 : decode cL_common 50 = .ok (.ifCond .ge 7, 3) := by decide +kernel
theorem dL_common_53 : decode cL_common 53 = .ok (.iconst (-1), 1) := by decide +kernel
theorem dL_common_54 : decode cL_common 54 = .ok (.goto 4, 3) := by decide +kernel
theorem dL_common_57 : decode cL_common 57 = .ok (.iconst 1, 1) := by decide +kernel
theorem dL_common_58 : decode cL_common 58 = .ok (.istore 11, 2) := by decide +kernel
theorem dL_common_60 : decode cL_common 60 = .ok (.iload 9, 2) := by decide +kernel
theorem dL_common_62 : decode cL_common 62 = .ok (.iload 11, 2) := by decide +kernel
theorem dL_common_64 : decode cL_common 64 = .ok (.imul, 1) := by decide +kernel
theorem dL_common_65 : decode cL_common 65 = .ok (.istore 9, 2) := by decide +kernel
theorem dL_common_67 : decode cL_common 67 = .ok (.iload 10, 2) := by decide +kernel
theorem dL_common_69 : decode cL_common 69 = .ok (.iload 11, 2) := by decide +kernel
theorem dL_common_71 : decode cL_common 71 = .ok (.imul, 1) := by decide +kernel
theorem dL_common_72 : decode cL_common 72 = .ok (.istore 10, 2) := by decide +kernel
theorem dL_common_74 : decode cL_common 74 = .ok (.iload 8, 2) := by decide +kernel
theorem dL_common_76 : decode cL_common 76 = .ok (.iload 11, 2) := by decide +kernel
theorem dL_common_78 : decode cL_common 78 = .ok (.imul, 1) := by decide +kernel
theorem dL_common_79 : decode cL_common 79 = .ok (.istore 8, 2) := by decide +kernel
theorem dL_common_81 : decode cL_common 81 = .ok (.iload 9, 2) := by decide +kernel
theorem dL_common_83 : decode cL_common 83 = .ok (.ifCond .lt 22, 3) := by decide +kernel
theorem dL_common_86 : decode cL_common 86 = .ok (.iload 9, 2) := by decide +kernel
theorem dL_common_88 : decode cL_common 88 = .ok (.iload 8, 2) := by decide +kernel
theorem dL_common_90 : decode cL_common 90 = .ok (.if_icmp .gt 15, 3) := by decide +kernel
theorem dL_common_93 : decode cL_common 93 = .ok (.iload 10, 2) := by decide +kernel
theorem dL_common_95 : decode cL_common 95 = .ok (.ifCond .lt 10, 3) := by decide +kernel
theorem dL_common_98 : decode cL_common 98 = .ok (.iload 10, 2) := by decide +kernel
theorem dL_common_100 : decode cL_common 100 = .ok (.iload 8, 2) := by decide +kernel
theorem dL_common_102 : decode cL_common 102 = .ok (.if_icmp .le 5, 3) := by decide +kernel
theorem dL_common_105 : decode cL_common 105 = .ok (.iconst 0, 1) := by decide +kernel
theorem dL_common_106 : decode cL_common 106 = .ok (.ireturn, 1) := by decide +kernel
theorem dL_common_107 : decode cL_common 107 = .ok (.iload 9, 2) := by decide +kernel
theorem dL_common_109 : decode cL_common 109 = .ok (.ifCond .le 26, 3) := by decide +kernel
theorem dL_common_112 : decode cL_common 112 = .ok (.iload 9, 2) := by decide +kernel
theorem dL_common_114 : decode cL_common 114 = .ok (.iload 8, 2) := by decide +kernel
theorem dL_common_116 : decode cL_common 116 = .ok (.if_icmp .ge 19, 3) := by decide +kernel
theorem dL_common_119 : decode cL_common 119 = .ok (.iload 10, 2) := by decide +kernel
theorem dL_common_121 : decode cL_common 121 = .ok (.ifCond .le 14, 3) := by decide +kernel
theorem dL_common_124 : decode cL_common 124 = .ok (.iload 10, 2) := by decide +kernel
theorem dL_common_126 : decode cL_common 126 = .ok (.iload 8, 2) := by decide +kernel
theorem dL_common_128 : decode cL_common 128 = .ok (.if_icmp .ge 7, 3) := by decide +kernel
theorem dL_common_131 : decode cL_common 131 = .ok (.iconst 1, 1) := by decide +kernel
theorem dL_common_132 : decode cL_common 132 = .ok (.goto 4, 3) := by decide +kernel
theorem dL_common_135 : decode cL_common 135 = .ok (.iconst 2, 1) := by decide +kernel
theorem dL_common_136 : decode cL_common 136 = .ok (.ireturn, 1) := by decide +kernel
theorem dL_common_137 : decode cL_common 137 = .ok (.iload 10, 2) := by decide +kernel
theorem dL_common_139 : decode cL_common 139 = .ok (.ifCond .eq 5, 3) := by decide +kernel
theorem dL_common_142 : decode cL_common 142 = .ok (.iconst 0, 1) := by decide +kernel
theorem dL_common_143 : decode cL_common 143 = .ok (.ireturn, 1) := by decide +kernel
theorem dL_common_144 : decode cL_common 144 = .ok (.iload_n 2, 1) := by decide +kernel
theorem dL_common_145 : decode cL_common 145 = .ok (.iload_n 2, 1) := by decide +kernel
theorem dL_common_146 : decode cL_common 146 = .ok (.imul, 1) := by decide +kernel
theorem dL_common_147 : decode cL_common 147 = .ok (.iload_n 3, 1) := by decide +kernel
theorem dL_common_148 : decode cL_common 148 = .ok (.iload_n 3, 1) := by decide +kernel
theorem dL_common_149 : decode cL_common 149 = .ok (.imul, 1) := by decide +kernel
theorem dL_common_150 : decode cL_common 150 = .ok (.iadd, 1) := by decide +kernel
theorem dL_common_151 : decode cL_common 151 = .ok (.istore 11, 2) := by decide +kernel
theorem dL_common_153 : decode cL_common 153 = .ok (.iload 4, 2) := by decide +kernel
theorem dL_common_155 : decode cL_common 155 = .ok (.iload_n 0, 1) := by decide +kernel
theorem dL_common_156 : decode cL_common 156 = .ok (.isub, 1) := by decide +kernel
theorem dL_common_157 : decode cL_common 157 = .ok (.iload_n 2, 1) := by decide +kernel
theorem dL_common_158 : decode cL_common 158 = .ok (.imul, 1) := by decide +kernel
theorem dL_common_159 : decode cL_common 159 = .ok (.iload 5, 2) := by decide +kernel
theorem dL_common_161 : decode cL_common 161 = .ok (.iload_n 1, 1) := by decide +kernel
theorem dL_common_162 : decode cL_common 162 = .ok (.isub, 1) := by decide +kernel
theorem dL_common_163 : decode cL_common 163 = .ok (.iload_n 3, 1) := by decide +kernel
theorem dL_common_164 : decode cL_common 164 = .ok (.imul, 1) := by decide +kernel
theorem dL_common_165 : decode cL_common 165 = .ok (.iadd, 1) := by decide +kernel
theorem dL_common_166 : decode cL_common 166 = .ok (.istore 12, 2) := by decide +kernel
theorem dL_common_168 : decode cL_common 168 = .ok (.iload 4, 2) := by decide +kernel
theorem dL_common_170 : decode cL_common 170 = .ok (.iload 6, 2) := by decide +kernel
theorem dL_common_172 : decode cL_common 172 = .ok (.iadd, 1) := by decide +kernel
theorem dL_common_173 : decode cL_common 173 = .ok (.iload_n 0, 1) := by decide +kernel
theorem dL_common_174 : decode cL_common 174 = .ok (.isub, 1) := by decide +kernel
theorem dL_common_175 : decode cL_common 175 = .ok (.iload_n 2, 1) := by decide +kernel
theorem dL_common_176 : decode cL_common 176 = .ok (.imul, 1) := by decide +kernel
theorem dL_common_177 : decode cL_common 177 = .ok (.iload 5, 2) := by decide +kernel
theorem dL_common_179 : decode cL_common 179 = .ok (.iload 7, 2) := by decide +kernel
theorem dL_common_181 : decode cL_common 181 = .ok (.iadd, 1) := by decide +kernel
theorem dL_common_182 : decode cL_common 182 = .ok (.iload_n 1, 1) := by decide +kernel
theorem dL_common_183 : decode cL_common 183 = .ok (.isub, 1) := by decide +kernel
theorem dL_common_184 : decode cL_common 184 = .ok (.iload_n 3, 1) := by decide +kernel
theorem dL_common_185 : decode cL_common 185 = .ok (.imul, 1) := by decide +kernel
theorem dL_common_186 : decode cL_common 186 = .ok (.iadd, 1) := by decide +kernel
theorem dL_common_187 : decode cL_common 187 = .ok (.istore 13, 2) := by decide +kernel
theorem dL_common_189 : decode cL_common 189 = .ok (.iload 12, 2) := by decide +kernel
theorem dL_common_191 : decode cL_common 191 = .ok (.iload 13, 2) := by decide +kernel
theorem dL_common_193 : decode cL_common 193 = .ok (.if_icmp .ge 8, 3) := by decide +kernel
theorem dL_common_196 : decode cL_common 196 = .ok (.iload 12, 2) := by decide +kernel
theorem dL_common_198 : decode cL_common 198 = .ok (.goto 5, 3) := by decide +kernel
theorem dL_common_201 : decode cL_common 201 = .ok (.iload 13, 2) := by decide +kernel
theorem dL_common_203 : decode cL_common 203 = .ok (.istore 14, 2) := by decide +kernel
theorem dL_common_205 : decode cL_common 205 = .ok (.iload 12, 2) := by decide +kernel
theorem dL_common_207 : decode cL_common 207 = .ok (.iload 13, 2) := by decide +kernel
theorem dL_common_209 : decode cL_common 209 = .ok (.if_icmp .ge 8, 3) := by decide +kernel
theorem dL_common_212 : decode cL_common 212 = .ok (.iload 13, 2) := by decide +kernel
theorem dL_common_214 : decode cL_common 214 = .ok (.goto 5, 3) := by decide +kernel
theorem dL_common_217 : decode cL_common 217 = .ok (.iload 12, 2) := by decide +kernel
theorem dL_common_219 : decode cL_common 219 = .ok (.istore 15, 2) := by decide +kernel
theorem dL_common_221 : decode cL_common 221 = .ok (.iload 14, 2) := by decide +kernel
theorem dL_common_223 : decode cL_common 223 = .ok (.ifCond .ge 7, 3) := by decide +kernel
theorem dL_common_226 : decode cL_common 226 = .ok (.iconst 0, 1) := by decide +kernel
theorem dL_common_227 : decode cL_common 227 = .ok (.goto 5, 3) := by decide +kernel
theorem dL_common_230 : decode cL_common 230 = .ok (.iload 14, 2) := by decide +kernel
theorem dL_common_232 : decode cL_common 232 = .ok (.istore 14, 2) := by decide +kernel
theorem dL_common_234 : decode cL_common 234 = .ok (.iload 15, 2) := by decide +kernel
theorem dL_common_236 : decode cL_common 236 = .ok (.iload 11, 2) := by decide +kernel
theorem dL_common_238 : decode cL_common 238 = .ok (.if_icmp .le 8, 3) := by decide +kernel
theorem dL_common_241 : decode cL_common 241 = .ok (.iload 11, 2) := by decide +kernel
theorem dL_common_243 : decode cL_common 243 = .ok (.goto 5, 3) := by decide +kernel
theorem dL_common_246 : decode cL_common 246 = .ok (.iload 15, 2) := by decide +kernel
theorem dL_common_248 : decode cL_common 248 = .ok (.istore 15, 2) := by decide +kernel
theorem dL_common_250 : decode cL_common 250 = .ok (.iload 14, 2) := by decide +kernel
theorem dL_common_252 : decode cL_common 252 = .ok (.iload 15, 2) := by decide +kernel
theorem dL_common_254 : decode cL_common 254 = .ok (.if_icmp .le 7, 3) := by decide +kernel
theorem dL_common_257 : decode cL_common 257 = .ok (.iconst 0, 1) := by decide +kernel
theorem dL_common_258 : decode cL_common 258 = .ok (.goto 15, 3) := by decide +kernel
theorem dL_common_261 : decode cL_common 261 = .ok (.iload 14, 2) := by decide +kernel
theorem dL_common_263 : decode cL_common 263 = .ok (.iload 15, 2) := by decide +kernel
theorem dL_common_265 : decode cL_common 265 = .ok (.if_icmp .ne 7, 3) := by decide +kernel
theorem dL_common_268 : decode cL_common 268 = .ok (.iconst 2, 1) := by decide +kernel
theorem dL_common_269 : decode cL_common 269 = .ok (.goto 4, 3) := by decide +kernel
theorem dL_common_272 : decode cL_common 272 = .ok (.iconst 3, 1) := by decide +kernel
theorem dL_common_273 : decode cL_common 273 = .ok (.ireturn, 1) := by decide +kernel
theorem dL_sides_0 : decode cL_sides 0 = .ok (.iload_n 0, 1) := by decide +kernel
theorem dL_sides_1 : decode cL_sides 1 = .ok (.aload_n 2, 1) := by decide +kernel
theorem dL_sides_2 : decode cL_sides 2 = .ok (.invokestatic 37, 3) := by decide +kernel
theorem dL_sides_5 : decode cL_sides 5 = .ok (.istore 5, 2) := by decide +kernel
theorem dL_sides_7 : decode cL_sides 7 = .ok (.iload_n 1, 1) := by decide +kernel
theorem dL_sides_8 : decode cL_sides 8 = .ok (.aload_n 2, 1) := by decide +kernel
theorem dL_sides_9 : decode cL_sides 9 = .ok (.invokestatic 37, 3) := by decide +kernel
theorem dL_sides_12 : decode cL_sides 12 = .ok (.istore 6, 2) := by decide +kernel
theorem dL_sides_14 : decode cL_sides 14 = .ok (.aload_n 3, 1) := by decide +kernel
theorem dL_sides_15 : decode cL_sides 15 = .ok (.iload_n 0, 1) := by decide +kernel
theorem dL_sides_16 : decode cL_sides 16 = .ok (.iaload, 1) := by decide +kernel
theorem dL_sides_17 : decode cL_sides 17 = .ok (.aload 4, 2) := by decide +kernel
theorem dL_sides_19 : decode cL_sides 19 = .ok (.iload_n 0, 1) := by decide +kernel
theorem dL_sides_20 : decode cL_sides 20 = .ok (.iaload, 1) := by decide +kernel
theorem dL_sides_21 : decode cL_sides 21 = .ok (.aload_n 3, 1) := by decide +kernel
theorem dL_sides_22 : decode cL_sides 22 = .ok (.iload 5, 2) := by decide +kernel
theorem dL_sides_24 : decode cL_sides 24 = .ok (.iaload, 1) := by decide +kernel
theorem dL_sides_25 : decode cL_sides 25 = .ok (.aload_n 3, 1) := by decide +kernel
theorem dL_sides_26 : decode cL_sides 26 = .ok (.iload_n 0, 1) := by decide +kernel
theorem dL_sides_27 : decode cL_sides 27 = .ok (.iaload, 1) := by decide +kernel
theorem dL_sides_28 : decode cL_sides 28 = .ok (.isub, 1) := by decide +kernel
theorem dL_sides_29 : decode cL_sides 29 = .ok (.aload 4, 2) := by decide +kernel
theorem dL_sides_31 : decode cL_sides 31 = .ok (.iload 5, 2) := by decide +kernel
theorem dL_sides_33 : decode cL_sides 33 = .ok (.iaload, 1) := by decide +kernel
theorem dL_sides_34 : decode cL_sides 34 = .ok (.aload 4, 2) := by decide +kernel
theorem dL_sides_36 : decode cL_sides 36 = .ok (.iload_n 0, 1) := by decide +kernel
theorem dL_sides_37 : decode cL_sides 37 = .ok (.iaload, 1) := by decide +kernel
theorem dL_sides_38 : decode cL_sides 38 = .ok (.isub, 1) := by decide +kernel
theorem dL_sides_39 : decode cL_sides 39 = .ok (.aload_n 3, 1) := by decide +kernel
theorem dL_sides_40 : decode cL_sides 40 = .ok (.iload_n 1, 1) := by decide +kernel
theorem dL_sides_41 : decode cL_sides 41 = .ok (.iaload, 1) := by decide +kernel
theorem dL_sides_42 : decode cL_sides 42 = .ok (.aload 4, 2) := by decide +kernel
theorem dL_sides_44 : decode cL_sides 44 = .ok (.iload_n 1, 1) := by decide +kernel
theorem dL_sides_45 : decode cL_sides 45 = .ok (.iaload, 1) := by decide +kernel
theorem dL_sides_46 : decode cL_sides 46 = .ok (.aload_n 3, 1) := by decide +kernel
theorem dL_sides_47 : decode cL_sides 47 = .ok (.iload 6, 2) := by decide +kernel
theorem dL_sides_49 : decode cL_sides 49 = .ok (.iaload, 1) := by decide +kernel
theorem dL_sides_50 : decode cL_sides 50 = .ok (.aload_n 3, 1) := by decide +kernel
theorem dL_sides_51 : decode cL_sides 51 = .ok (.iload_n 1, 1) := by decide +kernel
theorem dL_sides_52 : decode cL_sides 52 = .ok (.iaload, 1) := by decide +kernel
theorem dL_sides_53 : decode cL_sides 53 = .ok (.isub, 1) := by decide +kernel
theorem dL_sides_54 : decode cL_sides 54 = .ok (.aload 4, 2) := by decide +kernel
theorem dL_sides_56 : decode cL_sides 56 = .ok (.iload 6, 2) := by decide +kernel
theorem dL_sides_58 : decode cL_sides 58 = .ok (.iaload, 1) := by decide +kernel
theorem dL_sides_59 : decode cL_sides 59 = .ok (.aload 4, 2) := by decide +kernel
theorem dL_sides_61 : decode cL_sides 61 = .ok (.iload_n 1, 1) := by decide +kernel
theorem dL_sides_62 : decode cL_sides 62 = .ok (.iaload, 1) := by decide +kernel
theorem dL_sides_63 : decode cL_sides 63 = .ok (.isub, 1) := by decide +kernel
theorem dL_sides_64 : decode cL_sides 64 = .ok (.invokestatic 41, 3) := by decide +kernel
theorem dL_sides_67 : decode cL_sides 67 = .ok (.ireturn, 1) := by decide +kernel
theorem dL_around_0 : decode cL_around 0 = .ok (.iconst 0, 1) := by decide +kernel
theorem dL_around_1 : decode cL_around 1 = .ok (.istore 6, 2) := by decide +kernel
theorem dL_around_3 : decode cL_around 3 = .ok (.bipush 10, 2) := by decide +kernel
theorem dL_around_5 : decode cL_around 5 = .ok (.iload_n 0, 1) := by decide +kernel
theorem dL_around_6 : decode cL_around 6 = .ok (.imul, 1) := by decide +kernel
theorem dL_around_7 : decode cL_around 7 = .ok (.istore 7, 2) := by decide +kernel
theorem dL_around_9 : decode cL_around 9 = .ok (.iload 7, 2) := by decide +kernel
theorem dL_around_11 : decode cL_around 11 = .ok (.bipush 10, 2) := by decide +kernel
theorem dL_around_13 : decode cL_around 13 = .ok (.iload_n 0, 1) := by decide +kernel
theorem dL_around_14 : decode cL_around 14 = .ok (.imul, 1) := by decide +kernel
theorem dL_around_15 : decode cL_around 15 = .ok (.aload_n 3, 1) := by decide +kernel
theorem dL_around_16 : decode cL_around 16 = .ok (.iconst 1, 1) := by decide +kernel
theorem dL_around_17 : decode cL_around 17 = .ok (.iload_n 0, 1) := by decide +kernel
theorem dL_around_18 : decode cL_around 18 = .ok (.iadd, 1) := by decide +kernel
theorem dL_around_19 : decode cL_around 19 = .ok (.iaload, 1) := by decide +kernel
theorem dL_around_20 : decode cL_around 20 = .ok (.iadd, 1) := by decide +kernel
theorem dL_around_21 : decode cL_around 21 = .ok (.if_icmp .ge 130, 3) := by decide +kernel
theorem dL_around_24 : decode cL_around 24 = .ok (.iload 7, 2) := by decide +kernel
theorem dL_around_26 : decode cL_around 26 = .ok (.aload_n 3, 1) := by decide +kernel
theorem dL_around_27 : decode cL_around 27 = .ok (.invokestatic 37, 3) := by decide +kernel
theorem dL_around_30 : decode cL_around 30 = .ok (.istore 8, 2) := by decide +kernel
theorem dL_around_32 : decode cL_around 32 = .ok (.iconst 2, 1) := by decide +kernel
theorem dL_around_33 : decode cL_around 33 = .ok (.aload 4, 2) := by decide +kernel
theorem dL_around_35 : decode cL_around 35 = .ok (.iload 8, 2) := by decide +kernel
theorem dL_around_37 : decode cL_around 37 = .ok (.iaload, 1) := by decide +kernel
theorem dL_around_38 : decode cL_around 38 = .ok (.imul, 1) := by decide +kernel
theorem dL_around_39 : decode cL_around 39 = .ok (.iconst 2, 1) := by decide +kernel
theorem dL_around_40 : decode cL_around 40 = .ok (.aload 4, 2) := by decide +kernel
theorem dL_around_42 : decode cL_around 42 = .ok (.iload 7, 2) := by decide +kernel
theorem dL_around_44 : decode cL_around 44 = .ok (.iaload, 1) := by decide +kernel
theorem dL_around_45 : decode cL_around 45 = .ok (.imul, 1) := by decide +kernel
theorem dL_around_46 : decode cL_around 46 = .ok (.isub, 1) := by decide +kernel
theorem dL_around_47 : decode cL_around 47 = .ok (.iconst 2, 1) := by decide +kernel
theorem dL_around_48 : decode cL_around 48 = .ok (.aload 5, 2) := by decide +kernel
theorem dL_around_50 : decode cL_around 50 = .ok (.iload 8, 2) := by decide +kernel
theorem dL_around_52 : decode cL_around 52 = .ok (.iaload, 1) := by decide +kernel
theorem dL_around_53 : decode cL_around 53 = .ok (.imul, 1) := by decide +kernel
theorem dL_around_54 : decode cL_around 54 = .ok (.iconst 2, 1) := by decide +kernel
theorem dL_around_55 : decode cL_around 55 = .ok (.aload 5, 2) := by decide +kernel
theorem dL_around_57 : decode cL_around 57 = .ok (.iload 7, 2) := by decide +kernel
theorem dL_around_59 : decode cL_around 59 = .ok (.iaload, 1) := by decide +kernel
theorem dL_around_60 : decode cL_around 60 = .ok (.imul, 1) := by decide +kernel
theorem dL_around_61 : decode cL_around 61 = .ok (.isub, 1) := by decide +kernel
theorem dL_around_62 : decode cL_around 62 = .ok (.iload_n 1, 1) := by decide +kernel
theorem dL_around_63 : decode cL_around 63 = .ok (.iconst 2, 1) := by decide +kernel
theorem dL_around_64 : decode cL_around 64 = .ok (.aload 4, 2) := by decide +kernel
theorem dL_around_66 : decode cL_around 66 = .ok (.iload 7, 2) := by decide +kernel
theorem dL_around_68 : decode cL_around 68 = .ok (.iaload, 1) := by decide +kernel
theorem dL_around_69 : decode cL_around 69 = .ok (.imul, 1) := by decide +kernel
theorem dL_around_70 : decode cL_around 70 = .ok (.isub, 1) := by decide +kernel
theorem dL_around_71 : decode cL_around 71 = .ok (.iload_n 2, 1) := by decide +kernel
theorem dL_around_72 : decode cL_around 72 = .ok (.iconst 2, 1) := by decide +kernel
theorem dL_around_73 : decode cL_around 73 = .ok (.aload 5, 2) := by decide +kernel
theorem dL_around_75 : decode cL_around 75 = .ok (.iload 7, 2) := by decide +kernel
theorem dL_around_77 : decode cL_around 77 = .ok (.iaload, 1) := by decide +kernel
theorem dL_around_78 : decode cL_around 78 = .ok (.imul, 1) := by decide +kernel
theorem dL_around_79 : decode cL_around 79 = .ok (.isub, 1) := by decide +kernel
theorem dL_around_80 : decode cL_around 80 = .ok (.invokestatic 32, 3) := by decide +kernel
theorem dL_around_83 : decode cL_around 83 = .ok (.istore 9, 2) := by decide +kernel
theorem dL_around_85 : decode cL_around 85 = .ok (.iconst 2, 1) := by decide +kernel
theorem dL_around_86 : decode cL_around 86 = .ok (.aload 5, 2) := by decide +kernel
theorem dL_around_88 : decode cL_around 88 = .ok (.iload 7, 2) := by decide +kernel
theorem dL_around_90 : decode cL_around 90 = .ok (.iaload, 1) := by decide +kernel
theorem dL_around_91 : decode cL_around 91 = .ok (.imul, 1) := by decide +kernel
theorem dL_around_92 : decode cL_around 92 = .ok (.iload_n 2, 1) := by decide +kernel
theorem dL_around_93 : decode cL_around 93 = .ok (.if_icmp .gt 22, 3) := by decide +kernel
theorem dL_around_96 : decode cL_around 96 = .ok (.iconst 2, 1) := by decide +kernel
theorem dL_around_97 : decode cL_around 97 = .ok (.aload 5, 2) := by decide +kernel
theorem dL_around_99 : decode cL_around 99 = .ok (.iload 8, 2) := by decide +kernel
theorem dL_around_101 : decode cL_around 101 = .ok (.iaload, 1) := by decide +kernel
theorem dL_around_102 : decode cL_around 102 = .ok (.imul, 1) := by decide +kernel
theorem dL_around_103 : decode cL_around 103 = .ok (.iload_n 2, 1) := by decide +kernel
theorem dL_around_104 : decode cL_around 104 = .ok (.if_icmp .le 11, 3) := by decide +kernel
theorem dL_around_107 : decode cL_around 107 = .ok (.iload 9, 2) := by decide +kernel
theorem dL_around_109 : decode cL_around 109 = .ok (.ifCond .le 6, 3) := by decide +kernel
theorem dL_around_112 : decode cL_around 112 = .ok (.iinc 6 1, 3) := by decide +kernel
theorem dL_around_115 : decode cL_around 115 = .ok (.iconst 2, 1) := by decide +kernel
theorem dL_around_116 : decode cL_around 116 = .ok (.aload 5, 2) := by decide +kernel
theorem dL_around_118 : decode cL_around 118 = .ok (.iload 7, 2) := by decide +kernel
theorem dL_around_120 : decode cL_around 120 = .ok (.iaload, 1) := by decide +kernel
theorem dL_around_121 : decode cL_around 121 = .ok (.imul, 1) := by decide +kernel
theorem dL_around_122 : decode cL_around 122 = .ok (.iload_n 2, 1) := by decide +kernel
theorem dL_around_123 : decode cL_around 123 = .ok (.if_icmp .le 22, 3) := by decide +kernel
theorem dL_around_126 : decode cL_around 126 = .ok (.iconst 2, 1) := by decide +kernel
theorem dL_around_127 : decode cL_around 127 = .ok (.aload 5, 2) := by decide +kernel
theorem dL_around_129 : decode cL_around 129 = .ok (.iload 8, 2) := by decide +kernel
theorem dL_around_131 : decode cL_around 131 = .ok (.iaload, 1) := by decide +kernel
theorem dL_around_132 : decode cL_around 132 = .ok (.imul, 1) := by decide +kernel
theorem dL_around_133 : decode cL_around 133 = .ok (.iload_n 2, 1) := by decide +kernel
theorem dL_around_134 : decode cL_around 134 = .ok (.if_icmp .gt 11, 3) := by decide +kernel
theorem dL_around_137 : decode cL_around 137 = .ok (.iload 9, 2) := by decide +kernel
theorem dL_around_139 : decode cL_around 139 = .ok (.ifCond .ge 6, 3) := by decide +kernel
theorem dL_around_142 : decode cL_around 142 = .ok (.iinc 6 (-1), 3) := by decide +kernel
theorem dL_around_145 : decode cL_around 145 = .ok (.iinc 7 1, 3) := by decide +kernel
theorem dL_around_148 : decode cL_around 148 = .ok (.goto (-139), 3) := by decide +kernel
theorem dL_around_151 : decode cL_around 151 = .ok (.iload 6, 2) := by decide +kernel
theorem dL_around_153 : decode cL_around 153 = .ok (.ireturn, 1) := by decide +kernel
theorem dL_broken_0 : decode cL_broken 0 = .ok (.bipush 6, 2) := by decide +kernel
theorem dL_broken_2 : decode cL_broken 2 = .ok (.istore_n 3, 1) := by decide +kernel
theorem dL_broken_3 : decode cL_broken 3 = .ok (.iconst 0, 1) := by decide +kernel
theorem dL_broken_4 : decode cL_broken 4 = .ok (.istore 4, 2) := by decide +kernel
theorem dL_broken_6 : decode cL_broken 6 = .ok (.iload 4, 2) := by decide +kernel
theorem dL_broken_8 : decode cL_broken 8 = .ok (.bipush 40, 2) := by decide +kernel
theorem dL_broken_10 : decode cL_broken 10 = .ok (.if_icmp .ge 87, 3) := by decide +kernel
theorem dL_broken_13 : decode cL_broken 13 = .ok (.iload 4, 2) := by decide +kernel
theorem dL_broken_15 : decode cL_broken 15 = .ok (.aload_n 0, 1) := by decide +kernel
theorem dL_broken_16 : decode cL_broken 16 = .ok (.invokestatic 45, 3) := by decide +kernel
theorem dL_broken_19 : decode cL_broken 19 = .ok (.ifCond .ne 6, 3) := by decide +kernel
theorem dL_broken_22 : decode cL_broken 22 = .ok (.goto 69, 3) := by decide +kernel
theorem dL_broken_25 : decode cL_broken 25 = .ok (.iload 4, 2) := by decide +kernel
theorem dL_broken_27 : decode cL_broken 27 = .ok (.aload_n 0, 1) := by decide +kernel
theorem dL_broken_28 : decode cL_broken 28 = .ok (.invokestatic 37, 3) := by decide +kernel
theorem dL_broken_31 : decode cL_broken 31 = .ok (.istore 5, 2) := by decide +kernel
theorem dL_broken_33 : decode cL_broken 33 = .ok (.aload_n 1, 1) := by decide +kernel
theorem dL_broken_34 : decode cL_broken 34 = .ok (.iload 4, 2) := by decide +kernel
theorem dL_broken_36 : decode cL_broken 36 = .ok (.iaload, 1) := by decide +kernel
theorem dL_broken_37 : decode cL_broken 37 = .ok (.ifCond .lt 28, 3) := by decide +kernel
theorem dL_broken_40 : decode cL_broken 40 = .ok (.aload_n 1, 1) := by decide +kernel
theorem dL_broken_41 : decode cL_broken 41 = .ok (.iload 4, 2) := by decide +kernel
theorem dL_broken_43 : decode cL_broken 43 = .ok (.iaload, 1) := by decide +kernel
theorem dL_broken_44 : decode cL_broken 44 = .ok (.bipush 15, 2) := by decide +kernel
theorem dL_broken_46 : decode cL_broken 46 = .ok (.if_icmp .gt 19, 3) := by decide +kernel
theorem dL_broken_49 : decode cL_broken 49 = .ok (.aload_n 2, 1) := by decide +kernel
theorem dL_broken_50 : decode cL_broken 50 = .ok (.iload 4, 2) := by decide +kernel
theorem dL_broken_52 : decode cL_broken 52 = .ok (.iaload, 1) := by decide +kernel
theorem dL_broken_53 : decode cL_broken 53 = .ok (.ifCond .lt 12, 3) := by decide +kernel
theorem dL_broken_56 : decode cL_broken 56 = .ok (.aload_n 2, 1) := by decide +kernel
theorem dL_broken_57 : decode cL_broken 57 = .ok (.iload 4, 2) := by decide +kernel
theorem dL_broken_59 : decode cL_broken 59 = .ok (.iaload, 1) := by decide +kernel
theorem dL_broken_60 : decode cL_broken 60 = .ok (.bipush 15, 2) := by decide +kernel
theorem dL_broken_62 : decode cL_broken 62 = .ok (.if_icmp .le 5, 3) := by decide +kernel
theorem dL_broken_65 : decode cL_broken 65 = .ok (.iconst 1, 1) := by decide +kernel
theorem dL_broken_66 : decode cL_broken 66 = .ok (.ireturn, 1) := by decide +kernel
theorem dL_broken_67 : decode cL_broken 67 = .ok (.aload_n 1, 1) := by decide +kernel
theorem dL_broken_68 : decode cL_broken 68 = .ok (.iload 4, 2) := by decide +kernel
theorem dL_broken_70 : decode cL_broken 70 = .ok (.iaload, 1) := by decide +kernel
theorem dL_broken_71 : decode cL_broken 71 = .ok (.aload_n 1, 1) := by decide +kernel
theorem dL_broken_72 : decode cL_broken 72 = .ok (.iload 5, 2) := by decide +kernel
theorem dL_broken_74 : decode cL_broken 74 = .ok (.iaload, 1) := by decide +kernel
theorem dL_broken_75 : decode cL_broken 75 = .ok (.if_icmp .ne 16, 3) := by decide +kernel
theorem dL_broken_78 : decode cL_broken 78 = .ok (.aload_n 2, 1) := by decide +kernel
theorem dL_broken_79 : decode cL_broken 79 = .ok (.iload 4, 2) := by decide +kernel
theorem dL_broken_81 : decode cL_broken 81 = .ok (.iaload, 1) := by decide +kernel
theorem dL_broken_82 : decode cL_broken 82 = .ok (.aload_n 2, 1) := by decide +kernel
theorem dL_broken_83 : decode cL_broken 83 = .ok (.iload 5, 2) := by decide +kernel
theorem dL_broken_85 : decode cL_broken 85 = .ok (.iaload, 1) := by decide +kernel
theorem dL_broken_86 : decode cL_broken 86 = .ok (.if_icmp .ne 5, 3) := by decide +kernel
theorem dL_broken_89 : decode cL_broken 89 = .ok (.iconst 2, 1) := by decide +kernel
theorem dL_broken_90 : decode cL_broken 90 = .ok (.istore_n 3, 1) := by decide +kernel
theorem dL_broken_91 : decode cL_broken 91 = .ok (.iinc 4 1, 3) := by decide +kernel
theorem dL_broken_94 : decode cL_broken 94 = .ok (.goto (-88), 3) := by decide +kernel
theorem dL_broken_97 : decode cL_broken 97 = .ok (.iload_n 3, 1) := by decide +kernel
theorem dL_broken_98 : decode cL_broken 98 = .ok (.iconst 2, 1) := by decide +kernel
theorem dL_broken_99 : decode cL_broken 99 = .ok (.if_icmp .ne 5, 3) := by decide +kernel
theorem dL_broken_102 : decode cL_broken 102 = .ok (.iconst 2, 1) := by decide +kernel
theorem dL_broken_103 : decode cL_broken 103 = .ok (.ireturn, 1) := by decide +kernel
theorem dL_broken_104 : decode cL_broken 104 = .ok (.iconst 0, 1) := by decide +kernel
theorem dL_broken_105 : decode cL_broken 105 = .ok (.istore 4, 2) := by decide +kernel
theorem dL_broken_107 : decode cL_broken 107 = .ok (.iload 4, 2) := by decide +kernel
theorem dL_broken_109 : decode cL_broken 109 = .ok (.bipush 40, 2) := by decide +kernel
theorem dL_broken_111 : decode cL_broken 111 = .ok (.if_icmp .ge 129, 3) := by decide +kernel
theorem dL_broken_114 : decode cL_broken 114 = .ok (.iconst 0, 1) := by decide +kernel
theorem dL_broken_115 : decode cL_broken 115 = .ok (.istore 5, 2) := by decide +kernel
theorem dL_broken_117 : decode cL_broken 117 = .ok (.iload 5, 2) := by decide +kernel
theorem dL_broken_119 : decode cL_broken 119 = .ok (.iload 4, 2) := by decide +kernel
theorem dL_broken_121 : decode cL_broken 121 = .ok (.if_icmp .ge 113, 3) := by decide +kernel
theorem dL_broken_124 : decode cL_broken 124 = .ok (.iload 4, 2) := by decide +kernel
theorem dL_broken_126 : decode cL_broken 126 = .ok (.aload_n 0, 1) := by decide +kernel
theorem dL_broken_127 : decode cL_broken 127 = .ok (.invokestatic 45, 3) := by decide +kernel
theorem dL_broken_130 : decode cL_broken 130 = .ok (.ifCond .eq 98, 3) := by decide +kernel
theorem dL_broken_133 : decode cL_broken 133 = .ok (.iload 5, 2) := by decide +kernel
theorem dL_broken_135 : decode cL_broken 135 = .ok (.aload_n 0, 1) := by decide +kernel
theorem dL_broken_136 : decode cL_broken 136 = .ok (.invokestatic 45, 3) := by decide +kernel
theorem dL_broken_139 : decode cL_broken 139 = .ok (.ifCond .ne 6, 3) := by decide +kernel
theorem dL_broken_142 : decode cL_broken 142 = .ok (.goto 86, 3) := by decide +kernel
theorem dL_broken_145 : decode cL_broken 145 = .ok (.iload 4, 2) := by decide +kernel
theorem dL_broken_147 : decode cL_broken 147 = .ok (.iload 5, 2) := by decide +kernel
theorem dL_broken_149 : decode cL_broken 149 = .ok (.aload_n 0, 1) := by decide +kernel
theorem dL_broken_150 : decode cL_broken 150 = .ok (.aload_n 1, 1) := by decide +kernel
theorem dL_broken_151 : decode cL_broken 151 = .ok (.aload_n 2, 1) := by decide +kernel
theorem dL_broken_152 : decode cL_broken 152 = .ok (.invokestatic 49, 3) := by decide +kernel
theorem dL_broken_155 : decode cL_broken 155 = .ok (.istore 6, 2) := by decide +kernel
theorem dL_broken_157 : decode cL_broken 157 = .ok (.iload 4, 2) := by decide +kernel
theorem dL_broken_159 : decode cL_broken 159 = .ok (.aload_n 0, 1) := by decide +kernel
theorem dL_broken_160 : decode cL_broken 160 = .ok (.invokestatic 37, 3) := by decide +kernel
theorem dL_broken_163 : decode cL_broken 163 = .ok (.iload 5, 2) := by decide +kernel
theorem dL_broken_165 : decode cL_broken 165 = .ok (.if_icmp .eq 14, 3) := by decide +kernel
theorem dL_broken_168 : decode cL_broken 168 = .ok (.iload 5, 2) := by decide +kernel
theorem dL_broken_170 : decode cL_broken 170 = .ok (.aload_n 0, 1) := by decide +kernel
theorem dL_broken_171 : decode cL_broken 171 = .ok (.invokestatic 37, 3) := by decide +kernel
theorem dL_broken_174 : decode cL_broken 174 = .ok (.iload 4, 2) := by decide +kernel
theorem dL_broken_176 : decode cL_broken 176 = .ok (.if_icmp .ne 7, 3) := by decide +kernel
theorem dL_broken_179 : decode cL_broken 179 = .ok (.iconst 1, 1) := by decide +kernel
theorem dL_broken_180 : decode cL_broken 180 = .ok (.goto 4, 3) := by decide +kernel
theorem dL_broken_183 : decode cL_broken 183 = .ok (.iconst 0, 1) := by decide +kernel
theorem dL_broken_184 : decode cL_broken 184 = .ok (.istore 7, 2) := by decide +kernel
theorem dL_broken_186 : decode cL_broken 186 = .ok (.iload 6, 2) := by decide +kernel
theorem dL_broken_188 : decode cL_broken 188 = .ok (.iconst 1, 1) := by decide +kernel
theorem dL_broken_189 : decode cL_broken 189 = .ok (.if_icmp .ne 7, 3) := by decide +kernel
theorem dL_broken_192 : decode cL_broken 192 = .ok (.iconst 3, 1) := by decide +kernel
theorem dL_broken_193 : decode cL_broken 193 = .ok (.goto 34, 3) := by decide +kernel
theorem dL_broken_196 : decode cL_broken 196 = .ok (.iload 6, 2) := by decide +kernel
theorem dL_broken_198 : decode cL_broken 198 = .ok (.iconst 3, 1) := by decide +kernel
theorem dL_broken_199 : decode cL_broken 199 = .ok (.if_icmp .eq 14, 3) := by decide +kernel
theorem dL_broken_202 : decode cL_broken 202 = .ok (.iload 6, 2) := by decide +kernel
theorem dL_broken_204 : decode cL_broken 204 = .ok (.iconst 2, 1) := by decide +kernel
theorem dL_broken_205 : decode cL_broken 205 = .ok (.if_icmp .ne 21, 3) := by decide +kernel
theorem dL_broken_208 : decode cL_broken 208 = .ok (.iload 7, 2) := by decide +kernel
theorem dL_broken_210 : decode cL_broken 210 = .ok (.ifCond .ne 16, 3) := by decide +kernel
theorem dL_broken_213 : decode cL_broken 213 = .ok (.iload_n 3, 1) := by decide +kernel
theorem dL_broken_214 : decode cL_broken 214 = .ok (.iconst 4, 1) := by decide +kernel
theorem dL_broken_215 : decode cL_broken 215 = .ok (.if_icmp .ge 7, 3) := by decide +kernel
theorem dL_broken_218 : decode cL_broken 218 = .ok (.iload_n 3, 1) := by decide +kernel
theorem dL_broken_219 : decode cL_broken 219 = .ok (.goto 8, 3) := by decide +kernel
theorem dL_broken_222 : decode cL_broken 222 = .ok (.iconst 4, 1) := by decide +kernel
theorem dL_broken_223 : decode cL_broken 223 = .ok (.goto 4, 3) := by decide +kernel
theorem dL_broken_226 : decode cL_broken 226 = .ok (.iload_n 3, 1) := by decide +kernel
theorem dL_broken_227 : decode cL_broken 227 = .ok (.istore_n 3, 1) := by decide +kernel
theorem dL_broken_228 : decode cL_broken 228 = .ok (.iinc 5 1, 3) := by decide +kernel
theorem dL_broken_231 : decode cL_broken 231 = .ok (.goto (-114), 3) := by decide +kernel
theorem dL_broken_234 : decode cL_broken 234 = .ok (.iinc 4 1, 3) := by decide +kernel
theorem dL_broken_237 : decode cL_broken 237 = .ok (.goto (-130), 3) := by decide +kernel
theorem dL_broken_240 : decode cL_broken 240 = .ok (.bipush 10, 2) := by decide +kernel
theorem dL_broken_242 : decode cL_broken 242 = .ok (.istore 4, 2) := by decide +kernel
theorem dL_broken_244 : decode cL_broken 244 = .ok (.iload 4, 2) := by decide +kernel
theorem dL_broken_246 : decode cL_broken 246 = .ok (.bipush 40, 2) := by decide +kernel
theorem dL_broken_248 : decode cL_broken 248 = .ok (.if_icmp .ge 97, 3) := by decide +kernel
theorem dL_broken_251 : decode cL_broken 251 = .ok (.iload_n 3, 1) := by decide +kernel
theorem dL_broken_252 : decode cL_broken 252 = .ok (.bipush 6, 2) := by decide +kernel
theorem dL_broken_254 : decode cL_broken 254 = .ok (.if_icmp .ne 91, 3) := by decide +kernel
theorem dL_broken_257 : decode cL_broken 257 = .ok (.iload 4, 2) := by decide +kernel
theorem dL_broken_259 : decode cL_broken 259 = .ok (.aload_n 0, 1) := by decide +kernel
theorem dL_broken_260 : decode cL_broken 260 = .ok (.invokestatic 45, 3) := by decide +kernel
theorem dL_broken_263 : decode cL_broken 263 = .ok (.ifCond .ne 6, 3) := by decide +kernel
theorem dL_broken_266 : decode cL_broken 266 = .ok (.goto 73, 3) := by decide +kernel
theorem dL_broken_269 : decode cL_broken 269 = .ok (.iconst 0, 1) := by decide +kernel
theorem dL_broken_270 : decode cL_broken 270 = .ok (.istore 5, 2) := by decide +kernel
theorem dL_broken_272 : decode cL_broken 272 = .ok (.iload 5, 2) := by decide +kernel
theorem dL_broken_274 : decode cL_broken 274 = .ok (.aload_n 0, 1) := by decide +kernel
theorem dL_broken_275 : decode cL_broken 275 = .ok (.iconst 0, 1) := by decide +kernel
theorem dL_broken_276 : decode cL_broken 276 = .ok (.iaload, 1) := by decide +kernel
theorem dL_broken_277 : decode cL_broken 277 = .ok (.if_icmp .ge 62, 3) := by decide +kernel
theorem dL_broken_280 : decode cL_broken 280 = .ok (.iload 5, 2) := by decide +kernel
theorem dL_broken_282 : decode cL_broken 282 = .ok (.iload 4, 2) := by decide +kernel
theorem dL_broken_284 : decode cL_broken 284 = .ok (.bipush 10, 2) := by decide +kernel
theorem dL_broken_286 : decode cL_broken 286 = .ok (.idiv, 1) := by decide +kernel
theorem dL_broken_287 : decode cL_broken 287 = .ok (.if_icmp .eq 46, 3) := by decide +kernel
theorem dL_broken_290 : decode cL_broken 290 = .ok (.iload 5, 2) := by decide +kernel
theorem dL_broken_292 : decode cL_broken 292 = .ok (.iconst 2, 1) := by decide +kernel
theorem dL_broken_293 : decode cL_broken 293 = .ok (.aload_n 1, 1) := by decide +kernel
theorem dL_broken_294 : decode cL_broken 294 = .ok (.iload 4, 2) := by decide +kernel
theorem dL_broken_296 : decode cL_broken 296 = .ok (.iaload, 1) := by decide +kernel
theorem dL_broken_297 : decode cL_broken 297 = .ok (.imul, 1) := by decide +kernel
theorem dL_broken_298 : decode cL_broken 298 = .ok (.iconst 2, 1) := by decide +kernel
theorem dL_broken_299 : decode cL_broken 299 = .ok (.aload_n 2, 1) := by decide +kernel
theorem dL_broken_300 : decode cL_broken 300 = .ok (.iload 4, 2) := by decide +kernel
theorem dL_broken_302 : decode cL_broken 302 = .ok (.iaload, 1) := by decide +kernel
theorem dL_broken_303 : decode cL_broken 303 = .ok (.imul, 1) := by decide +kernel
theorem dL_broken_304 : decode cL_broken 304 = .ok (.aload_n 0, 1) := by decide +kernel
theorem dL_broken_305 : decode cL_broken 305 = .ok (.aload_n 1, 1) := by decide +kernel
theorem dL_broken_306 : decode cL_broken 306 = .ok (.aload_n 2, 1) := by decide +kernel
theorem dL_broken_307 : decode cL_broken 307 = .ok (.invokestatic 53, 3) := by decide +kernel
theorem dL_broken_310 : decode cL_broken 310 = .ok (.ifCond .eq 7, 3) := by decide +kernel
theorem dL_broken_313 : decode cL_broken 313 = .ok (.iconst 1, 1) := by decide +kernel
theorem dL_broken_314 : decode cL_broken 314 = .ok (.goto 4, 3) := by decide +kernel
theorem dL_broken_317 : decode cL_broken 317 = .ok (.iconst 0, 1) := by decide +kernel
theorem dL_broken_318 : decode cL_broken 318 = .ok (.iload 5, 2) := by decide +kernel
theorem dL_broken_320 : decode cL_broken 320 = .ok (.ifCond .ne 7, 3) := by decide +kernel
theorem dL_broken_323 : decode cL_broken 323 = .ok (.iconst 1, 1) := by decide +kernel
theorem dL_broken_324 : decode cL_broken 324 = .ok (.goto 4, 3) := by decide +kernel
theorem dL_broken_327 : decode cL_broken 327 = .ok (.iconst 0, 1) := by decide +kernel
theorem dL_broken_328 : decode cL_broken 328 = .ok (.if_icmp .eq 5, 3) := by decide +kernel
theorem dL_broken_331 : decode cL_broken 331 = .ok (.iconst 5, 1) := by decide +kernel
theorem dL_broken_332 : decode cL_broken 332 = .ok (.istore_n 3, 1) := by decide +kernel
theorem dL_broken_333 : decode cL_broken 333 = .ok (.iinc 5 1, 3) := by decide +kernel
theorem dL_broken_336 : decode cL_broken 336 = .ok (.goto (-64), 3) := by decide +kernel
theorem dL_broken_339 : decode cL_broken 339 = .ok (.iinc 4 1, 3) := by decide +kernel
theorem dL_broken_342 : decode cL_broken 342 = .ok (.goto (-98), 3) := by decide +kernel
theorem dL_broken_345 : decode cL_broken 345 = .ok (.iload_n 3, 1) := by decide +kernel
theorem dL_broken_346 : decode cL_broken 346 = .ok (.bipush 6, 2) := by decide +kernel
theorem dL_broken_348 : decode cL_broken 348 = .ok (.if_icmp .ne 7, 3) := by decide +kernel
theorem dL_broken_351 : decode cL_broken 351 = .ok (.iconst 0, 1) := by decide +kernel
theorem dL_broken_352 : decode cL_broken 352 = .ok (.goto 4, 3) := by decide +kernel
theorem dL_broken_355 : decode cL_broken 355 = .ok (.iload_n 3, 1) := by decide +kernel
theorem dL_broken_356 : decode cL_broken 356 = .ok (.ireturn, 1) := by decide +kernel
theorem dL_sum_0 : decode cL_sum 0 = .ok (.iconst 0, 1) := by decide +kernel
theorem dL_sum_1 : decode cL_sum 1 = .ok (.istore 4, 2) := by decide +kernel
theorem dL_sum_3 : decode cL_sum 3 = .ok (.bipush 10, 2) := by decide +kernel
theorem dL_sum_5 : decode cL_sum 5 = .ok (.iload_n 0, 1) := by decide +kernel
theorem dL_sum_6 : decode cL_sum 6 = .ok (.imul, 1) := by decide +kernel
theorem dL_sum_7 : decode cL_sum 7 = .ok (.istore 5, 2) := by decide +kernel
theorem dL_sum_9 : decode cL_sum 9 = .ok (.iload 5, 2) := by decide +kernel
theorem dL_sum_11 : decode cL_sum 11 = .ok (.bipush 10, 2) := by decide +kernel
theorem dL_sum_13 : decode cL_sum 13 = .ok (.iload_n 0, 1) := by decide +kernel
theorem dL_sum_14 : decode cL_sum 14 = .ok (.imul, 1) := by decide +kernel
theorem dL_sum_15 : decode cL_sum 15 = .ok (.aload_n 1, 1) := by decide +kernel
theorem dL_sum_16 : decode cL_sum 16 = .ok (.iconst 1, 1) := by decide +kernel
theorem dL_sum_17 : decode cL_sum 17 = .ok (.iload_n 0, 1) := by decide +kernel
theorem dL_sum_18 : decode cL_sum 18 = .ok (.iadd, 1) := by decide +kernel
theorem dL_sum_19 : decode cL_sum 19 = .ok (.iaload, 1) := by decide +kernel
theorem dL_sum_20 : decode cL_sum 20 = .ok (.iadd, 1) := by decide +kernel
theorem dL_sum_21 : decode cL_sum 21 = .ok (.if_icmp .ge 41, 3) := by decide +kernel
theorem dL_sum_24 : decode cL_sum 24 = .ok (.iload 4, 2) := by decide +kernel
theorem dL_sum_26 : decode cL_sum 26 = .ok (.aload_n 2, 1) := by decide +kernel
theorem dL_sum_27 : decode cL_sum 27 = .ok (.iload 5, 2) := by decide +kernel
theorem dL_sum_29 : decode cL_sum 29 = .ok (.iaload, 1) := by decide +kernel
theorem dL_sum_30 : decode cL_sum 30 = .ok (.aload_n 2, 1) := by decide +kernel
theorem dL_sum_31 : decode cL_sum 31 = .ok (.iload 5, 2) := by decide +kernel
theorem dL_sum_33 : decode cL_sum 33 = .ok (.aload_n 1, 1) := by decide +kernel
theorem dL_sum_34 : decode cL_sum 34 = .ok (.invokestatic 37, 3) := by decide +kernel
theorem dL_sum_37 : decode cL_sum 37 = .ok (.iaload, 1) := by decide +kernel
theorem dL_sum_38 : decode cL_sum 38 = .ok (.iadd, 1) := by decide +kernel
theorem dL_sum_39 : decode cL_sum 39 = .ok (.aload_n 3, 1) := by decide +kernel
theorem dL_sum_40 : decode cL_sum 40 = .ok (.iload 5, 2) := by decide +kernel
theorem dL_sum_42 : decode cL_sum 42 = .ok (.aload_n 1, 1) := by decide +kernel
theorem dL_sum_43 : decode cL_sum 43 = .ok (.invokestatic 37, 3) := by decide +kernel
theorem dL_sum_46 : decode cL_sum 46 = .ok (.iaload, 1) := by decide +kernel
theorem dL_sum_47 : decode cL_sum 47 = .ok (.aload_n 3, 1) := by decide +kernel
theorem dL_sum_48 : decode cL_sum 48 = .ok (.iload 5, 2) := by decide +kernel
theorem dL_sum_50 : decode cL_sum 50 = .ok (.iaload, 1) := by decide +kernel
theorem dL_sum_51 : decode cL_sum 51 = .ok (.isub, 1) := by decide +kernel
theorem dL_sum_52 : decode cL_sum 52 = .ok (.imul, 1) := by decide +kernel
theorem dL_sum_53 : decode cL_sum 53 = .ok (.iadd, 1) := by decide +kernel
theorem dL_sum_54 : decode cL_sum 54 = .ok (.istore 4, 2) := by decide +kernel
theorem dL_sum_56 : decode cL_sum 56 = .ok (.iinc 5 1, 3) := by decide +kernel
theorem dL_sum_59 : decode cL_sum 59 = .ok (.goto (-50), 3) := by decide +kernel
theorem dL_sum_62 : decode cL_sum 62 = .ok (.iload 4, 2) := by decide +kernel
theorem dL_sum_64 : decode cL_sum 64 = .ok (.ireturn, 1) := by decide +kernel
theorem dL_area_0 : decode cL_area 0 = .ok (.iconst 0, 1) := by decide +kernel
theorem dL_area_1 : decode cL_area 1 = .ok (.istore_n 3, 1) := by decide +kernel
theorem dL_area_2 : decode cL_area 2 = .ok (.iconst 0, 1) := by decide +kernel
theorem dL_area_3 : decode cL_area 3 = .ok (.istore 4, 2) := by decide +kernel
theorem dL_area_5 : decode cL_area 5 = .ok (.iload 4, 2) := by decide +kernel
theorem dL_area_7 : decode cL_area 7 = .ok (.aload_n 0, 1) := by decide +kernel
theorem dL_area_8 : decode cL_area 8 = .ok (.iconst 0, 1) := by decide +kernel
theorem dL_area_9 : decode cL_area 9 = .ok (.iaload, 1) := by decide +kernel
theorem dL_area_10 : decode cL_area 10 = .ok (.if_icmp .ge 46, 3) := by decide +kernel
theorem dL_area_13 : decode cL_area 13 = .ok (.iload 4, 2) := by decide +kernel
theorem dL_area_15 : decode cL_area 15 = .ok (.aload_n 0, 1) := by decide +kernel
theorem dL_area_16 : decode cL_area 16 = .ok (.aload_n 1, 1) := by decide +kernel
theorem dL_area_17 : decode cL_area 17 = .ok (.aload_n 2, 1) := by decide +kernel
theorem dL_area_18 : decode cL_area 18 = .ok (.invokestatic 57, 3) := by decide +kernel
theorem dL_area_21 : decode cL_area 21 = .ok (.istore 5, 2) := by decide +kernel
theorem dL_area_23 : decode cL_area 23 = .ok (.iload_n 3, 1) := by decide +kernel
theorem dL_area_24 : decode cL_area 24 = .ok (.iload 5, 2) := by decide +kernel
theorem dL_area_26 : decode cL_area 26 = .ok (.ifCond .ge 9, 3) := by decide +kernel
theorem dL_area_29 : decode cL_area 29 = .ok (.iload 5, 2) := by decide +kernel
theorem dL_area_31 : decode cL_area 31 = .ok (.ineg, 1) := by decide +kernel
theorem dL_area_32 : decode cL_area 32 = .ok (.goto 5, 3) := by decide +kernel
theorem dL_area_35 : decode cL_area 35 = .ok (.iload 5, 2) := by decide +kernel
theorem dL_area_37 : decode cL_area 37 = .ok (.iload 4, 2) := by decide +kernel
theorem dL_area_39 : decode cL_area 39 = .ok (.ifCond .ne 7, 3) := by decide +kernel
theorem dL_area_42 : decode cL_area 42 = .ok (.iconst 1, 1) := by decide +kernel
theorem dL_area_43 : decode cL_area 43 = .ok (.goto 4, 3) := by decide +kernel
theorem dL_area_46 : decode cL_area 46 = .ok (.iconst (-1), 1) := by decide +kernel
theorem dL_area_47 : decode cL_area 47 = .ok (.imul, 1) := by decide +kernel
theorem dL_area_48 : decode cL_area 48 = .ok (.iadd, 1) := by decide +kernel
theorem dL_area_49 : decode cL_area 49 = .ok (.istore_n 3, 1) := by decide +kernel
theorem dL_area_50 : decode cL_area 50 = .ok (.iinc 4 1, 3) := by decide +kernel
theorem dL_area_53 : decode cL_area 53 = .ok (.goto (-48), 3) := by decide +kernel
theorem dL_area_56 : decode cL_area 56 = .ok (.iload_n 3, 1) := by decide +kernel
theorem dL_area_57 : decode cL_area 57 = .ok (.ireturn, 1) := by decide +kernel
theorem dL_where_0 : decode cL_where 0 = .ok (.iconst 0, 1) := by decide +kernel
theorem dL_where_1 : decode cL_where 1 = .ok (.istore 5, 2) := by decide +kernel
theorem dL_where_3 : decode cL_where 3 = .ok (.iload 5, 2) := by decide +kernel
theorem dL_where_5 : decode cL_where 5 = .ok (.bipush 40, 2) := by decide +kernel
theorem dL_where_7 : decode cL_where 7 = .ok (.if_icmp .ge 67, 3) := by decide +kernel
theorem dL_where_10 : decode cL_where 10 = .ok (.iload 5, 2) := by decide +kernel
theorem dL_where_12 : decode cL_where 12 = .ok (.aload_n 2, 1) := by decide +kernel
theorem dL_where_13 : decode cL_where 13 = .ok (.invokestatic 45, 3) := by decide +kernel
theorem dL_where_16 : decode cL_where 16 = .ok (.ifCond .eq 52, 3) := by decide +kernel
theorem dL_where_19 : decode cL_where 19 = .ok (.aload_n 3, 1) := by decide +kernel
theorem dL_where_20 : decode cL_where 20 = .ok (.iload 5, 2) := by decide +kernel
theorem dL_where_22 : decode cL_where 22 = .ok (.iaload, 1) := by decide +kernel
theorem dL_where_23 : decode cL_where 23 = .ok (.aload 4, 2) := by decide +kernel
theorem dL_where_25 : decode cL_where 25 = .ok (.iload 5, 2) := by decide +kernel
theorem dL_where_27 : decode cL_where 27 = .ok (.iaload, 1) := by decide +kernel
theorem dL_where_28 : decode cL_where 28 = .ok (.aload_n 3, 1) := by decide +kernel
theorem dL_where_29 : decode cL_where 29 = .ok (.iload 5, 2) := by decide +kernel
theorem dL_where_31 : decode cL_where 31 = .ok (.aload_n 2, 1) := by decide +kernel
theorem dL_where_32 : decode cL_where 32 = .ok (.invokestatic 37, 3) := by decide +kernel
theorem dL_where_35 : decode cL_where 35 = .ok (.iaload, 1) := by decide +kernel
theorem dL_where_36 : decode cL_where 36 = .ok (.aload_n 3, 1) := by decide +kernel
theorem dL_where_37 : decode cL_where 37 = .ok (.iload 5, 2) := by decide +kernel
theorem dL_where_39 : decode cL_where 39 = .ok (.iaload, 1) := by decide +kernel
theorem dL_where_40 : decode cL_where 40 = .ok (.isub, 1) := by decide +kernel
theorem dL_where_41 : decode cL_where 41 = .ok (.aload 4, 2) := by decide +kernel
theorem dL_where_43 : decode cL_where 43 = .ok (.iload 5, 2) := by decide +kernel
theorem dL_where_45 : decode cL_where 45 = .ok (.aload_n 2, 1) := by decide +kernel
theorem dL_where_46 : decode cL_where 46 = .ok (.invokestatic 37, 3) := by decide +kernel
theorem dL_where_49 : decode cL_where 49 = .ok (.iaload, 1) := by decide +kernel
theorem dL_where_50 : decode cL_where 50 = .ok (.aload 4, 2) := by decide +kernel
theorem dL_where_52 : decode cL_where 52 = .ok (.iload 5, 2) := by decide +kernel
theorem dL_where_54 : decode cL_where 54 = .ok (.iaload, 1) := by decide +kernel
theorem dL_where_55 : decode cL_where 55 = .ok (.isub, 1) := by decide +kernel
theorem dL_where_56 : decode cL_where 56 = .ok (.iload_n 0, 1) := by decide +kernel
theorem dL_where_57 : decode cL_where 57 = .ok (.iload_n 1, 1) := by decide +kernel
theorem dL_where_58 : decode cL_where 58 = .ok (.iconst 0, 1) := by decide +kernel
theorem dL_where_59 : decode cL_where 59 = .ok (.iconst 0, 1) := by decide +kernel
theorem dL_where_60 : decode cL_where 60 = .ok (.invokestatic 41, 3) := by decide +kernel
theorem dL_where_63 : decode cL_where 63 = .ok (.ifCond .le 5, 3) := by decide +kernel
theorem dL_where_66 : decode cL_where 66 = .ok (.iconst 1, 1) := by decide +kernel
theorem dL_where_67 : decode cL_where 67 = .ok (.ireturn, 1) := by decide +kernel
theorem dL_where_68 : decode cL_where 68 = .ok (.iinc 5 1, 3) := by decide +kernel
theorem dL_where_71 : decode cL_where 71 = .ok (.goto (-68), 3) := by decide +kernel
theorem dL_where_74 : decode cL_where 74 = .ok (.iconst 0, 1) := by decide +kernel
theorem dL_where_75 : decode cL_where 75 = .ok (.iconst 2, 1) := by decide +kernel
theorem dL_where_76 : decode cL_where 76 = .ok (.iload_n 0, 1) := by decide +kernel
theorem dL_where_77 : decode cL_where 77 = .ok (.imul, 1) := by decide +kernel
theorem dL_where_78 : decode cL_where 78 = .ok (.iconst 2, 1) := by decide +kernel
theorem dL_where_79 : decode cL_where 79 = .ok (.iload_n 1, 1) := by decide +kernel
theorem dL_where_80 : decode cL_where 80 = .ok (.imul, 1) := by decide +kernel
theorem dL_where_81 : decode cL_where 81 = .ok (.aload_n 2, 1) := by decide +kernel
theorem dL_where_82 : decode cL_where 82 = .ok (.aload_n 3, 1) := by decide +kernel
theorem dL_where_83 : decode cL_where 83 = .ok (.aload 4, 2) := by decide +kernel
theorem dL_where_85 : decode cL_where 85 = .ok (.invokestatic 53, 3) := by decide +kernel
theorem dL_where_88 : decode cL_where 88 = .ok (.ifCond .ne 5, 3) := by decide +kernel
theorem dL_where_91 : decode cL_where 91 = .ok (.iconst 0, 1) := by decide +kernel
theorem dL_where_92 : decode cL_where 92 = .ok (.ireturn, 1) := by decide +kernel
theorem dL_where_93 : decode cL_where 93 = .ok (.iconst 1, 1) := by decide +kernel
theorem dL_where_94 : decode cL_where 94 = .ok (.istore 5, 2) := by decide +kernel
theorem dL_where_96 : decode cL_where 96 = .ok (.iload 5, 2) := by decide +kernel
theorem dL_where_98 : decode cL_where 98 = .ok (.aload_n 2, 1) := by decide +kernel
theorem dL_where_99 : decode cL_where 99 = .ok (.iconst 0, 1) := by decide +kernel
theorem dL_where_100 : decode cL_where 100 = .ok (.iaload, 1) := by decide +kernel
theorem dL_where_101 : decode cL_where 101 = .ok (.if_icmp .ge 29, 3) := by decide +kernel
theorem dL_where_104 : decode cL_where 104 = .ok (.iload 5, 2) := by decide +kernel
theorem dL_where_106 : decode cL_where 106 = .ok (.iconst 2, 1) := by decide +kernel
theorem dL_where_107 : decode cL_where 107 = .ok (.iload_n 0, 1) := by decide +kernel
theorem dL_where_108 : decode cL_where 108 = .ok (.imul, 1) := by decide +kernel
theorem dL_where_109 : decode cL_where 109 = .ok (.iconst 2, 1) := by decide +kernel
theorem dL_where_110 : decode cL_where 110 = .ok (.iload_n 1, 1) := by decide +kernel
theorem dL_where_111 : decode cL_where 111 = .ok (.imul, 1) := by decide +kernel
theorem dL_where_112 : decode cL_where 112 = .ok (.aload_n 2, 1) := by decide +kernel
theorem dL_where_113 : decode cL_where 113 = .ok (.aload_n 3, 1) := by decide +kernel
theorem dL_where_114 : decode cL_where 114 = .ok (.aload 4, 2) := by decide +kernel
theorem dL_where_116 : decode cL_where 116 = .ok (.invokestatic 53, 3) := by decide +kernel
theorem dL_where_119 : decode cL_where 119 = .ok (.ifCond .eq 5, 3) := by decide +kernel
theorem dL_where_122 : decode cL_where 122 = .ok (.iconst 3, 1) := by decide +kernel
theorem dL_where_123 : decode cL_where 123 = .ok (.ireturn, 1) := by decide +kernel
theorem dL_where_124 : decode cL_where 124 = .ok (.iinc 5 1, 3) := by decide +kernel
theorem dL_where_127 : decode cL_where 127 = .ok (.goto (-31), 3) := by decide +kernel
theorem dL_where_130 : decode cL_where 130 = .ok (.iconst 2, 1) := by decide +kernel
theorem dL_where_131 : decode cL_where 131 = .ok (.ireturn, 1) := by decide +kernel
theorem dL_sees_0 : decode cL_sees 0 = .ok (.iload_n 0, 1) := by decide +kernel
theorem dL_sees_1 : decode cL_sees 1 = .ok (.iload_n 1, 1) := by decide +kernel
theorem dL_sees_2 : decode cL_sees 2 = .ok (.if_icmp .eq 7, 3) := by decide +kernel
theorem dL_sees_5 : decode cL_sees 5 = .ok (.iconst 1, 1) := by decide +kernel
theorem dL_sees_6 : decode cL_sees 6 = .ok (.goto 4, 3) := by decide +kernel
theorem dL_sees_9 : decode cL_sees 9 = .ok (.iconst 0, 1) := by decide +kernel
theorem dL_sees_10 : decode cL_sees 10 = .ok (.istore 5, 2) := by decide +kernel
theorem dL_sees_12 : decode cL_sees 12 = .ok (.iconst 0, 1) := by decide +kernel
theorem dL_sees_13 : decode cL_sees 13 = .ok (.istore 6, 2) := by decide +kernel
theorem dL_sees_15 : decode cL_sees 15 = .ok (.iload 6, 2) := by decide +kernel
theorem dL_sees_17 : decode cL_sees 17 = .ok (.bipush 40, 2) := by decide +kernel
theorem dL_sees_19 : decode cL_sees 19 = .ok (.if_icmp .ge 133, 3) := by decide +kernel
theorem dL_sees_22 : decode cL_sees 22 = .ok (.iload 5, 2) := by decide +kernel
theorem dL_sees_24 : decode cL_sees 24 = .ok (.ifCond .eq 128, 3) := by decide +kernel
theorem dL_sees_27 : decode cL_sees 27 = .ok (.iload 6, 2) := by decide +kernel
theorem dL_sees_29 : decode cL_sees 29 = .ok (.aload_n 2, 1) := by decide +kernel
theorem dL_sees_30 : decode cL_sees 30 = .ok (.invokestatic 45, 3) := by decide +kernel
theorem dL_sees_33 : decode cL_sees 33 = .ok (.ifCond .ne 6, 3) := by decide +kernel
theorem dL_sees_36 : decode cL_sees 36 = .ok (.goto 110, 3) := by decide +kernel
theorem dL_sees_39 : decode cL_sees 39 = .ok (.iload 6, 2) := by decide +kernel
theorem dL_sees_41 : decode cL_sees 41 = .ok (.aload_n 2, 1) := by decide +kernel
theorem dL_sees_42 : decode cL_sees 42 = .ok (.invokestatic 37, 3) := by decide +kernel
theorem dL_sees_45 : decode cL_sees 45 = .ok (.istore 7, 2) := by decide +kernel
theorem dL_sees_47 : decode cL_sees 47 = .ok (.aload_n 3, 1) := by decide +kernel
theorem dL_sees_48 : decode cL_sees 48 = .ok (.iload_n 0, 1) := by decide +kernel
theorem dL_sees_49 : decode cL_sees 49 = .ok (.iaload, 1) := by decide +kernel
theorem dL_sees_50 : decode cL_sees 50 = .ok (.aload 4, 2) := by decide +kernel
theorem dL_sees_52 : decode cL_sees 52 = .ok (.iload_n 0, 1) := by decide +kernel
theorem dL_sees_53 : decode cL_sees 53 = .ok (.iaload, 1) := by decide +kernel
theorem dL_sees_54 : decode cL_sees 54 = .ok (.aload_n 3, 1) := by decide +kernel
theorem dL_sees_55 : decode cL_sees 55 = .ok (.iload_n 1, 1) := by decide +kernel
theorem dL_sees_56 : decode cL_sees 56 = .ok (.iaload, 1) := by decide +kernel
theorem dL_sees_57 : decode cL_sees 57 = .ok (.aload_n 3, 1) := by decide +kernel
theorem dL_sees_58 : decode cL_sees 58 = .ok (.iload_n 0, 1) := by decide +kernel
theorem dL_sees_59 : decode cL_sees 59 = .ok (.iaload, 1) := by decide +kernel
theorem dL_sees_60 : decode cL_sees 60 = .ok (.isub, 1) := by decide +kernel
theorem dL_sees_61 : decode cL_sees 61 = .ok (.aload 4, 2) := by decide +kernel
theorem dL_sees_63 : decode cL_sees 63 = .ok (.iload_n 1, 1) := by decide +kernel
theorem dL_sees_64 : decode cL_sees 64 = .ok (.iaload, 1) := by decide +kernel
theorem dL_sees_65 : decode cL_sees 65 = .ok (.aload 4, 2) := by decide +kernel
theorem dL_sees_67 : decode cL_sees 67 = .ok (.iload_n 0, 1) := by decide +kernel
theorem dL_sees_68 : decode cL_sees 68 = .ok (.iaload, 1) := by decide +kernel
theorem dL_sees_69 : decode cL_sees 69 = .ok (.isub, 1) := by decide +kernel
theorem dL_sees_70 : decode cL_sees 70 = .ok (.aload_n 3, 1) := by decide +kernel
theorem dL_sees_71 : decode cL_sees 71 = .ok (.iload 6, 2) := by decide +kernel
theorem dL_sees_73 : decode cL_sees 73 = .ok (.iaload, 1) := by decide +kernel
theorem dL_sees_74 : decode cL_sees 74 = .ok (.aload 4, 2) := by decide +kernel
theorem dL_sees_76 : decode cL_sees 76 = .ok (.iload 6, 2) := by decide +kernel
theorem dL_sees_78 : decode cL_sees 78 = .ok (.iaload, 1) := by decide +kernel
theorem dL_sees_79 : decode cL_sees 79 = .ok (.aload_n 3, 1) := by decide +kernel
theorem dL_sees_80 : decode cL_sees 80 = .ok (.iload 7, 2) := by decide +kernel
theorem dL_sees_82 : decode cL_sees 82 = .ok (.iaload, 1) := by decide +kernel
theorem dL_sees_83 : decode cL_sees 83 = .ok (.aload_n 3, 1) := by decide +kernel
theorem dL_sees_84 : decode cL_sees 84 = .ok (.iload 6, 2) := by decide +kernel
theorem dL_sees_86 : decode cL_sees 86 = .ok (.iaload, 1) := by decide +kernel
theorem dL_sees_87 : decode cL_sees 87 = .ok (.isub, 1) := by decide +kernel
theorem dL_sees_88 : decode cL_sees 88 = .ok (.aload 4, 2) := by decide +kernel
theorem dL_sees_90 : decode cL_sees 90 = .ok (.iload 7, 2) := by decide +kernel
theorem dL_sees_92 : decode cL_sees 92 = .ok (.iaload, 1) := by decide +kernel
theorem dL_sees_93 : decode cL_sees 93 = .ok (.aload 4, 2) := by decide +kernel
theorem dL_sees_95 : decode cL_sees 95 = .ok (.iload 6, 2) := by decide +kernel
theorem dL_sees_97 : decode cL_sees 97 = .ok (.iaload, 1) := by decide +kernel
theorem dL_sees_98 : decode cL_sees 98 = .ok (.isub, 1) := by decide +kernel
theorem dL_sees_99 : decode cL_sees 99 = .ok (.invokestatic 41, 3) := by decide +kernel
theorem dL_sees_102 : decode cL_sees 102 = .ok (.istore 8, 2) := by decide +kernel
theorem dL_sees_104 : decode cL_sees 104 = .ok (.iload 8, 2) := by decide +kernel
theorem dL_sees_106 : decode cL_sees 106 = .ok (.ifCond .eq 33, 3) := by decide +kernel
theorem dL_sees_109 : decode cL_sees 109 = .ok (.iload 8, 2) := by decide +kernel
theorem dL_sees_111 : decode cL_sees 111 = .ok (.iconst 2, 1) := by decide +kernel
theorem dL_sees_112 : decode cL_sees 112 = .ok (.if_icmp .ne 31, 3) := by decide +kernel
theorem dL_sees_115 : decode cL_sees 115 = .ok (.iload 6, 2) := by decide +kernel
theorem dL_sees_117 : decode cL_sees 117 = .ok (.iload_n 0, 1) := by decide +kernel
theorem dL_sees_118 : decode cL_sees 118 = .ok (.if_icmp .eq 21, 3) := by decide +kernel
theorem dL_sees_121 : decode cL_sees 121 = .ok (.iload 6, 2) := by decide +kernel
theorem dL_sees_123 : decode cL_sees 123 = .ok (.iload_n 1, 1) := by decide +kernel
theorem dL_sees_124 : decode cL_sees 124 = .ok (.if_icmp .eq 15, 3) := by decide +kernel
theorem dL_sees_127 : decode cL_sees 127 = .ok (.iload 7, 2) := by decide +kernel
theorem dL_sees_129 : decode cL_sees 129 = .ok (.iload_n 0, 1) := by decide +kernel
theorem dL_sees_130 : decode cL_sees 130 = .ok (.if_icmp .eq 9, 3) := by decide +kernel
theorem dL_sees_133 : decode cL_sees 133 = .ok (.iload 7, 2) := by decide +kernel
theorem dL_sees_135 : decode cL_sees 135 = .ok (.iload_n 1, 1) := by decide +kernel
theorem dL_sees_136 : decode cL_sees 136 = .ok (.if_icmp .ne 7, 3) := by decide +kernel
theorem dL_sees_139 : decode cL_sees 139 = .ok (.iconst 1, 1) := by decide +kernel
theorem dL_sees_140 : decode cL_sees 140 = .ok (.goto 4, 3) := by decide +kernel
theorem dL_sees_143 : decode cL_sees 143 = .ok (.iconst 0, 1) := by decide +kernel
theorem dL_sees_144 : decode cL_sees 144 = .ok (.istore 5, 2) := by decide +kernel
theorem dL_sees_146 : decode cL_sees 146 = .ok (.iinc 6 1, 3) := by decide +kernel
theorem dL_sees_149 : decode cL_sees 149 = .ok (.goto (-134), 3) := by decide +kernel
theorem dL_sees_152 : decode cL_sees 152 = .ok (.aload_n 3, 1) := by decide +kernel
theorem dL_sees_153 : decode cL_sees 153 = .ok (.iload_n 0, 1) := by decide +kernel
theorem dL_sees_154 : decode cL_sees 154 = .ok (.iaload, 1) := by decide +kernel
theorem dL_sees_155 : decode cL_sees 155 = .ok (.aload_n 3, 1) := by decide +kernel
theorem dL_sees_156 : decode cL_sees 156 = .ok (.iload_n 1, 1) := by decide +kernel
theorem dL_sees_157 : decode cL_sees 157 = .ok (.iaload, 1) := by decide +kernel
theorem dL_sees_158 : decode cL_sees 158 = .ok (.iadd, 1) := by decide +kernel
theorem dL_sees_159 : decode cL_sees 159 = .ok (.istore 6, 2) := by decide +kernel
theorem dL_sees_161 : decode cL_sees 161 = .ok (.aload 4, 2) := by decide +kernel
theorem dL_sees_163 : decode cL_sees 163 = .ok (.iload_n 0, 1) := by decide +kernel
theorem dL_sees_164 : decode cL_sees 164 = .ok (.iaload, 1) := by decide +kernel
theorem dL_sees_165 : decode cL_sees 165 = .ok (.aload 4, 2) := by decide +kernel
theorem dL_sees_167 : decode cL_sees 167 = .ok (.iload_n 1, 1) := by decide +kernel
theorem dL_sees_168 : decode cL_sees 168 = .ok (.iaload, 1) := by decide +kernel
theorem dL_sees_169 : decode cL_sees 169 = .ok (.iadd, 1) := by decide +kernel
theorem dL_sees_170 : decode cL_sees 170 = .ok (.istore 7, 2) := by decide +kernel
theorem dL_sees_172 : decode cL_sees 172 = .ok (.iconst 0, 1) := by decide +kernel
theorem dL_sees_173 : decode cL_sees 173 = .ok (.istore 8, 2) := by decide +kernel
theorem dL_sees_175 : decode cL_sees 175 = .ok (.iload 8, 2) := by decide +kernel
theorem dL_sees_177 : decode cL_sees 177 = .ok (.aload_n 2, 1) := by decide +kernel
theorem dL_sees_178 : decode cL_sees 178 = .ok (.iconst 0, 1) := by decide +kernel
theorem dL_sees_179 : decode cL_sees 179 = .ok (.iaload, 1) := by decide +kernel
theorem dL_sees_180 : decode cL_sees 180 = .ok (.if_icmp .ge 55, 3) := by decide +kernel
theorem dL_sees_183 : decode cL_sees 183 = .ok (.iload 5, 2) := by decide +kernel
theorem dL_sees_185 : decode cL_sees 185 = .ok (.ifCond .eq 50, 3) := by decide +kernel
theorem dL_sees_188 : decode cL_sees 188 = .ok (.iload 8, 2) := by decide +kernel
theorem dL_sees_190 : decode cL_sees 190 = .ok (.iload 6, 2) := by decide +kernel
theorem dL_sees_192 : decode cL_sees 192 = .ok (.iload 7, 2) := by decide +kernel
theorem dL_sees_194 : decode cL_sees 194 = .ok (.aload_n 2, 1) := by decide +kernel
theorem dL_sees_195 : decode cL_sees 195 = .ok (.aload_n 3, 1) := by decide +kernel
theorem dL_sees_196 : decode cL_sees 196 = .ok (.aload 4, 2) := by decide +kernel
theorem dL_sees_198 : decode cL_sees 198 = .ok (.invokestatic 53, 3) := by decide +kernel
theorem dL_sees_201 : decode cL_sees 201 = .ok (.ifCond .eq 7, 3) := by decide +kernel
theorem dL_sees_204 : decode cL_sees 204 = .ok (.iconst 1, 1) := by decide +kernel
theorem dL_sees_205 : decode cL_sees 205 = .ok (.goto 4, 3) := by decide +kernel
theorem dL_sees_208 : decode cL_sees 208 = .ok (.iconst 0, 1) := by decide +kernel
theorem dL_sees_209 : decode cL_sees 209 = .ok (.iload 8, 2) := by decide +kernel
theorem dL_sees_211 : decode cL_sees 211 = .ok (.ifCond .ne 7, 3) := by decide +kernel
theorem dL_sees_214 : decode cL_sees 214 = .ok (.iconst 1, 1) := by decide +kernel
theorem dL_sees_215 : decode cL_sees 215 = .ok (.goto 4, 3) := by decide +kernel
theorem dL_sees_218 : decode cL_sees 218 = .ok (.iconst 0, 1) := by decide +kernel
theorem dL_sees_219 : decode cL_sees 219 = .ok (.if_icmp .ne 7, 3) := by decide +kernel
theorem dL_sees_222 : decode cL_sees 222 = .ok (.iconst 1, 1) := by decide +kernel
theorem dL_sees_223 : decode cL_sees 223 = .ok (.goto 4, 3) := by decide +kernel
theorem dL_sees_226 : decode cL_sees 226 = .ok (.iconst 0, 1) := by decide +kernel
theorem dL_sees_227 : decode cL_sees 227 = .ok (.istore 5, 2) := by decide +kernel
theorem dL_sees_229 : decode cL_sees 229 = .ok (.iinc 8 1, 3) := by decide +kernel
theorem dL_sees_232 : decode cL_sees 232 = .ok (.goto (-57), 3) := by decide +kernel
theorem dL_sees_235 : decode cL_sees 235 = .ok (.iload 5, 2) := by decide +kernel
theorem dL_sees_237 : decode cL_sees 237 = .ok (.ireturn, 1) := by decide +kernel
theorem dL_bend_0 : decode cL_bend 0 = .ok (.iload_n 0, 1) := by decide +kernel
theorem dL_bend_1 : decode cL_bend 1 = .ok (.aload_n 1, 1) := by decide +kernel
theorem dL_bend_2 : decode cL_bend 2 = .ok (.invokestatic 61, 3) := by decide +kernel
theorem dL_bend_5 : decode cL_bend 5 = .ok (.istore 4, 2) := by decide +kernel
theorem dL_bend_7 : decode cL_bend 7 = .ok (.iload_n 0, 1) := by decide +kernel
theorem dL_bend_8 : decode cL_bend 8 = .ok (.aload_n 1, 1) := by decide +kernel
theorem dL_bend_9 : decode cL_bend 9 = .ok (.invokestatic 37, 3) := by decide +kernel
theorem dL_bend_12 : decode cL_bend 12 = .ok (.istore 5, 2) := by decide +kernel
theorem dL_bend_14 : decode cL_bend 14 = .ok (.aload_n 2, 1) := by decide +kernel
theorem dL_bend_15 : decode cL_bend 15 = .ok (.iload_n 0, 1) := by decide +kernel
theorem dL_bend_16 : decode cL_bend 16 = .ok (.iaload, 1) := by decide +kernel
theorem dL_bend_17 : decode cL_bend 17 = .ok (.aload_n 2, 1) := by decide +kernel
theorem dL_bend_18 : decode cL_bend 18 = .ok (.iload 4, 2) := by decide +kernel
theorem dL_bend_20 : decode cL_bend 20 = .ok (.iaload, 1) := by decide +kernel
theorem dL_bend_21 : decode cL_bend 21 = .ok (.isub, 1) := by decide +kernel
theorem dL_bend_22 : decode cL_bend 22 = .ok (.aload_n 3, 1) := by decide +kernel
theorem dL_bend_23 : decode cL_bend 23 = .ok (.iload_n 0, 1) := by decide +kernel
theorem dL_bend_24 : decode cL_bend 24 = .ok (.iaload, 1) := by decide +kernel
theorem dL_bend_25 : decode cL_bend 25 = .ok (.aload_n 3, 1) := by decide +kernel
theorem dL_bend_26 : decode cL_bend 26 = .ok (.iload 4, 2) := by decide +kernel
theorem dL_bend_28 : decode cL_bend 28 = .ok (.iaload, 1) := by decide +kernel
theorem dL_bend_29 : decode cL_bend 29 = .ok (.isub, 1) := by decide +kernel
theorem dL_bend_30 : decode cL_bend 30 = .ok (.aload_n 2, 1) := by decide +kernel
theorem dL_bend_31 : decode cL_bend 31 = .ok (.iload 5, 2) := by decide +kernel
theorem dL_bend_33 : decode cL_bend 33 = .ok (.iaload, 1) := by decide +kernel
theorem dL_bend_34 : decode cL_bend 34 = .ok (.aload_n 2, 1) := by decide +kernel
theorem dL_bend_35 : decode cL_bend 35 = .ok (.iload_n 0, 1) := by decide +kernel
theorem dL_bend_36 : decode cL_bend 36 = .ok (.iaload, 1) := by decide +kernel
theorem dL_bend_37 : decode cL_bend 37 = .ok (.isub, 1) := by decide +kernel
theorem dL_bend_38 : decode cL_bend 38 = .ok (.aload_n 3, 1) := by decide +kernel
theorem dL_bend_39 : decode cL_bend 39 = .ok (.iload 5, 2) := by decide +kernel
theorem dL_bend_41 : decode cL_bend 41 = .ok (.iaload, 1) := by decide +kernel
theorem dL_bend_42 : decode cL_bend 42 = .ok (.aload_n 3, 1) := by decide +kernel
theorem dL_bend_43 : decode cL_bend 43 = .ok (.iload_n 0, 1) := by decide +kernel
theorem dL_bend_44 : decode cL_bend 44 = .ok (.iaload, 1) := by decide +kernel
theorem dL_bend_45 : decode cL_bend 45 = .ok (.isub, 1) := by decide +kernel
theorem dL_bend_46 : decode cL_bend 46 = .ok (.invokestatic 32, 3) := by decide +kernel
theorem dL_bend_49 : decode cL_bend 49 = .ok (.ireturn, 1) := by decide +kernel
theorem dL_kind_0 : decode cL_kind 0 = .ok (.iload_n 0, 1) := by decide +kernel
theorem dL_kind_1 : decode cL_kind 1 = .ok (.aload_n 1, 1) := by decide +kernel
theorem dL_kind_2 : decode cL_kind 2 = .ok (.aload_n 2, 1) := by decide +kernel
theorem dL_kind_3 : decode cL_kind 3 = .ok (.aload_n 3, 1) := by decide +kernel
theorem dL_kind_4 : decode cL_kind 4 = .ok (.invokestatic 64, 3) := by decide +kernel
theorem dL_kind_7 : decode cL_kind 7 = .ok (.istore 4, 2) := by decide +kernel
theorem dL_kind_9 : decode cL_kind 9 = .ok (.iload 4, 2) := by decide +kernel
theorem dL_kind_11 : decode cL_kind 11 = .ok (.ifCond .ne 7, 3) := by decide +kernel
theorem dL_kind_14 : decode cL_kind 14 = .ok (.iconst 0, 1) := by decide +kernel
theorem dL_kind_15 : decode cL_kind 15 = .ok (.goto 39, 3) := by decide +kernel
theorem dL_kind_18 : decode cL_kind 18 = .ok (.iload 4, 2) := by decide +kernel
theorem dL_kind_20 : decode cL_kind 20 = .ok (.ifCond .le 7, 3) := by decide +kernel
theorem dL_kind_23 : decode cL_kind 23 = .ok (.iconst 1, 1) := by decide +kernel
theorem dL_kind_24 : decode cL_kind 24 = .ok (.goto 4, 3) := by decide +kernel
theorem dL_kind_27 : decode cL_kind 27 = .ok (.iconst 0, 1) := by decide +kernel
theorem dL_kind_28 : decode cL_kind 28 = .ok (.iload_n 0, 1) := by decide +kernel
theorem dL_kind_29 : decode cL_kind 29 = .ok (.bipush 10, 2) := by decide +kernel
theorem dL_kind_31 : decode cL_kind 31 = .ok (.idiv, 1) := by decide +kernel
theorem dL_kind_32 : decode cL_kind 32 = .ok (.aload_n 1, 1) := by decide +kernel
theorem dL_kind_33 : decode cL_kind 33 = .ok (.aload_n 2, 1) := by decide +kernel
theorem dL_kind_34 : decode cL_kind 34 = .ok (.aload_n 3, 1) := by decide +kernel
theorem dL_kind_35 : decode cL_kind 35 = .ok (.invokestatic 57, 3) := by decide +kernel
theorem dL_kind_38 : decode cL_kind 38 = .ok (.ifCond .le 7, 3) := by decide +kernel
theorem dL_kind_41 : decode cL_kind 41 = .ok (.iconst 1, 1) := by decide +kernel
theorem dL_kind_42 : decode cL_kind 42 = .ok (.goto 4, 3) := by decide +kernel
theorem dL_kind_45 : decode cL_kind 45 = .ok (.iconst 0, 1) := by decide +kernel
theorem dL_kind_46 : decode cL_kind 46 = .ok (.if_icmp .ne 7, 3) := by decide +kernel
theorem dL_kind_49 : decode cL_kind 49 = .ok (.iconst 1, 1) := by decide +kernel
theorem dL_kind_50 : decode cL_kind 50 = .ok (.goto 4, 3) := by decide +kernel
theorem dL_kind_53 : decode cL_kind 53 = .ok (.iconst (-1), 1) := by decide +kernel
theorem dL_kind_54 : decode cL_kind 54 = .ok (.ireturn, 1) := by decide +kernel
theorem dL_hull_0 : decode cL_hull 0 = .ok (.iconst 0, 1) := by decide +kernel
theorem dL_hull_1 : decode cL_hull 1 = .ok (.istore_n 3, 1) := by decide +kernel
theorem dL_hull_2 : decode cL_hull 2 = .ok (.iconst 0, 1) := by decide +kernel
theorem dL_hull_3 : decode cL_hull 3 = .ok (.istore 4, 2) := by decide +kernel
theorem dL_hull_5 : decode cL_hull 5 = .ok (.iload 4, 2) := by decide +kernel
theorem dL_hull_7 : decode cL_hull 7 = .ok (.aload_n 0, 1) := by decide +kernel
theorem dL_hull_8 : decode cL_hull 8 = .ok (.iconst 1, 1) := by decide +kernel
theorem dL_hull_9 : decode cL_hull 9 = .ok (.iaload, 1) := by decide +kernel
theorem dL_hull_10 : decode cL_hull 10 = .ok (.if_icmp .ge 243, 3) := by decide +kernel
theorem dL_hull_13 : decode cL_hull 13 = .ok (.iconst 0, 1) := by decide +kernel
theorem dL_hull_14 : decode cL_hull 14 = .ok (.istore 5, 2) := by decide +kernel
theorem dL_hull_16 : decode cL_hull 16 = .ok (.iload 5, 2) := by decide +kernel
theorem dL_hull_18 : decode cL_hull 18 = .ok (.aload_n 0, 1) := by decide +kernel
theorem dL_hull_19 : decode cL_hull 19 = .ok (.iconst 1, 1) := by decide +kernel
theorem dL_hull_20 : decode cL_hull 20 = .ok (.iaload, 1) := by decide +kernel
theorem dL_hull_21 : decode cL_hull 21 = .ok (.if_icmp .ge 226, 3) := by decide +kernel
theorem dL_hull_24 : decode cL_hull 24 = .ok (.aload_n 1, 1) := by decide +kernel
theorem dL_hull_25 : decode cL_hull 25 = .ok (.iload 5, 2) := by decide +kernel
theorem dL_hull_27 : decode cL_hull 27 = .ok (.iaload, 1) := by decide +kernel
theorem dL_hull_28 : decode cL_hull 28 = .ok (.aload_n 1, 1) := by decide +kernel
theorem dL_hull_29 : decode cL_hull 29 = .ok (.iload 4, 2) := by decide +kernel
theorem dL_hull_31 : decode cL_hull 31 = .ok (.iaload, 1) := by decide +kernel
theorem dL_hull_32 : decode cL_hull 32 = .ok (.isub, 1) := by decide +kernel
theorem dL_hull_33 : decode cL_hull 33 = .ok (.aload_n 1, 1) := by decide +kernel
theorem dL_hull_34 : decode cL_hull 34 = .ok (.iload 5, 2) := by decide +kernel
theorem dL_hull_36 : decode cL_hull 36 = .ok (.iaload, 1) := by decide +kernel
theorem dL_hull_37 : decode cL_hull 37 = .ok (.aload_n 1, 1) := by decide +kernel
theorem dL_hull_38 : decode cL_hull 38 = .ok (.iload 4, 2) := by decide +kernel
theorem dL_hull_40 : decode cL_hull 40 = .ok (.iaload, 1) := by decide +kernel
theorem dL_hull_41 : decode cL_hull 41 = .ok (.isub, 1) := by decide +kernel
theorem dL_hull_42 : decode cL_hull 42 = .ok (.imul, 1) := by decide +kernel
theorem dL_hull_43 : decode cL_hull 43 = .ok (.aload_n 2, 1) := by decide +kernel
theorem dL_hull_44 : decode cL_hull 44 = .ok (.iload 5, 2) := by decide +kernel
theorem dL_hull_46 : decode cL_hull 46 = .ok (.iaload, 1) := by decide +kernel
theorem dL_hull_47 : decode cL_hull 47 = .ok (.aload_n 2, 1) := by decide +kernel
theorem dL_hull_48 : decode cL_hull 48 = .ok (.iload 4, 2) := by decide +kernel
theorem dL_hull_50 : decode cL_hull 50 = .ok (.iaload, 1) := by decide +kernel
theorem dL_hull_51 : decode cL_hull 51 = .ok (.isub, 1) := by decide +kernel
theorem dL_hull_52 : decode cL_hull 52 = .ok (.aload_n 2, 1) := by decide +kernel
theorem dL_hull_53 : decode cL_hull 53 = .ok (.iload 5, 2) := by decide +kernel
theorem dL_hull_55 : decode cL_hull 55 = .ok (.iaload, 1) := by decide +kernel
theorem dL_hull_56 : decode cL_hull 56 = .ok (.aload_n 2, 1) := by decide +kernel
theorem dL_hull_57 : decode cL_hull 57 = .ok (.iload 4, 2) := by decide +kernel
theorem dL_hull_59 : decode cL_hull 59 = .ok (.iaload, 1) := by decide +kernel
theorem dL_hull_60 : decode cL_hull 60 = .ok (.isub, 1) := by decide +kernel
theorem dL_hull_61 : decode cL_hull 61 = .ok (.imul, 1) := by decide +kernel
theorem dL_hull_62 : decode cL_hull 62 = .ok (.iadd, 1) := by decide +kernel
theorem dL_hull_63 : decode cL_hull 63 = .ok (.istore 6, 2) := by decide +kernel
theorem dL_hull_65 : decode cL_hull 65 = .ok (.iload 6, 2) := by decide +kernel
theorem dL_hull_67 : decode cL_hull 67 = .ok (.ifCond .le 7, 3) := by decide +kernel
theorem dL_hull_70 : decode cL_hull 70 = .ok (.iconst 1, 1) := by decide +kernel
theorem dL_hull_71 : decode cL_hull 71 = .ok (.goto 4, 3) := by decide +kernel
theorem dL_hull_74 : decode cL_hull 74 = .ok (.iconst 0, 1) := by decide +kernel
theorem dL_hull_75 : decode cL_hull 75 = .ok (.istore 7, 2) := by decide +kernel
theorem dL_hull_77 : decode cL_hull 77 = .ok (.iconst 0, 1) := by decide +kernel
theorem dL_hull_78 : decode cL_hull 78 = .ok (.istore 8, 2) := by decide +kernel
theorem dL_hull_80 : decode cL_hull 80 = .ok (.iload 8, 2) := by decide +kernel
theorem dL_hull_82 : decode cL_hull 82 = .ok (.aload_n 0, 1) := by decide +kernel
theorem dL_hull_83 : decode cL_hull 83 = .ok (.iconst 1, 1) := by decide +kernel
theorem dL_hull_84 : decode cL_hull 84 = .ok (.iaload, 1) := by decide +kernel
theorem dL_hull_85 : decode cL_hull 85 = .ok (.if_icmp .ge 125, 3) := by decide +kernel
theorem dL_hull_88 : decode cL_hull 88 = .ok (.aload_n 1, 1) := by decide +kernel
theorem dL_hull_89 : decode cL_hull 89 = .ok (.iload 5, 2) := by decide +kernel
theorem dL_hull_91 : decode cL_hull 91 = .ok (.iaload, 1) := by decide +kernel
theorem dL_hull_92 : decode cL_hull 92 = .ok (.aload_n 1, 1) := by decide +kernel
theorem dL_hull_93 : decode cL_hull 93 = .ok (.iload 4, 2) := by decide +kernel
theorem dL_hull_95 : decode cL_hull 95 = .ok (.iaload, 1) := by decide +kernel
theorem dL_hull_96 : decode cL_hull 96 = .ok (.isub, 1) := by decide +kernel
theorem dL_hull_97 : decode cL_hull 97 = .ok (.aload_n 2, 1) := by decide +kernel
theorem dL_hull_98 : decode cL_hull 98 = .ok (.iload 5, 2) := by decide +kernel
theorem dL_hull_100 : decode cL_hull 100 = .ok (.iaload, 1) := by decide +kernel
theorem dL_hull_101 : decode cL_hull 101 = .ok (.aload_n 2, 1) := by decide +kernel
theorem dL_hull_102 : decode cL_hull 102 = .ok (.iload 4, 2) := by decide +kernel
theorem dL_hull_104 : decode cL_hull 104 = .ok (.iaload, 1) := by decide +kernel
theorem dL_hull_105 : decode cL_hull 105 = .ok (.isub, 1) := by decide +kernel
theorem dL_hull_106 : decode cL_hull 106 = .ok (.aload_n 1, 1) := by decide +kernel
theorem dL_hull_107 : decode cL_hull 107 = .ok (.iload 8, 2) := by decide +kernel
theorem dL_hull_109 : decode cL_hull 109 = .ok (.iaload, 1) := by decide +kernel
theorem dL_hull_110 : decode cL_hull 110 = .ok (.aload_n 1, 1) := by decide +kernel
theorem dL_hull_111 : decode cL_hull 111 = .ok (.iload 4, 2) := by decide +kernel
theorem dL_hull_113 : decode cL_hull 113 = .ok (.iaload, 1) := by decide +kernel
theorem dL_hull_114 : decode cL_hull 114 = .ok (.isub, 1) := by decide +kernel
theorem dL_hull_115 : decode cL_hull 115 = .ok (.aload_n 2, 1) := by decide +kernel
theorem dL_hull_116 : decode cL_hull 116 = .ok (.iload 8, 2) := by decide +kernel
theorem dL_hull_118 : decode cL_hull 118 = .ok (.iaload, 1) := by decide +kernel
theorem dL_hull_119 : decode cL_hull 119 = .ok (.aload_n 2, 1) := by decide +kernel
theorem dL_hull_120 : decode cL_hull 120 = .ok (.iload 4, 2) := by decide +kernel
theorem dL_hull_122 : decode cL_hull 122 = .ok (.iaload, 1) := by decide +kernel
theorem dL_hull_123 : decode cL_hull 123 = .ok (.isub, 1) := by decide +kernel
theorem dL_hull_124 : decode cL_hull 124 = .ok (.invokestatic 32, 3) := by decide +kernel
theorem dL_hull_127 : decode cL_hull 127 = .ok (.istore 9, 2) := by decide +kernel
theorem dL_hull_129 : decode cL_hull 129 = .ok (.aload_n 1, 1) := by decide +kernel
theorem dL_hull_130 : decode cL_hull 130 = .ok (.iload 5, 2) := by decide +kernel
theorem dL_hull_132 : decode cL_hull 132 = .ok (.iaload, 1) := by decide +kernel
theorem dL_hull_133 : decode cL_hull 133 = .ok (.aload_n 1, 1) := by decide +kernel
theorem dL_hull_134 : decode cL_hull 134 = .ok (.iload 4, 2) := by decide +kernel
theorem dL_hull_136 : decode cL_hull 136 = .ok (.iaload, 1) := by decide +kernel
theorem dL_hull_137 : decode cL_hull 137 = .ok (.isub, 1) := by decide +kernel
theorem dL_hull_138 : decode cL_hull 138 = .ok (.aload_n 1, 1) := by decide +kernel
theorem dL_hull_139 : decode cL_hull 139 = .ok (.iload 8, 2) := by decide +kernel
theorem dL_hull_141 : decode cL_hull 141 = .ok (.iaload, 1) := by decide +kernel
theorem dL_hull_142 : decode cL_hull 142 = .ok (.aload_n 1, 1) := by decide +kernel
theorem dL_hull_143 : decode cL_hull 143 = .ok (.iload 4, 2) := by decide +kernel
theorem dL_hull_145 : decode cL_hull 145 = .ok (.iaload, 1) := by decide +kernel
theorem dL_hull_146 : decode cL_hull 146 = .ok (.isub, 1) := by decide +kernel
theorem dL_hull_147 : decode cL_hull 147 = .ok (.imul, 1) := by decide +kernel
theorem dL_hull_148 : decode cL_hull 148 = .ok (.aload_n 2, 1) := by decide +kernel
theorem dL_hull_149 : decode cL_hull 149 = .ok (.iload 5, 2) := by decide +kernel
theorem dL_hull_151 : decode cL_hull 151 = .ok (.iaload, 1) := by decide +kernel
theorem dL_hull_152 : decode cL_hull 152 = .ok (.aload_n 2, 1) := by decide +kernel
theorem dL_hull_153 : decode cL_hull 153 = .ok (.iload 4, 2) := by decide +kernel
theorem dL_hull_155 : decode cL_hull 155 = .ok (.iaload, 1) := by decide +kernel
theorem dL_hull_156 : decode cL_hull 156 = .ok (.isub, 1) := by decide +kernel
theorem dL_hull_157 : decode cL_hull 157 = .ok (.aload_n 2, 1) := by decide +kernel
theorem dL_hull_158 : decode cL_hull 158 = .ok (.iload 8, 2) := by decide +kernel
theorem dL_hull_160 : decode cL_hull 160 = .ok (.iaload, 1) := by decide +kernel
theorem dL_hull_161 : decode cL_hull 161 = .ok (.aload_n 2, 1) := by decide +kernel
theorem dL_hull_162 : decode cL_hull 162 = .ok (.iload 4, 2) := by decide +kernel
theorem dL_hull_164 : decode cL_hull 164 = .ok (.iaload, 1) := by decide +kernel
theorem dL_hull_165 : decode cL_hull 165 = .ok (.isub, 1) := by decide +kernel
theorem dL_hull_166 : decode cL_hull 166 = .ok (.imul, 1) := by decide +kernel
theorem dL_hull_167 : decode cL_hull 167 = .ok (.iadd, 1) := by decide +kernel
theorem dL_hull_168 : decode cL_hull 168 = .ok (.istore 10, 2) := by decide +kernel
theorem dL_hull_170 : decode cL_hull 170 = .ok (.iload 7, 2) := by decide +kernel
theorem dL_hull_172 : decode cL_hull 172 = .ok (.ifCond .eq 29, 3) := by decide +kernel
theorem dL_hull_175 : decode cL_hull 175 = .ok (.iload 9, 2) := by decide +kernel
theorem dL_hull_177 : decode cL_hull 177 = .ok (.ifCond .gt 20, 3) := by decide +kernel
theorem dL_hull_180 : decode cL_hull 180 = .ok (.iload 9, 2) := by decide +kernel
theorem dL_hull_182 : decode cL_hull 182 = .ok (.ifCond .ne 19, 3) := by decide +kernel
theorem dL_hull_185 : decode cL_hull 185 = .ok (.iload 10, 2) := by decide +kernel
theorem dL_hull_187 : decode cL_hull 187 = .ok (.ifCond .lt 14, 3) := by decide +kernel
theorem dL_hull_190 : decode cL_hull 190 = .ok (.iload 10, 2) := by decide +kernel
theorem dL_hull_192 : decode cL_hull 192 = .ok (.iload 6, 2) := by decide +kernel
theorem dL_hull_194 : decode cL_hull 194 = .ok (.if_icmp .gt 7, 3) := by decide +kernel
theorem dL_hull_197 : decode cL_hull 197 = .ok (.iconst 1, 1) := by decide +kernel
theorem dL_hull_198 : decode cL_hull 198 = .ok (.goto 4, 3) := by decide +kernel
theorem dL_hull_201 : decode cL_hull 201 = .ok (.iconst 0, 1) := by decide +kernel
theorem dL_hull_202 : decode cL_hull 202 = .ok (.istore 7, 2) := by decide +kernel
theorem dL_hull_204 : decode cL_hull 204 = .ok (.iinc 8 1, 3) := by decide +kernel
theorem dL_hull_207 : decode cL_hull 207 = .ok (.goto (-127), 3) := by decide +kernel
theorem dL_hull_210 : decode cL_hull 210 = .ok (.iload_n 3, 1) := by decide +kernel
theorem dL_hull_211 : decode cL_hull 211 = .ok (.iload 7, 2) := by decide +kernel
theorem dL_hull_213 : decode cL_hull 213 = .ok (.ifCond .eq 25, 3) := by decide +kernel
theorem dL_hull_216 : decode cL_hull 216 = .ok (.aload_n 1, 1) := by decide +kernel
theorem dL_hull_217 : decode cL_hull 217 = .ok (.iload 4, 2) := by decide +kernel
theorem dL_hull_219 : decode cL_hull 219 = .ok (.iaload, 1) := by decide +kernel
theorem dL_hull_220 : decode cL_hull 220 = .ok (.aload_n 2, 1) := by decide +kernel
theorem dL_hull_221 : decode cL_hull 221 = .ok (.iload 4, 2) := by decide +kernel
theorem dL_hull_223 : decode cL_hull 223 = .ok (.iaload, 1) := by decide +kernel
theorem dL_hull_224 : decode cL_hull 224 = .ok (.aload_n 1, 1) := by decide +kernel
theorem dL_hull_225 : decode cL_hull 225 = .ok (.iload 5, 2) := by decide +kernel
theorem dL_hull_227 : decode cL_hull 227 = .ok (.iaload, 1) := by decide +kernel
theorem dL_hull_228 : decode cL_hull 228 = .ok (.aload_n 2, 1) := by decide +kernel
theorem dL_hull_229 : decode cL_hull 229 = .ok (.iload 5, 2) := by decide +kernel
theorem dL_hull_231 : decode cL_hull 231 = .ok (.iaload, 1) := by decide +kernel
theorem dL_hull_232 : decode cL_hull 232 = .ok (.invokestatic 32, 3) := by decide +kernel
theorem dL_hull_235 : decode cL_hull 235 = .ok (.goto 4, 3) := by decide +kernel
theorem dL_hull_238 : decode cL_hull 238 = .ok (.iconst 0, 1) := by decide +kernel
theorem dL_hull_239 : decode cL_hull 239 = .ok (.iadd, 1) := by decide +kernel
theorem dL_hull_240 : decode cL_hull 240 = .ok (.istore_n 3, 1) := by decide +kernel
theorem dL_hull_241 : decode cL_hull 241 = .ok (.iinc 5 1, 3) := by decide +kernel
theorem dL_hull_244 : decode cL_hull 244 = .ok (.goto (-228), 3) := by decide +kernel
theorem dL_hull_247 : decode cL_hull 247 = .ok (.iinc 4 1, 3) := by decide +kernel
theorem dL_hull_250 : decode cL_hull 250 = .ok (.goto (-245), 3) := by decide +kernel
theorem dL_hull_253 : decode cL_hull 253 = .ok (.iload_n 3, 1) := by decide +kernel
theorem dL_hull_254 : decode cL_hull 254 = .ok (.ireturn, 1) := by decide +kernel
theorem dL_same_0 : decode cL_same 0 = .ok (.iconst 0, 1) := by decide +kernel
theorem dL_same_1 : decode cL_same 1 = .ok (.istore 5, 2) := by decide +kernel
theorem dL_same_3 : decode cL_same 3 = .ok (.iconst 0, 1) := by decide +kernel
theorem dL_same_4 : decode cL_same 4 = .ok (.istore 6, 2) := by decide +kernel
theorem dL_same_6 : decode cL_same 6 = .ok (.iconst 0, 1) := by decide +kernel
theorem dL_same_7 : decode cL_same 7 = .ok (.istore 7, 2) := by decide +kernel
theorem dL_same_9 : decode cL_same 9 = .ok (.iconst 0, 1) := by decide +kernel
theorem dL_same_10 : decode cL_same 10 = .ok (.istore 8, 2) := by decide +kernel
theorem dL_same_12 : decode cL_same 12 = .ok (.iconst 0, 1) := by decide +kernel
theorem dL_same_13 : decode cL_same 13 = .ok (.istore 9, 2) := by decide +kernel
theorem dL_same_15 : decode cL_same 15 = .ok (.iconst 0, 1) := by decide +kernel
theorem dL_same_16 : decode cL_same 16 = .ok (.istore 10, 2) := by decide +kernel
theorem dL_same_18 : decode cL_same 18 = .ok (.iload 10, 2) := by decide +kernel
theorem dL_same_20 : decode cL_same 20 = .ok (.bipush 40, 2) := by decide +kernel
theorem dL_same_22 : decode cL_same 22 = .ok (.if_icmp .ge 382, 3) := by decide +kernel
theorem dL_same_25 : decode cL_same 25 = .ok (.iload 10, 2) := by decide +kernel
theorem dL_same_27 : decode cL_same 27 = .ok (.aload_n 2, 1) := by decide +kernel
theorem dL_same_28 : decode cL_same 28 = .ok (.invokestatic 45, 3) := by decide +kernel
theorem dL_same_31 : decode cL_same 31 = .ok (.ifCond .ne 6, 3) := by decide +kernel
theorem dL_same_34 : decode cL_same 34 = .ok (.goto 364, 3) := by decide +kernel
theorem dL_same_37 : decode cL_same 37 = .ok (.iload 10, 2) := by decide +kernel
theorem dL_same_39 : decode cL_same 39 = .ok (.bipush 10, 2) := by decide +kernel
theorem dL_same_41 : decode cL_same 41 = .ok (.idiv, 1) := by decide +kernel
theorem dL_same_42 : decode cL_same 42 = .ok (.istore 11, 2) := by decide +kernel
theorem dL_same_44 : decode cL_same 44 = .ok (.iload 10, 2) := by decide +kernel
theorem dL_same_46 : decode cL_same 46 = .ok (.bipush 10, 2) := by decide +kernel
theorem dL_same_48 : decode cL_same 48 = .ok (.irem, 1) := by decide +kernel
theorem dL_same_49 : decode cL_same 49 = .ok (.istore 12, 2) := by decide +kernel
theorem dL_same_51 : decode cL_same 51 = .ok (.iconst 0, 1) := by decide +kernel
theorem dL_same_52 : decode cL_same 52 = .ok (.istore 13, 2) := by decide +kernel
theorem dL_same_54 : decode cL_same 54 = .ok (.iinc 5 1, 3) := by decide +kernel
theorem dL_same_57 : decode cL_same 57 = .ok (.iconst 0, 1) := by decide +kernel
theorem dL_same_58 : decode cL_same 58 = .ok (.istore 14, 2) := by decide +kernel
theorem dL_same_60 : decode cL_same 60 = .ok (.iload 14, 2) := by decide +kernel
theorem dL_same_62 : decode cL_same 62 = .ok (.bipush 40, 2) := by decide +kernel
theorem dL_same_64 : decode cL_same 64 = .ok (.if_icmp .ge 74, 3) := by decide +kernel
theorem dL_same_67 : decode cL_same 67 = .ok (.iload 14, 2) := by decide +kernel
theorem dL_same_69 : decode cL_same 69 = .ok (.aload_n 2, 1) := by decide +kernel
theorem dL_same_70 : decode cL_same 70 = .ok (.invokestatic 45, 3) := by decide +kernel
theorem dL_same_73 : decode cL_same 73 = .ok (.ifCond .ne 6, 3) := by decide +kernel
theorem dL_same_76 : decode cL_same 76 = .ok (.goto 56, 3) := by decide +kernel
theorem dL_same_79 : decode cL_same 79 = .ok (.iload 10, 2) := by decide +kernel
theorem dL_same_81 : decode cL_same 81 = .ok (.iload 14, 2) := by decide +kernel
theorem dL_same_83 : decode cL_same 83 = .ok (.aload_n 2, 1) := by decide +kernel
theorem dL_same_84 : decode cL_same 84 = .ok (.aload_n 3, 1) := by decide +kernel
theorem dL_same_85 : decode cL_same 85 = .ok (.aload 4, 2) := by decide +kernel
theorem dL_same_87 : decode cL_same 87 = .ok (.invokestatic 67, 3) := by decide +kernel
theorem dL_same_90 : decode cL_same 90 = .ok (.istore 15, 2) := by decide +kernel
theorem dL_same_92 : decode cL_same 92 = .ok (.iload 13, 2) := by decide +kernel
theorem dL_same_94 : decode cL_same 94 = .ok (.iload 15, 2) := by decide +kernel
theorem dL_same_96 : decode cL_same 96 = .ok (.ifCond .eq 7, 3) := by decide +kernel
theorem dL_same_99 : decode cL_same 99 = .ok (.iconst 1, 1) := by decide +kernel
theorem dL_same_100 : decode cL_same 100 = .ok (.goto 4, 3) := by decide +kernel
theorem dL_same_103 : decode cL_same 103 = .ok (.iconst 0, 1) := by decide +kernel
theorem dL_same_104 : decode cL_same 104 = .ok (.iadd, 1) := by decide +kernel
theorem dL_same_105 : decode cL_same 105 = .ok (.istore 13, 2) := by decide +kernel
theorem dL_same_107 : decode cL_same 107 = .ok (.aload_n 0, 1) := by decide +kernel
theorem dL_same_108 : decode cL_same 108 = .ok (.iload 11, 2) := by decide +kernel
theorem dL_same_110 : decode cL_same 110 = .ok (.iload 12, 2) := by decide +kernel
theorem dL_same_112 : decode cL_same 112 = .ok (.iload 14, 2) := by decide +kernel
theorem dL_same_114 : decode cL_same 114 = .ok (.bipush 10, 2) := by decide +kernel
theorem dL_same_116 : decode cL_same 116 = .ok (.idiv, 1) := by decide +kernel
theorem dL_same_117 : decode cL_same 117 = .ok (.iload 14, 2) := by decide +kernel
theorem dL_same_119 : decode cL_same 119 = .ok (.bipush 10, 2) := by decide +kernel
theorem dL_same_121 : decode cL_same 121 = .ok (.irem, 1) := by decide +kernel
theorem dL_same_122 : decode cL_same 122 = .ok (.invokevirtual 71, 3) := by decide +kernel
theorem dL_same_125 : decode cL_same 125 = .ok (.iload 15, 2) := by decide +kernel
theorem dL_same_127 : decode cL_same 127 = .ok (.if_icmp .eq 5, 3) := by decide +kernel
theorem dL_same_130 : decode cL_same 130 = .ok (.iconst 0, 1) := by decide +kernel
theorem dL_same_131 : decode cL_same 131 = .ok (.ireturn, 1) := by decide +kernel
theorem dL_same_132 : decode cL_same 132 = .ok (.iinc 14 1, 3) := by decide +kernel
theorem dL_same_135 : decode cL_same 135 = .ok (.goto (-75), 3) := by decide +kernel
theorem dL_same_138 : decode cL_same 138 = .ok (.iload 6, 2) := by decide +kernel
theorem dL_same_140 : decode cL_same 140 = .ok (.iload 13, 2) := by decide +kernel
theorem dL_same_142 : decode cL_same 142 = .ok (.iadd, 1) := by decide +kernel
theorem dL_same_143 : decode cL_same 143 = .ok (.istore 6, 2) := by decide +kernel
theorem dL_same_145 : decode cL_same 145 = .ok (.iload 10, 2) := by decide +kernel
theorem dL_same_147 : decode cL_same 147 = .ok (.aload_n 2, 1) := by decide +kernel
theorem dL_same_148 : decode cL_same 148 = .ok (.aload_n 3, 1) := by decide +kernel
theorem dL_same_149 : decode cL_same 149 = .ok (.aload 4, 2) := by decide +kernel
theorem dL_same_151 : decode cL_same 151 = .ok (.invokestatic 74, 3) := by decide +kernel
theorem dL_same_154 : decode cL_same 154 = .ok (.istore 14, 2) := by decide +kernel
theorem dL_same_156 : decode cL_same 156 = .ok (.iload 10, 2) := by decide +kernel
theorem dL_same_158 : decode cL_same 158 = .ok (.aload_n 2, 1) := by decide +kernel
theorem dL_same_159 : decode cL_same 159 = .ok (.aload_n 3, 1) := by decide +kernel
theorem dL_same_160 : decode cL_same 160 = .ok (.aload 4, 2) := by decide +kernel
theorem dL_same_162 : decode cL_same 162 = .ok (.invokestatic 64, 3) := by decide +kernel
theorem dL_same_165 : decode cL_same 165 = .ok (.istore 15, 2) := by decide +kernel
theorem dL_same_167 : decode cL_same 167 = .ok (.iload 11, 2) := by decide +kernel
theorem dL_same_169 : decode cL_same 169 = .ok (.ifCond .ne 42, 3) := by decide +kernel
theorem dL_same_172 : decode cL_same 172 = .ok (.aload_n 2, 1) := by decide +kernel
theorem dL_same_173 : decode cL_same 173 = .ok (.iconst 1, 1) := by decide +kernel
theorem dL_same_174 : decode cL_same 174 = .ok (.iaload, 1) := by decide +kernel
theorem dL_same_175 : decode cL_same 175 = .ok (.iconst 3, 1) := by decide +kernel
theorem dL_same_176 : decode cL_same 176 = .ok (.if_icmp .le 35, 3) := by decide +kernel
theorem dL_same_179 : decode cL_same 179 = .ok (.iload 14, 2) := by decide +kernel
theorem dL_same_181 : decode cL_same 181 = .ok (.iconst 1, 1) := by decide +kernel
theorem dL_same_182 : decode cL_same 182 = .ok (.if_icmp .ne 29, 3) := by decide +kernel
theorem dL_same_185 : decode cL_same 185 = .ok (.iload 10, 2) := by decide +kernel
theorem dL_same_187 : decode cL_same 187 = .ok (.aload_n 2, 1) := by decide +kernel
theorem dL_same_188 : decode cL_same 188 = .ok (.invokestatic 61, 3) := by decide +kernel
theorem dL_same_191 : decode cL_same 191 = .ok (.iload 10, 2) := by decide +kernel
theorem dL_same_193 : decode cL_same 193 = .ok (.aload_n 2, 1) := by decide +kernel
theorem dL_same_194 : decode cL_same 194 = .ok (.invokestatic 37, 3) := by decide +kernel
theorem dL_same_197 : decode cL_same 197 = .ok (.aload_n 2, 1) := by decide +kernel
theorem dL_same_198 : decode cL_same 198 = .ok (.aload_n 3, 1) := by decide +kernel
theorem dL_same_199 : decode cL_same 199 = .ok (.aload 4, 2) := by decide +kernel
theorem dL_same_201 : decode cL_same 201 = .ok (.invokestatic 67, 3) := by decide +kernel
theorem dL_same_204 : decode cL_same 204 = .ok (.ifCond .eq 7, 3) := by decide +kernel
theorem dL_same_207 : decode cL_same 207 = .ok (.iconst 1, 1) := by decide +kernel
theorem dL_same_208 : decode cL_same 208 = .ok (.goto 4, 3) := by decide +kernel
theorem dL_same_211 : decode cL_same 211 = .ok (.iconst 0, 1) := by decide +kernel
theorem dL_same_212 : decode cL_same 212 = .ok (.istore 16, 2) := by decide +kernel
theorem dL_same_214 : decode cL_same 214 = .ok (.iload 8, 2) := by decide +kernel
theorem dL_same_216 : decode cL_same 216 = .ok (.iload 11, 2) := by decide +kernel
theorem dL_same_218 : decode cL_same 218 = .ok (.ifCond .ne 13, 3) := by decide +kernel
theorem dL_same_221 : decode cL_same 221 = .ok (.iload 14, 2) := by decide +kernel
theorem dL_same_223 : decode cL_same 223 = .ok (.iconst 1, 1) := by decide +kernel
theorem dL_same_224 : decode cL_same 224 = .ok (.if_icmp .ne 7, 3) := by decide +kernel
theorem dL_same_227 : decode cL_same 227 = .ok (.iconst 1, 1) := by decide +kernel
theorem dL_same_228 : decode cL_same 228 = .ok (.goto 4, 3) := by decide +kernel
theorem dL_same_231 : decode cL_same 231 = .ok (.iconst 0, 1) := by decide +kernel
theorem dL_same_232 : decode cL_same 232 = .ok (.iadd, 1) := by decide +kernel
theorem dL_same_233 : decode cL_same 233 = .ok (.istore 8, 2) := by decide +kernel
theorem dL_same_235 : decode cL_same 235 = .ok (.iload 9, 2) := by decide +kernel
theorem dL_same_237 : decode cL_same 237 = .ok (.iload 11, 2) := by decide +kernel
theorem dL_same_239 : decode cL_same 239 = .ok (.ifCond .ne 13, 3) := by decide +kernel
theorem dL_same_242 : decode cL_same 242 = .ok (.iload 14, 2) := by decide +kernel
theorem dL_same_244 : decode cL_same 244 = .ok (.iconst (-1), 1) := by decide +kernel
theorem dL_same_245 : decode cL_same 245 = .ok (.if_icmp .ne 7, 3) := by decide +kernel
theorem dL_same_248 : decode cL_same 248 = .ok (.iconst 1, 1) := by decide +kernel
theorem dL_same_249 : decode cL_same 249 = .ok (.goto 4, 3) := by decide +kernel
theorem dL_same_252 : decode cL_same 252 = .ok (.iconst 0, 1) := by decide +kernel
theorem dL_same_253 : decode cL_same 253 = .ok (.iadd, 1) := by decide +kernel
theorem dL_same_254 : decode cL_same 254 = .ok (.istore 9, 2) := by decide +kernel
theorem dL_same_256 : decode cL_same 256 = .ok (.iload 7, 2) := by decide +kernel
theorem dL_same_258 : decode cL_same 258 = .ok (.iload 16, 2) := by decide +kernel
theorem dL_same_260 : decode cL_same 260 = .ok (.ifCond .eq 7, 3) := by decide +kernel
theorem dL_same_263 : decode cL_same 263 = .ok (.iconst 1, 1) := by decide +kernel
theorem dL_same_264 : decode cL_same 264 = .ok (.goto 4, 3) := by decide +kernel
theorem dL_same_267 : decode cL_same 267 = .ok (.iconst 0, 1) := by decide +kernel
theorem dL_same_268 : decode cL_same 268 = .ok (.iadd, 1) := by decide +kernel
theorem dL_same_269 : decode cL_same 269 = .ok (.istore 7, 2) := by decide +kernel
theorem dL_same_271 : decode cL_same 271 = .ok (.aload_n 0, 1) := by decide +kernel
theorem dL_same_272 : decode cL_same 272 = .ok (.iload 11, 2) := by decide +kernel
theorem dL_same_274 : decode cL_same 274 = .ok (.iload 12, 2) := by decide +kernel
theorem dL_same_276 : decode cL_same 276 = .ok (.iconst 0, 1) := by decide +kernel
theorem dL_same_277 : decode cL_same 277 = .ok (.invokevirtual 77, 3) := by decide +kernel
theorem dL_same_280 : decode cL_same 280 = .ok (.aload_n 3, 1) := by decide +kernel
theorem dL_same_281 : decode cL_same 281 = .ok (.iload 10, 2) := by decide +kernel
theorem dL_same_283 : decode cL_same 283 = .ok (.iaload, 1) := by decide +kernel
theorem dL_same_284 : decode cL_same 284 = .ok (.if_icmp .ne 73, 3) := by decide +kernel
theorem dL_same_287 : decode cL_same 287 = .ok (.aload_n 0, 1) := by decide +kernel
theorem dL_same_288 : decode cL_same 288 = .ok (.iload 11, 2) := by decide +kernel
theorem dL_same_290 : decode cL_same 290 = .ok (.iload 12, 2) := by decide +kernel
theorem dL_same_292 : decode cL_same 292 = .ok (.iconst 1, 1) := by decide +kernel
theorem dL_same_293 : decode cL_same 293 = .ok (.invokevirtual 77, 3) := by decide +kernel
theorem dL_same_296 : decode cL_same 296 = .ok (.aload 4, 2) := by decide +kernel
theorem dL_same_298 : decode cL_same 298 = .ok (.iload 10, 2) := by decide +kernel
theorem dL_same_300 : decode cL_same 300 = .ok (.iaload, 1) := by decide +kernel
theorem dL_same_301 : decode cL_same 301 = .ok (.if_icmp .ne 56, 3) := by decide +kernel
theorem dL_same_304 : decode cL_same 304 = .ok (.aload_n 0, 1) := by decide +kernel
theorem dL_same_305 : decode cL_same 305 = .ok (.iload 11, 2) := by decide +kernel
theorem dL_same_307 : decode cL_same 307 = .ok (.iload 12, 2) := by decide +kernel
theorem dL_same_309 : decode cL_same 309 = .ok (.iconst 2, 1) := by decide +kernel
theorem dL_same_310 : decode cL_same 310 = .ok (.invokevirtual 77, 3) := by decide +kernel
theorem dL_same_313 : decode cL_same 313 = .ok (.iload 14, 2) := by decide +kernel
theorem dL_same_315 : decode cL_same 315 = .ok (.if_icmp .ne 42, 3) := by decide +kernel
theorem dL_same_318 : decode cL_same 318 = .ok (.aload_n 0, 1) := by decide +kernel
theorem dL_same_319 : decode cL_same 319 = .ok (.iload 11, 2) := by decide +kernel
theorem dL_same_321 : decode cL_same 321 = .ok (.iload 12, 2) := by decide +kernel
theorem dL_same_323 : decode cL_same 323 = .ok (.iconst 3, 1) := by decide +kernel
theorem dL_same_324 : decode cL_same 324 = .ok (.invokevirtual 77, 3) := by decide +kernel
theorem dL_same_327 : decode cL_same 327 = .ok (.iload 13, 2) := by decide +kernel
theorem dL_same_329 : decode cL_same 329 = .ok (.if_icmp .ne 28, 3) := by decide +kernel
theorem dL_same_332 : decode cL_same 332 = .ok (.aload_n 0, 1) := by decide +kernel
theorem dL_same_333 : decode cL_same 333 = .ok (.iload 11, 2) := by decide +kernel
theorem dL_same_335 : decode cL_same 335 = .ok (.iload 12, 2) := by decide +kernel
theorem dL_same_337 : decode cL_same 337 = .ok (.iconst 4, 1) := by decide +kernel
theorem dL_same_338 : decode cL_same 338 = .ok (.invokevirtual 77, 3) := by decide +kernel
theorem dL_same_341 : decode cL_same 341 = .ok (.iload 15, 2) := by decide +kernel
theorem dL_same_343 : decode cL_same 343 = .ok (.ifCond .ge 9, 3) := by decide +kernel
theorem dL_same_346 : decode cL_same 346 = .ok (.iload 15, 2) := by decide +kernel
theorem dL_same_348 : decode cL_same 348 = .ok (.ineg, 1) := by decide +kernel
theorem dL_same_349 : decode cL_same 349 = .ok (.goto 5, 3) := by decide +kernel
theorem dL_same_352 : decode cL_same 352 = .ok (.iload 15, 2) := by decide +kernel
theorem dL_same_354 : decode cL_same 354 = .ok (.if_icmp .eq 5, 3) := by decide +kernel
theorem dL_same_357 : decode cL_same 357 = .ok (.iconst 0, 1) := by decide +kernel
theorem dL_same_358 : decode cL_same 358 = .ok (.ireturn, 1) := by decide +kernel
theorem dL_same_359 : decode cL_same 359 = .ok (.iload 11, 2) := by decide +kernel
theorem dL_same_361 : decode cL_same 361 = .ok (.ifCond .ne 37, 3) := by decide +kernel
theorem dL_same_364 : decode cL_same 364 = .ok (.aload_n 0, 1) := by decide +kernel
theorem dL_same_365 : decode cL_same 365 = .ok (.iload 12, 2) := by decide +kernel
theorem dL_same_367 : decode cL_same 367 = .ok (.invokevirtual 81, 3) := by decide +kernel
theorem dL_same_370 : decode cL_same 370 = .ok (.iload 16, 2) := by decide +kernel
theorem dL_same_372 : decode cL_same 372 = .ok (.ifCond .eq 19, 3) := by decide +kernel
theorem dL_same_375 : decode cL_same 375 = .ok (.iload 15, 2) := by decide +kernel
theorem dL_same_377 : decode cL_same 377 = .ok (.ifCond .ge 9, 3) := by decide +kernel
theorem dL_same_380 : decode cL_same 380 = .ok (.iload 15, 2) := by decide +kernel
theorem dL_same_382 : decode cL_same 382 = .ok (.ineg, 1) := by decide +kernel
theorem dL_same_383 : decode cL_same 383 = .ok (.goto 10, 3) := by decide +kernel
theorem dL_same_386 : decode cL_same 386 = .ok (.iload 15, 2) := by decide +kernel
theorem dL_same_388 : decode cL_same 388 = .ok (.goto 5, 3) := by decide +kernel
theorem dL_same_391 : decode cL_same 391 = .ok (.bipush (-9), 2) := by decide +kernel
theorem dL_same_393 : decode cL_same 393 = .ok (.if_icmp .eq 5, 3) := by decide +kernel
theorem dL_same_396 : decode cL_same 396 = .ok (.iconst 0, 1) := by decide +kernel
theorem dL_same_397 : decode cL_same 397 = .ok (.ireturn, 1) := by decide +kernel
theorem dL_same_398 : decode cL_same 398 = .ok (.iinc 10 1, 3) := by decide +kernel
theorem dL_same_401 : decode cL_same 401 = .ok (.goto (-383), 3) := by decide +kernel
theorem dL_same_404 : decode cL_same 404 = .ok (.iconst 0, 1) := by decide +kernel
theorem dL_same_405 : decode cL_same 405 = .ok (.istore 10, 2) := by decide +kernel
theorem dL_same_407 : decode cL_same 407 = .ok (.iconst 0, 1) := by decide +kernel
theorem dL_same_408 : decode cL_same 408 = .ok (.istore 11, 2) := by decide +kernel
theorem dL_same_410 : decode cL_same 410 = .ok (.iconst 0, 1) := by decide +kernel
theorem dL_same_411 : decode cL_same 411 = .ok (.istore 12, 2) := by decide +kernel
theorem dL_same_413 : decode cL_same 413 = .ok (.iload 12, 2) := by decide +kernel
theorem dL_same_415 : decode cL_same 415 = .ok (.bipush 16, 2) := by decide +kernel
theorem dL_same_417 : decode cL_same 417 = .ok (.if_icmp .ge 146, 3) := by decide +kernel
theorem dL_same_420 : decode cL_same 420 = .ok (.iconst 0, 1) := by decide +kernel
theorem dL_same_421 : decode cL_same 421 = .ok (.istore 13, 2) := by decide +kernel
theorem dL_same_423 : decode cL_same 423 = .ok (.iconst 0, 1) := by decide +kernel
theorem dL_same_424 : decode cL_same 424 = .ok (.istore 14, 2) := by decide +kernel
theorem dL_same_426 : decode cL_same 426 = .ok (.iconst 0, 1) := by decide +kernel
theorem dL_same_427 : decode cL_same 427 = .ok (.istore 15, 2) := by decide +kernel
theorem dL_same_429 : decode cL_same 429 = .ok (.iload 15, 2) := by decide +kernel
theorem dL_same_431 : decode cL_same 431 = .ok (.bipush 16, 2) := by decide +kernel
theorem dL_same_433 : decode cL_same 433 = .ok (.if_icmp .ge 75, 3) := by decide +kernel
theorem dL_same_436 : decode cL_same 436 = .ok (.iload 15, 2) := by decide +kernel
theorem dL_same_438 : decode cL_same 438 = .ok (.iload 12, 2) := by decide +kernel
theorem dL_same_440 : decode cL_same 440 = .ok (.aload_n 2, 1) := by decide +kernel
theorem dL_same_441 : decode cL_same 441 = .ok (.aload_n 3, 1) := by decide +kernel
theorem dL_same_442 : decode cL_same 442 = .ok (.aload 4, 2) := by decide +kernel
theorem dL_same_444 : decode cL_same 444 = .ok (.invokestatic 85, 3) := by decide +kernel
theorem dL_same_447 : decode cL_same 447 = .ok (.istore 16, 2) := by decide +kernel
theorem dL_same_449 : decode cL_same 449 = .ok (.iload 13, 2) := by decide +kernel
theorem dL_same_451 : decode cL_same 451 = .ok (.iload 16, 2) := by decide +kernel
theorem dL_same_453 : decode cL_same 453 = .ok (.iconst 2, 1) := by decide +kernel
theorem dL_same_454 : decode cL_same 454 = .ok (.if_icmp .ne 7, 3) := by decide +kernel
theorem dL_same_457 : decode cL_same 457 = .ok (.iconst 1, 1) := by decide +kernel
theorem dL_same_458 : decode cL_same 458 = .ok (.goto 4, 3) := by decide +kernel
theorem dL_same_461 : decode cL_same 461 = .ok (.iconst 0, 1) := by decide +kernel
theorem dL_same_462 : decode cL_same 462 = .ok (.iadd, 1) := by decide +kernel
theorem dL_same_463 : decode cL_same 463 = .ok (.istore 13, 2) := by decide +kernel
theorem dL_same_465 : decode cL_same 465 = .ok (.iload 14, 2) := by decide +kernel
theorem dL_same_467 : decode cL_same 467 = .ok (.iload 16, 2) := by decide +kernel
theorem dL_same_469 : decode cL_same 469 = .ok (.iconst 1, 1) := by decide +kernel
theorem dL_same_470 : decode cL_same 470 = .ok (.if_icmp .ne 7, 3) := by decide +kernel
theorem dL_same_473 : decode cL_same 473 = .ok (.iconst 1, 1) := by decide +kernel
theorem dL_same_474 : decode cL_same 474 = .ok (.goto 4, 3) := by decide +kernel
theorem dL_same_477 : decode cL_same 477 = .ok (.iconst 0, 1) := by decide +kernel
theorem dL_same_478 : decode cL_same 478 = .ok (.iadd, 1) := by decide +kernel
theorem dL_same_479 : decode cL_same 479 = .ok (.istore 14, 2) := by decide +kernel
theorem dL_same_481 : decode cL_same 481 = .ok (.iload 12, 2) := by decide +kernel
theorem dL_same_483 : decode cL_same 483 = .ok (.iload_n 1, 1) := by decide +kernel
theorem dL_same_484 : decode cL_same 484 = .ok (.if_icmp .ne 18, 3) := by decide +kernel
theorem dL_same_487 : decode cL_same 487 = .ok (.aload_n 0, 1) := by decide +kernel
theorem dL_same_488 : decode cL_same 488 = .ok (.iload 15, 2) := by decide +kernel
theorem dL_same_490 : decode cL_same 490 = .ok (.iload 12, 2) := by decide +kernel
theorem dL_same_492 : decode cL_same 492 = .ok (.invokevirtual 88, 3) := by decide +kernel
theorem dL_same_495 : decode cL_same 495 = .ok (.iload 16, 2) := by decide +kernel
theorem dL_same_497 : decode cL_same 497 = .ok (.if_icmp .eq 5, 3) := by decide +kernel
theorem dL_same_500 : decode cL_same 500 = .ok (.iconst 0, 1) := by decide +kernel
theorem dL_same_501 : decode cL_same 501 = .ok (.ireturn, 1) := by decide +kernel
theorem dL_same_502 : decode cL_same 502 = .ok (.iinc 15 1, 3) := by decide +kernel
theorem dL_same_505 : decode cL_same 505 = .ok (.goto (-76), 3) := by decide +kernel
theorem dL_same_508 : decode cL_same 508 = .ok (.iload 12, 2) := by decide +kernel
theorem dL_same_510 : decode cL_same 510 = .ok (.iload_n 1, 1) := by decide +kernel
theorem dL_same_511 : decode cL_same 511 = .ok (.if_icmp .ne 32, 3) := by decide +kernel
theorem dL_same_514 : decode cL_same 514 = .ok (.aload_n 0, 1) := by decide +kernel
theorem dL_same_515 : decode cL_same 515 = .ok (.iload 12, 2) := by decide +kernel
theorem dL_same_517 : decode cL_same 517 = .ok (.iconst 0, 1) := by decide +kernel
theorem dL_same_518 : decode cL_same 518 = .ok (.invokevirtual 91, 3) := by decide +kernel
theorem dL_same_521 : decode cL_same 521 = .ok (.iload 13, 2) := by decide +kernel
theorem dL_same_523 : decode cL_same 523 = .ok (.if_icmp .ne 18, 3) := by decide +kernel
theorem dL_same_526 : decode cL_same 526 = .ok (.aload_n 0, 1) := by decide +kernel
theorem dL_same_527 : decode cL_same 527 = .ok (.iload 12, 2) := by decide +kernel
theorem dL_same_529 : decode cL_same 529 = .ok (.iconst 1, 1) := by decide +kernel
theorem dL_same_530 : decode cL_same 530 = .ok (.invokevirtual 91, 3) := by decide +kernel
theorem dL_same_533 : decode cL_same 533 = .ok (.iload 13, 2) := by decide +kernel
theorem dL_same_535 : decode cL_same 535 = .ok (.iload 14, 2) := by decide +kernel
theorem dL_same_537 : decode cL_same 537 = .ok (.iadd, 1) := by decide +kernel
theorem dL_same_538 : decode cL_same 538 = .ok (.if_icmp .eq 5, 3) := by decide +kernel
theorem dL_same_541 : decode cL_same 541 = .ok (.iconst 0, 1) := by decide +kernel
theorem dL_same_542 : decode cL_same 542 = .ok (.ireturn, 1) := by decide +kernel
theorem dL_same_543 : decode cL_same 543 = .ok (.iload 10, 2) := by decide +kernel
theorem dL_same_545 : decode cL_same 545 = .ok (.iload 13, 2) := by decide +kernel
theorem dL_same_547 : decode cL_same 547 = .ok (.iadd, 1) := by decide +kernel
theorem dL_same_548 : decode cL_same 548 = .ok (.istore 10, 2) := by decide +kernel
theorem dL_same_550 : decode cL_same 550 = .ok (.iload 11, 2) := by decide +kernel
theorem dL_same_552 : decode cL_same 552 = .ok (.iload 14, 2) := by decide +kernel
theorem dL_same_554 : decode cL_same 554 = .ok (.iadd, 1) := by decide +kernel
theorem dL_same_555 : decode cL_same 555 = .ok (.istore 11, 2) := by decide +kernel
theorem dL_same_557 : decode cL_same 557 = .ok (.iinc 12 1, 3) := by decide +kernel
theorem dL_same_560 : decode cL_same 560 = .ok (.goto (-147), 3) := by decide +kernel
theorem dL_same_563 : decode cL_same 563 = .ok (.aload_n 0, 1) := by decide +kernel
theorem dL_same_564 : decode cL_same 564 = .ok (.iconst 0, 1) := by decide +kernel
theorem dL_same_565 : decode cL_same 565 = .ok (.invokevirtual 95, 3) := by decide +kernel
theorem dL_same_568 : decode cL_same 568 = .ok (.aload_n 2, 1) := by decide +kernel
theorem dL_same_569 : decode cL_same 569 = .ok (.iconst 0, 1) := by decide +kernel
theorem dL_same_570 : decode cL_same 570 = .ok (.iaload, 1) := by decide +kernel
theorem dL_same_571 : decode cL_same 571 = .ok (.if_icmp .ne 113, 3) := by decide +kernel
theorem dL_same_574 : decode cL_same 574 = .ok (.aload_n 0, 1) := by decide +kernel
theorem dL_same_575 : decode cL_same 575 = .ok (.iconst 1, 1) := by decide +kernel
theorem dL_same_576 : decode cL_same 576 = .ok (.invokevirtual 95, 3) := by decide +kernel
theorem dL_same_579 : decode cL_same 579 = .ok (.iload 5, 2) := by decide +kernel
theorem dL_same_581 : decode cL_same 581 = .ok (.if_icmp .ne 103, 3) := by decide +kernel
theorem dL_same_584 : decode cL_same 584 = .ok (.aload_n 0, 1) := by decide +kernel
theorem dL_same_585 : decode cL_same 585 = .ok (.iconst 2, 1) := by decide +kernel
theorem dL_same_586 : decode cL_same 586 = .ok (.invokevirtual 95, 3) := by decide +kernel
theorem dL_same_589 : decode cL_same 589 = .ok (.aload_n 2, 1) := by decide +kernel
theorem dL_same_590 : decode cL_same 590 = .ok (.aload_n 3, 1) := by decide +kernel
theorem dL_same_591 : decode cL_same 591 = .ok (.aload 4, 2) := by decide +kernel
theorem dL_same_593 : decode cL_same 593 = .ok (.invokestatic 98, 3) := by decide +kernel
theorem dL_same_596 : decode cL_same 596 = .ok (.if_icmp .ne 88, 3) := by decide +kernel
theorem dL_same_599 : decode cL_same 599 = .ok (.aload_n 0, 1) := by decide +kernel
theorem dL_same_600 : decode cL_same 600 = .ok (.iconst 3, 1) := by decide +kernel
theorem dL_same_601 : decode cL_same 601 = .ok (.invokevirtual 95, 3) := by decide +kernel
theorem dL_same_604 : decode cL_same 604 = .ok (.iload 11, 2) := by decide +kernel
theorem dL_same_606 : decode cL_same 606 = .ok (.if_icmp .ne 78, 3) := by decide +kernel
theorem dL_same_609 : decode cL_same 609 = .ok (.aload_n 0, 1) := by decide +kernel
theorem dL_same_610 : decode cL_same 610 = .ok (.iconst 4, 1) := by decide +kernel
theorem dL_same_611 : decode cL_same 611 = .ok (.invokevirtual 95, 3) := by decide +kernel
theorem dL_same_614 : decode cL_same 614 = .ok (.iload 10, 2) := by decide +kernel
theorem dL_same_616 : decode cL_same 616 = .ok (.if_icmp .ne 68, 3) := by decide +kernel
theorem dL_same_619 : decode cL_same 619 = .ok (.aload_n 0, 1) := by decide +kernel
theorem dL_same_620 : decode cL_same 620 = .ok (.iconst 5, 1) := by decide +kernel
theorem dL_same_621 : decode cL_same 621 = .ok (.invokevirtual 95, 3) := by decide +kernel
theorem dL_same_624 : decode cL_same 624 = .ok (.iload 8, 2) := by decide +kernel
theorem dL_same_626 : decode cL_same 626 = .ok (.if_icmp .ne 58, 3) := by decide +kernel
theorem dL_same_629 : decode cL_same 629 = .ok (.aload_n 0, 1) := by decide +kernel
theorem dL_same_630 : decode cL_same 630 = .ok (.bipush 6, 2) := by decide +kernel
theorem dL_same_632 : decode cL_same 632 = .ok (.invokevirtual 95, 3) := by decide +kernel
theorem dL_same_635 : decode cL_same 635 = .ok (.iload 9, 2) := by decide +kernel
theorem dL_same_637 : decode cL_same 637 = .ok (.if_icmp .ne 47, 3) := by decide +kernel
theorem dL_same_640 : decode cL_same 640 = .ok (.aload_n 0, 1) := by decide +kernel
theorem dL_same_641 : decode cL_same 641 = .ok (.bipush 7, 2) := by decide +kernel
theorem dL_same_643 : decode cL_same 643 = .ok (.invokevirtual 95, 3) := by decide +kernel
theorem dL_same_646 : decode cL_same 646 = .ok (.iload 7, 2) := by decide +kernel
theorem dL_same_648 : decode cL_same 648 = .ok (.if_icmp .ne 36, 3) := by decide +kernel
theorem dL_same_651 : decode cL_same 651 = .ok (.aload_n 0, 1) := by decide +kernel
theorem dL_same_652 : decode cL_same 652 = .ok (.bipush 8, 2) := by decide +kernel
theorem dL_same_654 : decode cL_same 654 = .ok (.invokevirtual 95, 3) := by decide +kernel
theorem dL_same_657 : decode cL_same 657 = .ok (.aload_n 2, 1) := by decide +kernel
theorem dL_same_658 : decode cL_same 658 = .ok (.aload_n 3, 1) := by decide +kernel
theorem dL_same_659 : decode cL_same 659 = .ok (.aload 4, 2) := by decide +kernel
theorem dL_same_661 : decode cL_same 661 = .ok (.invokestatic 102, 3) := by decide +kernel
theorem dL_same_664 : decode cL_same 664 = .ok (.if_icmp .ne 20, 3) := by decide +kernel
theorem dL_same_667 : decode cL_same 667 = .ok (.iconst 2, 1) := by decide +kernel
theorem dL_same_668 : decode cL_same 668 = .ok (.aload_n 0, 1) := by decide +kernel
theorem dL_same_669 : decode cL_same 669 = .ok (.bipush 9, 2) := by decide +kernel
theorem dL_same_671 : decode cL_same 671 = .ok (.invokevirtual 95, 3) := by decide +kernel
theorem dL_same_674 : decode cL_same 674 = .ok (.imul, 1) := by decide +kernel
theorem dL_same_675 : decode cL_same 675 = .ok (.iload 6, 2) := by decide +kernel
theorem dL_same_677 : decode cL_same 677 = .ok (.if_icmp .ne 7, 3) := by decide +kernel
theorem dL_same_680 : decode cL_same 680 = .ok (.iconst 1, 1) := by decide +kernel
theorem dL_same_681 : decode cL_same 681 = .ok (.goto 4, 3) := by decide +kernel
theorem dL_same_684 : decode cL_same 684 = .ok (.iconst 0, 1) := by decide +kernel
theorem dL_same_685 : decode cL_same 685 = .ok (.ireturn, 1) := by decide +kernel
theorem dL_copy_0 : decode cL_copy 0 = .ok (.iconst 0, 1) := by decide +kernel
theorem dL_copy_1 : decode cL_copy 1 = .ok (.istore 6, 2) := by decide +kernel
theorem dL_copy_3 : decode cL_copy 3 = .ok (.iload 6, 2) := by decide +kernel
theorem dL_copy_5 : decode cL_copy 5 = .ok (.iconst 5, 1) := by decide +kernel
theorem dL_copy_6 : decode cL_copy 6 = .ok (.if_icmp .ge 17, 3) := by decide +kernel
theorem dL_copy_9 : decode cL_copy 9 = .ok (.aload_n 3, 1) := by decide +kernel
theorem dL_copy_10 : decode cL_copy 10 = .ok (.iload 6, 2) := by decide +kernel
theorem dL_copy_12 : decode cL_copy 12 = .ok (.aload_n 0, 1) := by decide +kernel
theorem dL_copy_13 : decode cL_copy 13 = .ok (.iload 6, 2) := by decide +kernel
theorem dL_copy_15 : decode cL_copy 15 = .ok (.iaload, 1) := by decide +kernel
theorem dL_copy_16 : decode cL_copy 16 = .ok (.iastore, 1) := by decide +kernel
theorem dL_copy_17 : decode cL_copy 17 = .ok (.iinc 6 1, 3) := by decide +kernel
theorem dL_copy_20 : decode cL_copy 20 = .ok (.goto (-17), 3) := by decide +kernel
theorem dL_copy_23 : decode cL_copy 23 = .ok (.iconst 0, 1) := by decide +kernel
theorem dL_copy_24 : decode cL_copy 24 = .ok (.istore 6, 2) := by decide +kernel
theorem dL_copy_26 : decode cL_copy 26 = .ok (.iload 6, 2) := by decide +kernel
theorem dL_copy_28 : decode cL_copy 28 = .ok (.bipush 40, 2) := by decide +kernel
theorem dL_copy_30 : decode cL_copy 30 = .ok (.if_icmp .ge 27, 3) := by decide +kernel
theorem dL_copy_33 : decode cL_copy 33 = .ok (.aload 4, 2) := by decide +kernel
theorem dL_copy_35 : decode cL_copy 35 = .ok (.iload 6, 2) := by decide +kernel
theorem dL_copy_37 : decode cL_copy 37 = .ok (.aload_n 1, 1) := by decide +kernel
theorem dL_copy_38 : decode cL_copy 38 = .ok (.iload 6, 2) := by decide +kernel
theorem dL_copy_40 : decode cL_copy 40 = .ok (.iaload, 1) := by decide +kernel
theorem dL_copy_41 : decode cL_copy 41 = .ok (.iastore, 1) := by decide +kernel
theorem dL_copy_42 : decode cL_copy 42 = .ok (.aload 5, 2) := by decide +kernel
theorem dL_copy_44 : decode cL_copy 44 = .ok (.iload 6, 2) := by decide +kernel
theorem dL_copy_46 : decode cL_copy 46 = .ok (.aload_n 2, 1) := by decide +kernel
theorem dL_copy_47 : decode cL_copy 47 = .ok (.iload 6, 2) := by decide +kernel
theorem dL_copy_49 : decode cL_copy 49 = .ok (.iaload, 1) := by decide +kernel
theorem dL_copy_50 : decode cL_copy 50 = .ok (.iastore, 1) := by decide +kernel
theorem dL_copy_51 : decode cL_copy 51 = .ok (.iinc 6 1, 3) := by decide +kernel
theorem dL_copy_54 : decode cL_copy 54 = .ok (.goto (-28), 3) := by decide +kernel
theorem dL_copy_57 : decode cL_copy 57 = .ok (.return_, 1) := by decide +kernel
theorem dL_law_0 : decode cL_law 0 = .ok (.new 11, 3) := by decide +kernel
theorem dL_law_3 : decode cL_law 3 = .ok (.dup, 1) := by decide +kernel
theorem dL_law_4 : decode cL_law 4 = .ok (.invokespecial 105, 3) := by decide +kernel
theorem dL_law_7 : decode cL_law 7 = .ok (.astore_n 1, 1) := by decide +kernel
theorem dL_law_8 : decode cL_law 8 = .ok (.iconst 5, 1) := by decide +kernel
theorem dL_law_9 : decode cL_law 9 = .ok (.newarray .int, 2) := by decide +kernel
theorem dL_law_11 : decode cL_law 11 = .ok (.astore_n 2, 1) := by decide +kernel
theorem dL_law_12 : decode cL_law 12 = .ok (.bipush 40, 2) := by decide +kernel
theorem dL_law_14 : decode cL_law 14 = .ok (.newarray .int, 2) := by decide +kernel
theorem dL_law_16 : decode cL_law 16 = .ok (.astore_n 3, 1) := by decide +kernel
theorem dL_law_17 : decode cL_law 17 = .ok (.bipush 40, 2) := by decide +kernel
theorem dL_law_19 : decode cL_law 19 = .ok (.newarray .int, 2) := by decide +kernel
theorem dL_law_21 : decode cL_law 21 = .ok (.astore 4, 2) := by decide +kernel
theorem dL_law_23 : decode cL_law 23 = .ok (.iconst 5, 1) := by decide +kernel
theorem dL_law_24 : decode cL_law 24 = .ok (.newarray .int, 2) := by decide +kernel
theorem dL_law_26 : decode cL_law 26 = .ok (.astore 5, 2) := by decide +kernel
theorem dL_law_28 : decode cL_law 28 = .ok (.bipush 40, 2) := by decide +kernel
theorem dL_law_30 : decode cL_law 30 = .ok (.newarray .int, 2) := by decide +kernel
theorem dL_law_32 : decode cL_law 32 = .ok (.astore 6, 2) := by decide +kernel
theorem dL_law_34 : decode cL_law 34 = .ok (.bipush 40, 2) := by decide +kernel
theorem dL_law_36 : decode cL_law 36 = .ok (.newarray .int, 2) := by decide +kernel
theorem dL_law_38 : decode cL_law 38 = .ok (.astore 7, 2) := by decide +kernel
theorem dL_law_40 : decode cL_law 40 = .ok (.aload_n 2, 1) := by decide +kernel
theorem dL_law_41 : decode cL_law 41 = .ok (.iconst 0, 1) := by decide +kernel
theorem dL_law_42 : decode cL_law 42 = .ok (.iconst 1, 1) := by decide +kernel
theorem dL_law_43 : decode cL_law 43 = .ok (.iastore, 1) := by decide +kernel
theorem dL_law_44 : decode cL_law 44 = .ok (.aload_n 2, 1) := by decide +kernel
theorem dL_law_45 : decode cL_law 45 = .ok (.iconst 1, 1) := by decide +kernel
theorem dL_law_46 : decode cL_law 46 = .ok (.iconst 4, 1) := by decide +kernel
theorem dL_law_47 : decode cL_law 47 = .ok (.iastore, 1) := by decide +kernel
theorem dL_law_48 : decode cL_law 48 = .ok (.aload_n 3, 1) := by decide +kernel
theorem dL_law_49 : decode cL_law 49 = .ok (.iconst 1, 1) := by decide +kernel
theorem dL_law_50 : decode cL_law 50 = .ok (.iconst 4, 1) := by decide +kernel
theorem dL_law_51 : decode cL_law 51 = .ok (.iastore, 1) := by decide +kernel
theorem dL_law_52 : decode cL_law 52 = .ok (.aload_n 3, 1) := by decide +kernel
theorem dL_law_53 : decode cL_law 53 = .ok (.iconst 2, 1) := by decide +kernel
theorem dL_law_54 : decode cL_law 54 = .ok (.iconst 4, 1) := by decide +kernel
theorem dL_law_55 : decode cL_law 55 = .ok (.iastore, 1) := by decide +kernel
theorem dL_law_56 : decode cL_law 56 = .ok (.aload 4, 2) := by decide +kernel
theorem dL_law_58 : decode cL_law 58 = .ok (.iconst 2, 1) := by decide +kernel
theorem dL_law_59 : decode cL_law 59 = .ok (.iconst 4, 1) := by decide +kernel
theorem dL_law_60 : decode cL_law 60 = .ok (.iastore, 1) := by decide +kernel
theorem dL_law_61 : decode cL_law 61 = .ok (.aload 4, 2) := by decide +kernel
theorem dL_law_63 : decode cL_law 63 = .ok (.iconst 3, 1) := by decide +kernel
theorem dL_law_64 : decode cL_law 64 = .ok (.iconst 4, 1) := by decide +kernel
theorem dL_law_65 : decode cL_law 65 = .ok (.iastore, 1) := by decide +kernel
theorem dL_law_66 : decode cL_law 66 = .ok (.iconst 0, 1) := by decide +kernel
theorem dL_law_67 : decode cL_law 67 = .ok (.istore 8, 2) := by decide +kernel
theorem dL_law_69 : decode cL_law 69 = .ok (.iload 8, 2) := by decide +kernel
theorem dL_law_71 : decode cL_law 71 = .ok (.bipush 12, 2) := by decide +kernel
theorem dL_law_73 : decode cL_law 73 = .ok (.if_icmp .ge 761, 3) := by decide +kernel
theorem dL_law_76 : decode cL_law 76 = .ok (.aload_n 0, 1) := by decide +kernel
theorem dL_law_77 : decode cL_law 77 = .ok (.iload 8, 2) := by decide +kernel
theorem dL_law_79 : decode cL_law 79 = .ok (.invokestatic 106, 3) := by decide +kernel
theorem dL_law_82 : decode cL_law 82 = .ok (.istore 9, 2) := by decide +kernel
theorem dL_law_84 : decode cL_law 84 = .ok (.iload 9, 2) := by decide +kernel
theorem dL_law_86 : decode cL_law 86 = .ok (.bipush 8, 2) := by decide +kernel
theorem dL_law_88 : decode cL_law 88 = .ok (.invokestatic 110, 3) := by decide +kernel
theorem dL_law_91 : decode cL_law 91 = .ok (.istore 10, 2) := by decide +kernel
theorem dL_law_93 : decode cL_law 93 = .ok (.iload 9, 2) := by decide +kernel
theorem dL_law_95 : decode cL_law 95 = .ok (.iconst 3, 1) := by decide +kernel
theorem dL_law_96 : decode cL_law 96 = .ok (.ishr, 1) := by decide +kernel
theorem dL_law_97 : decode cL_law 97 = .ok (.aload_n 2, 1) := by decide +kernel
theorem dL_law_98 : decode cL_law 98 = .ok (.iconst 0, 1) := by decide +kernel
theorem dL_law_99 : decode cL_law 99 = .ok (.iaload, 1) := by decide +kernel
theorem dL_law_100 : decode cL_law 100 = .ok (.invokestatic 110, 3) := by decide +kernel
theorem dL_law_103 : decode cL_law 103 = .ok (.istore 11, 2) := by decide +kernel
theorem dL_law_105 : decode cL_law 105 = .ok (.iload 9, 2) := by decide +kernel
theorem dL_law_107 : decode cL_law 107 = .ok (.iconst 5, 1) := by decide +kernel
theorem dL_law_108 : decode cL_law 108 = .ok (.ishr, 1) := by decide +kernel
theorem dL_law_109 : decode cL_law 109 = .ok (.aload_n 2, 1) := by decide +kernel
theorem dL_law_110 : decode cL_law 110 = .ok (.iconst 1, 1) := by decide +kernel
theorem dL_law_111 : decode cL_law 111 = .ok (.iload 11, 2) := by decide +kernel
theorem dL_law_113 : decode cL_law 113 = .ok (.iadd, 1) := by decide +kernel
theorem dL_law_114 : decode cL_law 114 = .ok (.iaload, 1) := by decide +kernel
theorem dL_law_115 : decode cL_law 115 = .ok (.invokestatic 110, 3) := by decide +kernel
theorem dL_law_118 : decode cL_law 118 = .ok (.istore 12, 2) := by decide +kernel
theorem dL_law_120 : decode cL_law 120 = .ok (.iload 9, 2) := by decide +kernel
theorem dL_law_122 : decode cL_law 122 = .ok (.bipush 9, 2) := by decide +kernel
theorem dL_law_124 : decode cL_law 124 = .ok (.ishr, 1) := by decide +kernel
theorem dL_law_125 : decode cL_law 125 = .ok (.bipush 17, 2) := by decide +kernel
theorem dL_law_127 : decode cL_law 127 = .ok (.invokestatic 110, 3) := by decide +kernel
theorem dL_law_130 : decode cL_law 130 = .ok (.istore 13, 2) := by decide +kernel
theorem dL_law_132 : decode cL_law 132 = .ok (.iload 9, 2) := by decide +kernel
theorem dL_law_134 : decode cL_law 134 = .ok (.bipush 14, 2) := by decide +kernel
theorem dL_law_136 : decode cL_law 136 = .ok (.ishr, 1) := by decide +kernel
theorem dL_law_137 : decode cL_law 137 = .ok (.bipush 17, 2) := by decide +kernel
theorem dL_law_139 : decode cL_law 139 = .ok (.invokestatic 110, 3) := by decide +kernel
theorem dL_law_142 : decode cL_law 142 = .ok (.istore 14, 2) := by decide +kernel
theorem dL_law_144 : decode cL_law 144 = .ok (.bipush 10, 2) := by decide +kernel
theorem dL_law_146 : decode cL_law 146 = .ok (.iload 11, 2) := by decide +kernel
theorem dL_law_148 : decode cL_law 148 = .ok (.imul, 1) := by decide +kernel
theorem dL_law_149 : decode cL_law 149 = .ok (.iload 12, 2) := by decide +kernel
theorem dL_law_151 : decode cL_law 151 = .ok (.iadd, 1) := by decide +kernel
theorem dL_law_152 : decode cL_law 152 = .ok (.istore 15, 2) := by decide +kernel
theorem dL_law_154 : decode cL_law 154 = .ok (.aload_n 2, 1) := by decide +kernel
theorem dL_law_155 : decode cL_law 155 = .ok (.aload_n 3, 1) := by decide +kernel
theorem dL_law_156 : decode cL_law 156 = .ok (.aload 4, 2) := by decide +kernel
theorem dL_law_158 : decode cL_law 158 = .ok (.aload 5, 2) := by decide +kernel
theorem dL_law_160 : decode cL_law 160 = .ok (.aload 6, 2) := by decide +kernel
theorem dL_law_162 : decode cL_law 162 = .ok (.aload 7, 2) := by decide +kernel
theorem dL_law_164 : decode cL_law 164 = .ok (.invokestatic 113, 3) := by decide +kernel
theorem dL_law_167 : decode cL_law 167 = .ok (.iload 10, 2) := by decide +kernel
theorem dL_law_169 : decode cL_law 169 = .ok (.iconst 4, 1) := by decide +kernel
theorem dL_law_170 : decode cL_law 170 = .ok (.if_icmp .ge 102, 3) := by decide +kernel
theorem dL_law_173 : decode cL_law 173 = .ok (.aload 6, 2) := by decide +kernel
theorem dL_law_175 : decode cL_law 175 = .ok (.iload 15, 2) := by decide +kernel
theorem dL_law_177 : decode cL_law 177 = .ok (.iload 13, 2) := by decide +kernel
theorem dL_law_179 : decode cL_law 179 = .ok (.iastore, 1) := by decide +kernel
theorem dL_law_180 : decode cL_law 180 = .ok (.aload 7, 2) := by decide +kernel
theorem dL_law_182 : decode cL_law 182 = .ok (.iload 15, 2) := by decide +kernel
theorem dL_law_184 : decode cL_law 184 = .ok (.iload 14, 2) := by decide +kernel
theorem dL_law_186 : decode cL_law 186 = .ok (.iastore, 1) := by decide +kernel
theorem dL_law_187 : decode cL_law 187 = .ok (.aload 5, 2) := by decide +kernel
theorem dL_law_189 : decode cL_law 189 = .ok (.aload 6, 2) := by decide +kernel
theorem dL_law_191 : decode cL_law 191 = .ok (.aload 7, 2) := by decide +kernel
theorem dL_law_193 : decode cL_law 193 = .ok (.invokestatic 117, 3) := by decide +kernel
theorem dL_law_196 : decode cL_law 196 = .ok (.istore 16, 2) := by decide +kernel
theorem dL_law_198 : decode cL_law 198 = .ok (.aload_n 1, 1) := by decide +kernel
theorem dL_law_199 : decode cL_law 199 = .ok (.iload 11, 2) := by decide +kernel
theorem dL_law_201 : decode cL_law 201 = .ok (.iload 12, 2) := by decide +kernel
theorem dL_law_203 : decode cL_law 203 = .ok (.iload 13, 2) := by decide +kernel
theorem dL_law_205 : decode cL_law 205 = .ok (.iload 14, 2) := by decide +kernel
theorem dL_law_207 : decode cL_law 207 = .ok (.invokevirtual 120, 3) := by decide +kernel
theorem dL_law_210 : decode cL_law 210 = .ok (.iload 16, 2) := by decide +kernel
theorem dL_law_212 : decode cL_law 212 = .ok (.if_icmp .ne 37, 3) := by decide +kernel
theorem dL_law_215 : decode cL_law 215 = .ok (.aload_n 1, 1) := by decide +kernel
theorem dL_law_216 : decode cL_law 216 = .ok (.iload 11, 2) := by decide +kernel
theorem dL_law_218 : decode cL_law 218 = .ok (.iload 12, 2) := by decide +kernel
theorem dL_law_220 : decode cL_law 220 = .ok (.iload 13, 2) := by decide +kernel
theorem dL_law_222 : decode cL_law 222 = .ok (.iload 14, 2) := by decide +kernel
theorem dL_law_224 : decode cL_law 224 = .ok (.invokestatic 123, 3) := by decide +kernel
theorem dL_law_227 : decode cL_law 227 = .ok (.iload 16, 2) := by decide +kernel
theorem dL_law_229 : decode cL_law 229 = .ok (.ifCond .le 8, 3) := by decide +kernel
theorem dL_law_232 : decode cL_law 232 = .ok (.bipush (-2), 2) := by decide +kernel
theorem dL_law_234 : decode cL_law 234 = .ok (.goto 12, 3) := by decide +kernel
theorem dL_law_237 : decode cL_law 237 = .ok (.aload 5, 2) := by decide +kernel
theorem dL_law_239 : decode cL_law 239 = .ok (.aload 6, 2) := by decide +kernel
theorem dL_law_241 : decode cL_law 241 = .ok (.aload 7, 2) := by decide +kernel
theorem dL_law_243 : decode cL_law 243 = .ok (.invokestatic 98, 3) := by decide +kernel
theorem dL_law_246 : decode cL_law 246 = .ok (.if_icmp .eq 5, 3) := by decide +kernel
theorem dL_law_249 : decode cL_law 249 = .ok (.iconst 0, 1) := by decide +kernel
theorem dL_law_250 : decode cL_law 250 = .ok (.ireturn, 1) := by decide +kernel
theorem dL_law_251 : decode cL_law 251 = .ok (.iload 16, 2) := by decide +kernel
theorem dL_law_253 : decode cL_law 253 = .ok (.ifCond .ne 16, 3) := by decide +kernel
theorem dL_law_256 : decode cL_law 256 = .ok (.aload 5, 2) := by decide +kernel
theorem dL_law_258 : decode cL_law 258 = .ok (.aload 6, 2) := by decide +kernel
theorem dL_law_260 : decode cL_law 260 = .ok (.aload 7, 2) := by decide +kernel
theorem dL_law_262 : decode cL_law 262 = .ok (.aload_n 2, 1) := by decide +kernel
theorem dL_law_263 : decode cL_law 263 = .ok (.aload_n 3, 1) := by decide +kernel
theorem dL_law_264 : decode cL_law 264 = .ok (.aload 4, 2) := by decide +kernel
theorem dL_law_266 : decode cL_law 266 = .ok (.invokestatic 113, 3) := by decide +kernel
theorem dL_law_269 : decode cL_law 269 = .ok (.goto 536, 3) := by decide +kernel
theorem dL_law_272 : decode cL_law 272 = .ok (.iload 10, 2) := by decide +kernel
theorem dL_law_274 : decode cL_law 274 = .ok (.bipush 6, 2) := by decide +kernel
theorem dL_law_276 : decode cL_law 276 = .ok (.if_icmp .ge 194, 3) := by decide +kernel
theorem dL_law_279 : decode cL_law 279 = .ok (.aload_n 2, 1) := by decide +kernel
theorem dL_law_280 : decode cL_law 280 = .ok (.iconst 1, 1) := by decide +kernel
theorem dL_law_281 : decode cL_law 281 = .ok (.iload 11, 2) := by decide +kernel
theorem dL_law_283 : decode cL_law 283 = .ok (.iadd, 1) := by decide +kernel
theorem dL_law_284 : decode cL_law 284 = .ok (.iaload, 1) := by decide +kernel
theorem dL_law_285 : decode cL_law 285 = .ok (.bipush 10, 2) := by decide +kernel
theorem dL_law_287 : decode cL_law 287 = .ok (.if_icmp .ne 7, 3) := by decide +kernel
theorem dL_law_290 : decode cL_law 290 = .ok (.iconst 1, 1) := by decide +kernel
theorem dL_law_291 : decode cL_law 291 = .ok (.goto 4, 3) := by decide +kernel
theorem dL_law_294 : decode cL_law 294 = .ok (.iconst 0, 1) := by decide +kernel
theorem dL_law_295 : decode cL_law 295 = .ok (.istore 16, 2) := by decide +kernel
theorem dL_law_297 : decode cL_law 297 = .ok (.bipush 10, 2) := by decide +kernel
theorem dL_law_299 : decode cL_law 299 = .ok (.iload 11, 2) := by decide +kernel
theorem dL_law_301 : decode cL_law 301 = .ok (.imul, 1) := by decide +kernel
theorem dL_law_302 : decode cL_law 302 = .ok (.aload_n 2, 1) := by decide +kernel
theorem dL_law_303 : decode cL_law 303 = .ok (.iconst 1, 1) := by decide +kernel
theorem dL_law_304 : decode cL_law 304 = .ok (.iload 11, 2) := by decide +kernel
theorem dL_law_306 : decode cL_law 306 = .ok (.iadd, 1) := by decide +kernel
theorem dL_law_307 : decode cL_law 307 = .ok (.iaload, 1) := by decide +kernel
theorem dL_law_308 : decode cL_law 308 = .ok (.iadd, 1) := by decide +kernel
theorem dL_law_309 : decode cL_law 309 = .ok (.istore 17, 2) := by decide +kernel
theorem dL_law_311 : decode cL_law 311 = .ok (.iload 17, 2) := by decide +kernel
theorem dL_law_313 : decode cL_law 313 = .ok (.iload 15, 2) := by decide +kernel
theorem dL_law_315 : decode cL_law 315 = .ok (.iconst 1, 1) := by decide +kernel
theorem dL_law_316 : decode cL_law 316 = .ok (.iadd, 1) := by decide +kernel
theorem dL_law_317 : decode cL_law 317 = .ok (.if_icmp .le 38, 3) := by decide +kernel
theorem dL_law_320 : decode cL_law 320 = .ok (.iload 16, 2) := by decide +kernel
theorem dL_law_322 : decode cL_law 322 = .ok (.ifCond .ne 33, 3) := by decide +kernel
theorem dL_law_325 : decode cL_law 325 = .ok (.aload 6, 2) := by decide +kernel
theorem dL_law_327 : decode cL_law 327 = .ok (.iload 17, 2) := by decide +kernel
theorem dL_law_329 : decode cL_law 329 = .ok (.aload 6, 2) := by decide +kernel
theorem dL_law_331 : decode cL_law 331 = .ok (.iload 17, 2) := by decide +kernel
theorem dL_law_333 : decode cL_law 333 = .ok (.iconst 1, 1) := by decide +kernel
theorem dL_law_334 : decode cL_law 334 = .ok (.isub, 1) := by decide +kernel
theorem dL_law_335 : decode cL_law 335 = .ok (.iaload, 1) := by decide +kernel
theorem dL_law_336 : decode cL_law 336 = .ok (.iastore, 1) := by decide +kernel
theorem dL_law_337 : decode cL_law 337 = .ok (.aload 7, 2) := by decide +kernel
theorem dL_law_339 : decode cL_law 339 = .ok (.iload 17, 2) := by decide +kernel
theorem dL_law_341 : decode cL_law 341 = .ok (.aload 7, 2) := by decide +kernel
theorem dL_law_343 : decode cL_law 343 = .ok (.iload 17, 2) := by decide +kernel
theorem dL_law_345 : decode cL_law 345 = .ok (.iconst 1, 1) := by decide +kernel
theorem dL_law_346 : decode cL_law 346 = .ok (.isub, 1) := by decide +kernel
theorem dL_law_347 : decode cL_law 347 = .ok (.iaload, 1) := by decide +kernel
theorem dL_law_348 : decode cL_law 348 = .ok (.iastore, 1) := by decide +kernel
theorem dL_law_349 : decode cL_law 349 = .ok (.iinc 17 (-1), 3) := by decide +kernel
theorem dL_law_352 : decode cL_law 352 = .ok (.goto (-41), 3) := by decide +kernel
theorem dL_law_355 : decode cL_law 355 = .ok (.iload 16, 2) := by decide +kernel
theorem dL_law_357 : decode cL_law 357 = .ok (.ifCond .ne 32, 3) := by decide +kernel
theorem dL_law_360 : decode cL_law 360 = .ok (.aload 6, 2) := by decide +kernel
theorem dL_law_362 : decode cL_law 362 = .ok (.iload 15, 2) := by decide +kernel
theorem dL_law_364 : decode cL_law 364 = .ok (.iconst 1, 1) := by decide +kernel
theorem dL_law_365 : decode cL_law 365 = .ok (.iadd, 1) := by decide +kernel
theorem dL_law_366 : decode cL_law 366 = .ok (.iload 13, 2) := by decide +kernel
theorem dL_law_368 : decode cL_law 368 = .ok (.iastore, 1) := by decide +kernel
theorem dL_law_369 : decode cL_law 369 = .ok (.aload 7, 2) := by decide +kernel
theorem dL_law_371 : decode cL_law 371 = .ok (.iload 15, 2) := by decide +kernel
theorem dL_law_373 : decode cL_law 373 = .ok (.iconst 1, 1) := by decide +kernel
theorem dL_law_374 : decode cL_law 374 = .ok (.iadd, 1) := by decide +kernel
theorem dL_law_375 : decode cL_law 375 = .ok (.iload 14, 2) := by decide +kernel
theorem dL_law_377 : decode cL_law 377 = .ok (.iastore, 1) := by decide +kernel
theorem dL_law_378 : decode cL_law 378 = .ok (.aload 5, 2) := by decide +kernel
theorem dL_law_380 : decode cL_law 380 = .ok (.iconst 1, 1) := by decide +kernel
theorem dL_law_381 : decode cL_law 381 = .ok (.iload 11, 2) := by decide +kernel
theorem dL_law_383 : decode cL_law 383 = .ok (.iadd, 1) := by decide +kernel
theorem dL_law_384 : decode cL_law 384 = .ok (.dup2, 1) := by decide +kernel
theorem dL_law_385 : decode cL_law 385 = .ok (.iaload, 1) := by decide +kernel
theorem dL_law_386 : decode cL_law 386 = .ok (.iconst 1, 1) := by decide +kernel
theorem dL_law_387 : decode cL_law 387 = .ok (.iadd, 1) := by decide +kernel
theorem dL_law_388 : decode cL_law 388 = .ok (.iastore, 1) := by decide +kernel
theorem dL_law_389 : decode cL_law 389 = .ok (.iload 16, 2) := by decide +kernel
theorem dL_law_391 : decode cL_law 391 = .ok (.ifCond .ne 19, 3) := by decide +kernel
theorem dL_law_394 : decode cL_law 394 = .ok (.aload 5, 2) := by decide +kernel
theorem dL_law_396 : decode cL_law 396 = .ok (.aload 6, 2) := by decide +kernel
theorem dL_law_398 : decode cL_law 398 = .ok (.aload 7, 2) := by decide +kernel
theorem dL_law_400 : decode cL_law 400 = .ok (.invokestatic 117, 3) := by decide +kernel
theorem dL_law_403 : decode cL_law 403 = .ok (.ifCond .ne 7, 3) := by decide +kernel
theorem dL_law_406 : decode cL_law 406 = .ok (.iconst 1, 1) := by decide +kernel
theorem dL_law_407 : decode cL_law 407 = .ok (.goto 4, 3) := by decide +kernel
theorem dL_law_410 : decode cL_law 410 = .ok (.iconst 0, 1) := by decide +kernel
theorem dL_law_411 : decode cL_law 411 = .ok (.istore 17, 2) := by decide +kernel
theorem dL_law_413 : decode cL_law 413 = .ok (.aload_n 1, 1) := by decide +kernel
theorem dL_law_414 : decode cL_law 414 = .ok (.iload 11, 2) := by decide +kernel
theorem dL_law_416 : decode cL_law 416 = .ok (.iload 12, 2) := by decide +kernel
theorem dL_law_418 : decode cL_law 418 = .ok (.iload 13, 2) := by decide +kernel
theorem dL_law_420 : decode cL_law 420 = .ok (.iload 14, 2) := by decide +kernel
theorem dL_law_422 : decode cL_law 422 = .ok (.invokestatic 126, 3) := by decide +kernel
theorem dL_law_425 : decode cL_law 425 = .ok (.iload 17, 2) := by decide +kernel
theorem dL_law_427 : decode cL_law 427 = .ok (.ifCond .eq 15, 3) := by decide +kernel
theorem dL_law_430 : decode cL_law 430 = .ok (.aload 5, 2) := by decide +kernel
theorem dL_law_432 : decode cL_law 432 = .ok (.aload 6, 2) := by decide +kernel
theorem dL_law_434 : decode cL_law 434 = .ok (.aload 7, 2) := by decide +kernel
theorem dL_law_436 : decode cL_law 436 = .ok (.invokestatic 98, 3) := by decide +kernel
theorem dL_law_439 : decode cL_law 439 = .ok (.goto 5, 3) := by decide +kernel
theorem dL_law_442 : decode cL_law 442 = .ok (.bipush (-2), 2) := by decide +kernel
theorem dL_law_444 : decode cL_law 444 = .ok (.if_icmp .eq 5, 3) := by decide +kernel
theorem dL_law_447 : decode cL_law 447 = .ok (.iconst 0, 1) := by decide +kernel
theorem dL_law_448 : decode cL_law 448 = .ok (.ireturn, 1) := by decide +kernel
theorem dL_law_449 : decode cL_law 449 = .ok (.iload 17, 2) := by decide +kernel
theorem dL_law_451 : decode cL_law 451 = .ok (.ifCond .eq 16, 3) := by decide +kernel
theorem dL_law_454 : decode cL_law 454 = .ok (.aload 5, 2) := by decide +kernel
theorem dL_law_456 : decode cL_law 456 = .ok (.aload 6, 2) := by decide +kernel
theorem dL_law_458 : decode cL_law 458 = .ok (.aload 7, 2) := by decide +kernel
theorem dL_law_460 : decode cL_law 460 = .ok (.aload_n 2, 1) := by decide +kernel
theorem dL_law_461 : decode cL_law 461 = .ok (.aload_n 3, 1) := by decide +kernel
theorem dL_law_462 : decode cL_law 462 = .ok (.aload 4, 2) := by decide +kernel
theorem dL_law_464 : decode cL_law 464 = .ok (.invokestatic 113, 3) := by decide +kernel
theorem dL_law_467 : decode cL_law 467 = .ok (.goto 338, 3) := by decide +kernel
theorem dL_law_470 : decode cL_law 470 = .ok (.iload 10, 2) := by decide +kernel
theorem dL_law_472 : decode cL_law 472 = .ok (.bipush 6, 2) := by decide +kernel
theorem dL_law_474 : decode cL_law 474 = .ok (.if_icmp .ne 175, 3) := by decide +kernel
theorem dL_law_477 : decode cL_law 477 = .ok (.aload_n 2, 1) := by decide +kernel
theorem dL_law_478 : decode cL_law 478 = .ok (.iconst 1, 1) := by decide +kernel
theorem dL_law_479 : decode cL_law 479 = .ok (.iload 11, 2) := by decide +kernel
theorem dL_law_481 : decode cL_law 481 = .ok (.iadd, 1) := by decide +kernel
theorem dL_law_482 : decode cL_law 482 = .ok (.iaload, 1) := by decide +kernel
theorem dL_law_483 : decode cL_law 483 = .ok (.iconst 3, 1) := by decide +kernel
theorem dL_law_484 : decode cL_law 484 = .ok (.if_icmp .ne 7, 3) := by decide +kernel
theorem dL_law_487 : decode cL_law 487 = .ok (.iconst 1, 1) := by decide +kernel
theorem dL_law_488 : decode cL_law 488 = .ok (.goto 4, 3) := by decide +kernel
theorem dL_law_491 : decode cL_law 491 = .ok (.iconst 0, 1) := by decide +kernel
theorem dL_law_492 : decode cL_law 492 = .ok (.istore 16, 2) := by decide +kernel
theorem dL_law_494 : decode cL_law 494 = .ok (.iload 15, 2) := by decide +kernel
theorem dL_law_496 : decode cL_law 496 = .ok (.istore 17, 2) := by decide +kernel
theorem dL_law_498 : decode cL_law 498 = .ok (.iload 17, 2) := by decide +kernel
theorem dL_law_500 : decode cL_law 500 = .ok (.iconst 1, 1) := by decide +kernel
theorem dL_law_501 : decode cL_law 501 = .ok (.iadd, 1) := by decide +kernel
theorem dL_law_502 : decode cL_law 502 = .ok (.bipush 10, 2) := by decide +kernel
theorem dL_law_504 : decode cL_law 504 = .ok (.iload 11, 2) := by decide +kernel
theorem dL_law_506 : decode cL_law 506 = .ok (.imul, 1) := by decide +kernel
theorem dL_law_507 : decode cL_law 507 = .ok (.aload_n 2, 1) := by decide +kernel
theorem dL_law_508 : decode cL_law 508 = .ok (.iconst 1, 1) := by decide +kernel
theorem dL_law_509 : decode cL_law 509 = .ok (.iload 11, 2) := by decide +kernel
theorem dL_law_511 : decode cL_law 511 = .ok (.iadd, 1) := by decide +kernel
theorem dL_law_512 : decode cL_law 512 = .ok (.iaload, 1) := by decide +kernel
theorem dL_law_513 : decode cL_law 513 = .ok (.iadd, 1) := by decide +kernel
theorem dL_law_514 : decode cL_law 514 = .ok (.if_icmp .ge 38, 3) := by decide +kernel
theorem dL_law_517 : decode cL_law 517 = .ok (.iload 16, 2) := by decide +kernel
theorem dL_law_519 : decode cL_law 519 = .ok (.ifCond .ne 33, 3) := by decide +kernel
theorem dL_law_522 : decode cL_law 522 = .ok (.aload 6, 2) := by decide +kernel
theorem dL_law_524 : decode cL_law 524 = .ok (.iload 17, 2) := by decide +kernel
theorem dL_law_526 : decode cL_law 526 = .ok (.aload 6, 2) := by decide +kernel
theorem dL_law_528 : decode cL_law 528 = .ok (.iload 17, 2) := by decide +kernel
theorem dL_law_530 : decode cL_law 530 = .ok (.iconst 1, 1) := by decide +kernel
theorem dL_law_531 : decode cL_law 531 = .ok (.iadd, 1) := by decide +kernel
theorem dL_law_532 : decode cL_law 532 = .ok (.iaload, 1) := by decide +kernel
theorem dL_law_533 : decode cL_law 533 = .ok (.iastore, 1) := by decide +kernel
theorem dL_law_534 : decode cL_law 534 = .ok (.aload 7, 2) := by decide +kernel
theorem dL_law_536 : decode cL_law 536 = .ok (.iload 17, 2) := by decide +kernel
theorem dL_law_538 : decode cL_law 538 = .ok (.aload 7, 2) := by decide +kernel
theorem dL_law_540 : decode cL_law 540 = .ok (.iload 17, 2) := by decide +kernel
theorem dL_law_542 : decode cL_law 542 = .ok (.iconst 1, 1) := by decide +kernel
theorem dL_law_543 : decode cL_law 543 = .ok (.iadd, 1) := by decide +kernel
theorem dL_law_544 : decode cL_law 544 = .ok (.iaload, 1) := by decide +kernel
theorem dL_law_545 : decode cL_law 545 = .ok (.iastore, 1) := by decide +kernel
theorem dL_law_546 : decode cL_law 546 = .ok (.iinc 17 1, 3) := by decide +kernel
theorem dL_law_549 : decode cL_law 549 = .ok (.goto (-51), 3) := by decide +kernel
theorem dL_law_552 : decode cL_law 552 = .ok (.aload 5, 2) := by decide +kernel
theorem dL_law_554 : decode cL_law 554 = .ok (.iconst 1, 1) := by decide +kernel
theorem dL_law_555 : decode cL_law 555 = .ok (.iload 11, 2) := by decide +kernel
theorem dL_law_557 : decode cL_law 557 = .ok (.iadd, 1) := by decide +kernel
theorem dL_law_558 : decode cL_law 558 = .ok (.dup2, 1) := by decide +kernel
theorem dL_law_559 : decode cL_law 559 = .ok (.iaload, 1) := by decide +kernel
theorem dL_law_560 : decode cL_law 560 = .ok (.iload 16, 2) := by decide +kernel
theorem dL_law_562 : decode cL_law 562 = .ok (.ifCond .eq 7, 3) := by decide +kernel
theorem dL_law_565 : decode cL_law 565 = .ok (.iconst 0, 1) := by decide +kernel
theorem dL_law_566 : decode cL_law 566 = .ok (.goto 4, 3) := by decide +kernel
theorem dL_law_569 : decode cL_law 569 = .ok (.iconst 1, 1) := by decide +kernel
theorem dL_law_570 : decode cL_law 570 = .ok (.isub, 1) := by decide +kernel
theorem dL_law_571 : decode cL_law 571 = .ok (.iastore, 1) := by decide +kernel
theorem dL_law_572 : decode cL_law 572 = .ok (.iload 16, 2) := by decide +kernel
theorem dL_law_574 : decode cL_law 574 = .ok (.ifCond .ne 19, 3) := by decide +kernel
theorem dL_law_577 : decode cL_law 577 = .ok (.aload 5, 2) := by decide +kernel
theorem dL_law_579 : decode cL_law 579 = .ok (.aload 6, 2) := by decide +kernel
theorem dL_law_581 : decode cL_law 581 = .ok (.aload 7, 2) := by decide +kernel
theorem dL_law_583 : decode cL_law 583 = .ok (.invokestatic 117, 3) := by decide +kernel
theorem dL_law_586 : decode cL_law 586 = .ok (.ifCond .ne 7, 3) := by decide +kernel
theorem dL_law_589 : decode cL_law 589 = .ok (.iconst 1, 1) := by decide +kernel
theorem dL_law_590 : decode cL_law 590 = .ok (.goto 4, 3) := by decide +kernel
theorem dL_law_593 : decode cL_law 593 = .ok (.iconst 0, 1) := by decide +kernel
theorem dL_law_594 : decode cL_law 594 = .ok (.istore 17, 2) := by decide +kernel
theorem dL_law_596 : decode cL_law 596 = .ok (.aload_n 1, 1) := by decide +kernel
theorem dL_law_597 : decode cL_law 597 = .ok (.iload 11, 2) := by decide +kernel
theorem dL_law_599 : decode cL_law 599 = .ok (.iload 12, 2) := by decide +kernel
theorem dL_law_601 : decode cL_law 601 = .ok (.invokestatic 128, 3) := by decide +kernel
theorem dL_law_604 : decode cL_law 604 = .ok (.iload 17, 2) := by decide +kernel
theorem dL_law_606 : decode cL_law 606 = .ok (.ifCond .eq 15, 3) := by decide +kernel
theorem dL_law_609 : decode cL_law 609 = .ok (.aload 5, 2) := by decide +kernel
theorem dL_law_611 : decode cL_law 611 = .ok (.aload 6, 2) := by decide +kernel
theorem dL_law_613 : decode cL_law 613 = .ok (.aload 7, 2) := by decide +kernel
theorem dL_law_615 : decode cL_law 615 = .ok (.invokestatic 98, 3) := by decide +kernel
theorem dL_law_618 : decode cL_law 618 = .ok (.goto 5, 3) := by decide +kernel
theorem dL_law_621 : decode cL_law 621 = .ok (.bipush (-2), 2) := by decide +kernel
theorem dL_law_623 : decode cL_law 623 = .ok (.if_icmp .eq 5, 3) := by decide +kernel
theorem dL_law_626 : decode cL_law 626 = .ok (.iconst 0, 1) := by decide +kernel
theorem dL_law_627 : decode cL_law 627 = .ok (.ireturn, 1) := by decide +kernel
theorem dL_law_628 : decode cL_law 628 = .ok (.iload 17, 2) := by decide +kernel
theorem dL_law_630 : decode cL_law 630 = .ok (.ifCond .eq 16, 3) := by decide +kernel
theorem dL_law_633 : decode cL_law 633 = .ok (.aload 5, 2) := by decide +kernel
theorem dL_law_635 : decode cL_law 635 = .ok (.aload 6, 2) := by decide +kernel
theorem dL_law_637 : decode cL_law 637 = .ok (.aload 7, 2) := by decide +kernel
theorem dL_law_639 : decode cL_law 639 = .ok (.aload_n 2, 1) := by decide +kernel
theorem dL_law_640 : decode cL_law 640 = .ok (.aload_n 3, 1) := by decide +kernel
theorem dL_law_641 : decode cL_law 641 = .ok (.aload 4, 2) := by decide +kernel
theorem dL_law_643 : decode cL_law 643 = .ok (.invokestatic 113, 3) := by decide +kernel
theorem dL_law_646 : decode cL_law 646 = .ok (.goto 159, 3) := by decide +kernel
theorem dL_law_649 : decode cL_law 649 = .ok (.aload_n 2, 1) := by decide +kernel
theorem dL_law_650 : decode cL_law 650 = .ok (.iconst 0, 1) := by decide +kernel
theorem dL_law_651 : decode cL_law 651 = .ok (.iaload, 1) := by decide +kernel
theorem dL_law_652 : decode cL_law 652 = .ok (.iconst 4, 1) := by decide +kernel
theorem dL_law_653 : decode cL_law 653 = .ok (.if_icmp .ge 152, 3) := by decide +kernel
theorem dL_law_656 : decode cL_law 656 = .ok (.bipush 10, 2) := by decide +kernel
theorem dL_law_658 : decode cL_law 658 = .ok (.aload 5, 2) := by decide +kernel
theorem dL_law_660 : decode cL_law 660 = .ok (.iconst 0, 1) := by decide +kernel
theorem dL_law_661 : decode cL_law 661 = .ok (.dup2, 1) := by decide +kernel
theorem dL_law_662 : decode cL_law 662 = .ok (.iaload, 1) := by decide +kernel
theorem dL_law_663 : decode cL_law 663 = .ok (.dup_x2, 1) := by decide +kernel
theorem dL_law_664 : decode cL_law 664 = .ok (.iconst 1, 1) := by decide +kernel
theorem dL_law_665 : decode cL_law 665 = .ok (.iadd, 1) := by decide +kernel
theorem dL_law_666 : decode cL_law 666 = .ok (.iastore, 1) := by decide +kernel
theorem dL_law_667 : decode cL_law 667 = .ok (.imul, 1) := by decide +kernel
theorem dL_law_668 : decode cL_law 668 = .ok (.istore 16, 2) := by decide +kernel
theorem dL_law_670 : decode cL_law 670 = .ok (.aload 5, 2) := by decide +kernel
theorem dL_law_672 : decode cL_law 672 = .ok (.aload 5, 2) := by decide +kernel
theorem dL_law_674 : decode cL_law 674 = .ok (.iconst 0, 1) := by decide +kernel
theorem dL_law_675 : decode cL_law 675 = .ok (.iaload, 1) := by decide +kernel
theorem dL_law_676 : decode cL_law 676 = .ok (.iconst 3, 1) := by decide +kernel
theorem dL_law_677 : decode cL_law 677 = .ok (.iastore, 1) := by decide +kernel
theorem dL_law_678 : decode cL_law 678 = .ok (.aload 6, 2) := by decide +kernel
theorem dL_law_680 : decode cL_law 680 = .ok (.iload 16, 2) := by decide +kernel
theorem dL_law_682 : decode cL_law 682 = .ok (.iload 13, 2) := by decide +kernel
theorem dL_law_684 : decode cL_law 684 = .ok (.iastore, 1) := by decide +kernel
theorem dL_law_685 : decode cL_law 685 = .ok (.aload 7, 2) := by decide +kernel
theorem dL_law_687 : decode cL_law 687 = .ok (.iload 16, 2) := by decide +kernel
theorem dL_law_689 : decode cL_law 689 = .ok (.iload 14, 2) := by decide +kernel
theorem dL_law_691 : decode cL_law 691 = .ok (.iastore, 1) := by decide +kernel
theorem dL_law_692 : decode cL_law 692 = .ok (.aload 6, 2) := by decide +kernel
theorem dL_law_694 : decode cL_law 694 = .ok (.iload 16, 2) := by decide +kernel
theorem dL_law_696 : decode cL_law 696 = .ok (.iconst 1, 1) := by decide +kernel
theorem dL_law_697 : decode cL_law 697 = .ok (.iadd, 1) := by decide +kernel
theorem dL_law_698 : decode cL_law 698 = .ok (.iload 13, 2) := by decide +kernel
theorem dL_law_700 : decode cL_law 700 = .ok (.iconst 1, 1) := by decide +kernel
theorem dL_law_701 : decode cL_law 701 = .ok (.iadd, 1) := by decide +kernel
theorem dL_law_702 : decode cL_law 702 = .ok (.iastore, 1) := by decide +kernel
theorem dL_law_703 : decode cL_law 703 = .ok (.aload 7, 2) := by decide +kernel
theorem dL_law_705 : decode cL_law 705 = .ok (.iload 16, 2) := by decide +kernel
theorem dL_law_707 : decode cL_law 707 = .ok (.iconst 1, 1) := by decide +kernel
theorem dL_law_708 : decode cL_law 708 = .ok (.iadd, 1) := by decide +kernel
theorem dL_law_709 : decode cL_law 709 = .ok (.iload 14, 2) := by decide +kernel
theorem dL_law_711 : decode cL_law 711 = .ok (.iastore, 1) := by decide +kernel
theorem dL_law_712 : decode cL_law 712 = .ok (.aload 6, 2) := by decide +kernel
theorem dL_law_714 : decode cL_law 714 = .ok (.iload 16, 2) := by decide +kernel
theorem dL_law_716 : decode cL_law 716 = .ok (.iconst 2, 1) := by decide +kernel
theorem dL_law_717 : decode cL_law 717 = .ok (.iadd, 1) := by decide +kernel
theorem dL_law_718 : decode cL_law 718 = .ok (.iload 13, 2) := by decide +kernel
theorem dL_law_720 : decode cL_law 720 = .ok (.iastore, 1) := by decide +kernel
theorem dL_law_721 : decode cL_law 721 = .ok (.aload 7, 2) := by decide +kernel
theorem dL_law_723 : decode cL_law 723 = .ok (.iload 16, 2) := by decide +kernel
theorem dL_law_725 : decode cL_law 725 = .ok (.iconst 2, 1) := by decide +kernel
theorem dL_law_726 : decode cL_law 726 = .ok (.iadd, 1) := by decide +kernel
theorem dL_law_727 : decode cL_law 727 = .ok (.iload 14, 2) := by decide +kernel
theorem dL_law_729 : decode cL_law 729 = .ok (.iconst 1, 1) := by decide +kernel
theorem dL_law_730 : decode cL_law 730 = .ok (.iadd, 1) := by decide +kernel
theorem dL_law_731 : decode cL_law 731 = .ok (.iastore, 1) := by decide +kernel
theorem dL_law_732 : decode cL_law 732 = .ok (.aload 5, 2) := by decide +kernel
theorem dL_law_734 : decode cL_law 734 = .ok (.aload 6, 2) := by decide +kernel
theorem dL_law_736 : decode cL_law 736 = .ok (.aload 7, 2) := by decide +kernel
theorem dL_law_738 : decode cL_law 738 = .ok (.invokestatic 117, 3) := by decide +kernel
theorem dL_law_741 : decode cL_law 741 = .ok (.istore 17, 2) := by decide +kernel
theorem dL_law_743 : decode cL_law 743 = .ok (.aload_n 1, 1) := by decide +kernel
theorem dL_law_744 : decode cL_law 744 = .ok (.iload 13, 2) := by decide +kernel
theorem dL_law_746 : decode cL_law 746 = .ok (.iload 14, 2) := by decide +kernel
theorem dL_law_748 : decode cL_law 748 = .ok (.invokestatic 131, 3) := by decide +kernel
theorem dL_law_751 : decode cL_law 751 = .ok (.iload 13, 2) := by decide +kernel
theorem dL_law_753 : decode cL_law 753 = .ok (.bipush 14, 2) := by decide +kernel
theorem dL_law_755 : decode cL_law 755 = .ok (.if_icmp .gt 10, 3) := by decide +kernel
theorem dL_law_758 : decode cL_law 758 = .ok (.iload 14, 2) := by decide +kernel
theorem dL_law_760 : decode cL_law 760 = .ok (.bipush 14, 2) := by decide +kernel
theorem dL_law_762 : decode cL_law 762 = .ok (.if_icmp .le 7, 3) := by decide +kernel
theorem dL_law_765 : decode cL_law 765 = .ok (.iconst (-1), 1) := by decide +kernel
theorem dL_law_766 : decode cL_law 766 = .ok (.goto 16, 3) := by decide +kernel
theorem dL_law_769 : decode cL_law 769 = .ok (.iload 17, 2) := by decide +kernel
theorem dL_law_771 : decode cL_law 771 = .ok (.ifCond .le 8, 3) := by decide +kernel
theorem dL_law_774 : decode cL_law 774 = .ok (.bipush (-2), 2) := by decide +kernel
theorem dL_law_776 : decode cL_law 776 = .ok (.goto 6, 3) := by decide +kernel
theorem dL_law_779 : decode cL_law 779 = .ok (.aload_n 2, 1) := by decide +kernel
theorem dL_law_780 : decode cL_law 780 = .ok (.iconst 0, 1) := by decide +kernel
theorem dL_law_781 : decode cL_law 781 = .ok (.iaload, 1) := by decide +kernel
theorem dL_law_782 : decode cL_law 782 = .ok (.if_icmp .eq 5, 3) := by decide +kernel
theorem dL_law_785 : decode cL_law 785 = .ok (.iconst 0, 1) := by decide +kernel
theorem dL_law_786 : decode cL_law 786 = .ok (.ireturn, 1) := by decide +kernel
theorem dL_law_787 : decode cL_law 787 = .ok (.iload 17, 2) := by decide +kernel
theorem dL_law_789 : decode cL_law 789 = .ok (.ifCond .ne 16, 3) := by decide +kernel
theorem dL_law_792 : decode cL_law 792 = .ok (.aload 5, 2) := by decide +kernel
theorem dL_law_794 : decode cL_law 794 = .ok (.aload 6, 2) := by decide +kernel
theorem dL_law_796 : decode cL_law 796 = .ok (.aload 7, 2) := by decide +kernel
theorem dL_law_798 : decode cL_law 798 = .ok (.aload_n 2, 1) := by decide +kernel
theorem dL_law_799 : decode cL_law 799 = .ok (.aload_n 3, 1) := by decide +kernel
theorem dL_law_800 : decode cL_law 800 = .ok (.aload 4, 2) := by decide +kernel
theorem dL_law_802 : decode cL_law 802 = .ok (.invokestatic 113, 3) := by decide +kernel
theorem dL_law_805 : decode cL_law 805 = .ok (.aload_n 1, 1) := by decide +kernel
theorem dL_law_806 : decode cL_law 806 = .ok (.iload 9, 2) := by decide +kernel
theorem dL_law_808 : decode cL_law 808 = .ok (.bipush 17, 2) := by decide +kernel
theorem dL_law_810 : decode cL_law 810 = .ok (.ishr, 1) := by decide +kernel
theorem dL_law_811 : decode cL_law 811 = .ok (.bipush 16, 2) := by decide +kernel
theorem dL_law_813 : decode cL_law 813 = .ok (.invokestatic 110, 3) := by decide +kernel
theorem dL_law_816 : decode cL_law 816 = .ok (.aload_n 2, 1) := by decide +kernel
theorem dL_law_817 : decode cL_law 817 = .ok (.aload_n 3, 1) := by decide +kernel
theorem dL_law_818 : decode cL_law 818 = .ok (.aload 4, 2) := by decide +kernel
theorem dL_law_820 : decode cL_law 820 = .ok (.invokestatic 133, 3) := by decide +kernel
theorem dL_law_823 : decode cL_law 823 = .ok (.ifCond .ne 5, 3) := by decide +kernel
theorem dL_law_826 : decode cL_law 826 = .ok (.iconst 0, 1) := by decide +kernel
theorem dL_law_827 : decode cL_law 827 = .ok (.ireturn, 1) := by decide +kernel
theorem dL_law_828 : decode cL_law 828 = .ok (.iinc 8 1, 3) := by decide +kernel
theorem dL_law_831 : decode cL_law 831 = .ok (.goto (-762), 3) := by decide +kernel
theorem dL_law_834 : decode cL_law 834 = .ok (.iconst 1, 1) := by decide +kernel
theorem dL_law_835 : decode cL_law 835 = .ok (.ireturn, 1) := by decide +kernel
