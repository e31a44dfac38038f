theorem dX9_dropHole_17 : decode cX9_dropHole 17 = .ok (.iconst 2, 1) := by decide +kernel
theorem dX9_dropHole_18 : decode cX9_dropHole 18 = .ok (.goto 4, 3) := by decide +kernel
theorem dX9_dropHole_21 : decode cX9_dropHole 21 = .ok (.iconst 0, 1) := by decide +kernel
theorem dX9_dropHole_22 : decode cX9_dropHole 22 = .ok (.putfield 56, 3) := by decide +kernel
theorem dX9_dropHole_25 : decode cX9_dropHole 25 = .ok (.aload_n 0, 1) := by decide +kernel
theorem dX9_dropHole_26 : decode cX9_dropHole 26 = .ok (.getfield 56, 3) := by decide +kernel
theorem dX9_dropHole_29 : decode cX9_dropHole 29 = .ok (.ifCond .le 5, 3) := by decide +kernel
theorem dX9_dropHole_32 : decode cX9_dropHole 32 = .ok (.iconst 0, 1) := by decide +kernel
theorem dX9_dropHole_33 : decode cX9_dropHole 33 = .ok (.ireturn, 1) := by decide +kernel
theorem dX9_dropHole_34 : decode cX9_dropHole 34 = .ok (.aload_n 0, 1) := by decide +kernel
theorem dX9_dropHole_35 : decode cX9_dropHole 35 = .ok (.invokevirtual 217, 3) := by decide +kernel
theorem dX9_dropHole_38 : decode cX9_dropHole 38 = .ok (.iload_n 1, 1) := by decide +kernel
theorem dX9_dropHole_39 : decode cX9_dropHole 39 = .ok (.istore_n 2, 1) := by decide +kernel
theorem dX9_dropHole_40 : decode cX9_dropHole 40 = .ok (.iload_n 2, 1) := by decide +kernel
theorem dX9_dropHole_41 : decode cX9_dropHole 41 = .ok (.iconst 1, 1) := by decide +kernel
theorem dX9_dropHole_42 : decode cX9_dropHole 42 = .ok (.iadd, 1) := by decide +kernel
theorem dX9_dropHole_43 : decode cX9_dropHole 43 = .ok (.aload_n 0, 1) := by decide +kernel
theorem dX9_dropHole_44 : decode cX9_dropHole 44 = .ok (.getfield 7, 3) := by decide +kernel
theorem dX9_dropHole_47 : decode cX9_dropHole 47 = .ok (.iconst 0, 1) := by decide +kernel
theorem dX9_dropHole_48 : decode cX9_dropHole 48 = .ok (.iaload, 1) := by decide +kernel
theorem dX9_dropHole_49 : decode cX9_dropHole 49 = .ok (.if_icmp .ge 60, 3) := by decide +kernel
theorem dX9_dropHole_52 : decode cX9_dropHole 52 = .ok (.aload_n 0, 1) := by decide +kernel
theorem dX9_dropHole_53 : decode cX9_dropHole 53 = .ok (.getfield 7, 3) := by decide +kernel
theorem dX9_dropHole_56 : decode cX9_dropHole 56 = .ok (.iconst 1, 1) := by decide +kernel
theorem dX9_dropHole_57 : decode cX9_dropHole 57 = .ok (.iload_n 2, 1) := by decide +kernel
theorem dX9_dropHole_58 : decode cX9_dropHole 58 = .ok (.iadd, 1) := by decide +kernel
theorem dX9_dropHole_59 : decode cX9_dropHole 59 = .ok (.aload_n 0, 1) := by decide +kernel
theorem dX9_dropHole_60 : decode cX9_dropHole 60 = .ok (.iload_n 2, 1) := by decide +kernel
theorem dX9_dropHole_61 : decode cX9_dropHole 61 = .ok (.iconst 1, 1) := by decide +kernel
theorem dX9_dropHole_62 : decode cX9_dropHole 62 = .ok (.iadd, 1) := by decide +kernel
theorem dX9_dropHole_63 : decode cX9_dropHole 63 = .ok (.invokevirtual 68, 3) := by decide +kernel
theorem dX9_dropHole_66 : decode cX9_dropHole 66 = .ok (.iastore, 1) := by decide +kernel
theorem dX9_dropHole_67 : decode cX9_dropHole 67 = .ok (.iconst 0, 1) := by decide +kernel
theorem dX9_dropHole_68 : decode cX9_dropHole 68 = .ok (.istore_n 3, 1) := by decide +kernel
theorem dX9_dropHole_69 : decode cX9_dropHole 69 = .ok (.iload_n 3, 1) := by decide +kernel
theorem dX9_dropHole_70 : decode cX9_dropHole 70 = .ok (.bipush 10, 2) := by decide +kernel
theorem dX9_dropHole_72 : decode cX9_dropHole 72 = .ok (.if_icmp .ge 31, 3) := by decide +kernel
theorem dX9_dropHole_75 : decode cX9_dropHole 75 = .ok (.aload_n 0, 1) := by decide +kernel
theorem dX9_dropHole_76 : decode cX9_dropHole 76 = .ok (.iload_n 2, 1) := by decide +kernel
theorem dX9_dropHole_77 : decode cX9_dropHole 77 = .ok (.iload_n 3, 1) := by decide +kernel
theorem dX9_dropHole_78 : decode cX9_dropHole 78 = .ok (.aload_n 0, 1) := by decide +kernel
theorem dX9_dropHole_79 : decode cX9_dropHole 79 = .ok (.iload_n 2, 1) := by decide +kernel
theorem dX9_dropHole_80 : decode cX9_dropHole 80 = .ok (.iconst 1, 1) := by decide +kernel
theorem dX9_dropHole_81 : decode cX9_dropHole 81 = .ok (.iadd, 1) := by decide +kernel
theorem dX9_dropHole_82 : decode cX9_dropHole 82 = .ok (.iload_n 3, 1) := by decide +kernel
theorem dX9_dropHole_83 : decode cX9_dropHole 83 = .ok (.invokevirtual 75, 3) := by decide +kernel
theorem dX9_dropHole_86 : decode cX9_dropHole 86 = .ok (.aload_n 0, 1) := by decide +kernel
theorem dX9_dropHole_87 : decode cX9_dropHole 87 = .ok (.iload_n 2, 1) := by decide +kernel
theorem dX9_dropHole_88 : decode cX9_dropHole 88 = .ok (.iconst 1, 1) := by decide +kernel
theorem dX9_dropHole_89 : decode cX9_dropHole 89 = .ok (.iadd, 1) := by decide +kernel
theorem dX9_dropHole_90 : decode cX9_dropHole 90 = .ok (.iload_n 3, 1) := by decide +kernel
theorem dX9_dropHole_91 : decode cX9_dropHole 91 = .ok (.invokevirtual 79, 3) := by decide +kernel
theorem dX9_dropHole_94 : decode cX9_dropHole 94 = .ok (.invokevirtual 52, 3) := by decide +kernel
theorem dX9_dropHole_97 : decode cX9_dropHole 97 = .ok (.iinc 3 1, 3) := by decide +kernel
theorem dX9_dropHole_100 : decode cX9_dropHole 100 = .ok (.goto (-31), 3) := by decide +kernel
theorem dX9_dropHole_103 : decode cX9_dropHole 103 = .ok (.iinc 2 1, 3) := by decide +kernel
theorem dX9_dropHole_106 : decode cX9_dropHole 106 = .ok (.goto (-66), 3) := by decide +kernel
theorem dX9_dropHole_109 : decode cX9_dropHole 109 = .ok (.aload_n 0, 1) := by decide +kernel
theorem dX9_dropHole_110 : decode cX9_dropHole 110 = .ok (.getfield 7, 3) := by decide +kernel
theorem dX9_dropHole_113 : decode cX9_dropHole 113 = .ok (.iconst 0, 1) := by decide +kernel
theorem dX9_dropHole_114 : decode cX9_dropHole 114 = .ok (.dup2, 1) := by decide +kernel
theorem dX9_dropHole_115 : decode cX9_dropHole 115 = .ok (.iaload, 1) := by decide +kernel
theorem dX9_dropHole_116 : decode cX9_dropHole 116 = .ok (.iconst 1, 1) := by decide +kernel
theorem dX9_dropHole_117 : decode cX9_dropHole 117 = .ok (.isub, 1) := by decide +kernel
theorem dX9_dropHole_118 : decode cX9_dropHole 118 = .ok (.iastore, 1) := by decide +kernel
theorem dX9_dropHole_119 : decode cX9_dropHole 119 = .ok (.aload_n 0, 1) := by decide +kernel
theorem dX9_dropHole_120 : decode cX9_dropHole 120 = .ok (.invokevirtual 227, 3) := by decide +kernel
theorem dX9_dropHole_123 : decode cX9_dropHole 123 = .ok (.aload_n 0, 1) := by decide +kernel
theorem dX9_dropHole_124 : decode cX9_dropHole 124 = .ok (.invokevirtual 184, 3) := by decide +kernel
theorem dX9_dropHole_127 : decode cX9_dropHole 127 = .ok (.ireturn, 1) := by decide +kernel
theorem dX9_shift_0 : decode cX9_shift 0 = .ok (.aload_n 0, 1) := by decide +kernel
theorem dX9_shift_1 : decode cX9_shift 1 = .ok (.aload_n 0, 1) := by decide +kernel
theorem dX9_shift_2 : decode cX9_shift 2 = .ok (.iload_n 1, 1) := by decide +kernel
theorem dX9_shift_3 : decode cX9_shift 3 = .ok (.iload_n 2, 1) := by decide +kernel
theorem dX9_shift_4 : decode cX9_shift 4 = .ok (.invokevirtual 239, 3) := by decide +kernel
theorem dX9_shift_7 : decode cX9_shift 7 = .ok (.putfield 56, 3) := by decide +kernel
theorem dX9_shift_10 : decode cX9_shift 10 = .ok (.aload_n 0, 1) := by decide +kernel
theorem dX9_shift_11 : decode cX9_shift 11 = .ok (.getfield 56, 3) := by decide +kernel
theorem dX9_shift_14 : decode cX9_shift 14 = .ok (.ifCond .le 5, 3) := by decide +kernel
theorem dX9_shift_17 : decode cX9_shift 17 = .ok (.iconst 0, 1) := by decide +kernel
theorem dX9_shift_18 : decode cX9_shift 18 = .ok (.ireturn, 1) := by decide +kernel
theorem dX9_shift_19 : decode cX9_shift 19 = .ok (.aload_n 0, 1) := by decide +kernel
theorem dX9_shift_20 : decode cX9_shift 20 = .ok (.invokevirtual 227, 3) := by decide +kernel
theorem dX9_shift_23 : decode cX9_shift 23 = .ok (.aload_n 0, 1) := by decide +kernel
theorem dX9_shift_24 : decode cX9_shift 24 = .ok (.invokevirtual 242, 3) := by decide +kernel
theorem dX9_shift_27 : decode cX9_shift 27 = .ok (.ireturn, 1) := by decide +kernel
theorem dX9_turn_0 : decode cX9_turn 0 = .ok (.aload_n 0, 1) := by decide +kernel
theorem dX9_turn_1 : decode cX9_turn 1 = .ok (.iconst 0, 1) := by decide +kernel
theorem dX9_turn_2 : decode cX9_turn 2 = .ok (.putfield 56, 3) := by decide +kernel
theorem dX9_turn_5 : decode cX9_turn 5 = .ok (.aload_n 0, 1) := by decide +kernel
theorem dX9_turn_6 : decode cX9_turn 6 = .ok (.iconst 0, 1) := by decide +kernel
theorem dX9_turn_7 : decode cX9_turn 7 = .ok (.invokevirtual 245, 3) := by decide +kernel
theorem dX9_turn_10 : decode cX9_turn 10 = .ok (.aload_n 0, 1) := by decide +kernel
theorem dX9_turn_11 : decode cX9_turn 11 = .ok (.invokevirtual 227, 3) := by decide +kernel
theorem dX9_turn_14 : decode cX9_turn 14 = .ok (.aload_n 0, 1) := by decide +kernel
theorem dX9_turn_15 : decode cX9_turn 15 = .ok (.invokevirtual 242, 3) := by decide +kernel
theorem dX9_turn_18 : decode cX9_turn 18 = .ok (.ireturn, 1) := by decide +kernel
theorem dX9_mirror_0 : decode cX9_mirror 0 = .ok (.aload_n 0, 1) := by decide +kernel
theorem dX9_mirror_1 : decode cX9_mirror 1 = .ok (.iconst 0, 1) := by decide +kernel
theorem dX9_mirror_2 : decode cX9_mirror 2 = .ok (.putfield 56, 3) := by decide +kernel
theorem dX9_mirror_5 : decode cX9_mirror 5 = .ok (.aload_n 0, 1) := by decide +kernel
theorem dX9_mirror_6 : decode cX9_mirror 6 = .ok (.iconst 1, 1) := by decide +kernel
theorem dX9_mirror_7 : decode cX9_mirror 7 = .ok (.invokevirtual 245, 3) := by decide +kernel
theorem dX9_mirror_10 : decode cX9_mirror 10 = .ok (.aload_n 0, 1) := by decide +kernel
theorem dX9_mirror_11 : decode cX9_mirror 11 = .ok (.invokevirtual 227, 3) := by decide +kernel
theorem dX9_mirror_14 : decode cX9_mirror 14 = .ok (.aload_n 0, 1) := by decide +kernel
theorem dX9_mirror_15 : decode cX9_mirror 15 = .ok (.invokevirtual 242, 3) := by decide +kernel
theorem dX9_mirror_18 : decode cX9_mirror 18 = .ok (.ireturn, 1) := by decide +kernel
theorem dX9_undo_0 : decode cX9_undo 0 = .ok (.aload_n 0, 1) := by decide +kernel
theorem dX9_undo_1 : decode cX9_undo 1 = .ok (.aload_n 0, 1) := by decide +kernel
theorem dX9_undo_2 : decode cX9_undo 2 = .ok (.getfield 137, 3) := by decide +kernel
theorem dX9_undo_5 : decode cX9_undo 5 = .ok (.ifCond .le 7, 3) := by decide +kernel
theorem dX9_undo_8 : decode cX9_undo 8 = .ok (.iconst 0, 1) := by decide +kernel
theorem dX9_undo_9 : decode cX9_undo 9 = .ok (.goto 4, 3) := by decide +kernel
theorem dX9_undo_12 : decode cX9_undo 12 = .ok (.iconst 1, 1) := by decide +kernel
theorem dX9_undo_13 : decode cX9_undo 13 = .ok (.putfield 56, 3) := by decide +kernel
theorem dX9_undo_16 : decode cX9_undo 16 = .ok (.aload_n 0, 1) := by decide +kernel
theorem dX9_undo_17 : decode cX9_undo 17 = .ok (.getfield 56, 3) := by decide +kernel
theorem dX9_undo_20 : decode cX9_undo 20 = .ok (.ifCond .le 5, 3) := by decide +kernel
theorem dX9_undo_23 : decode cX9_undo 23 = .ok (.iconst 0, 1) := by decide +kernel
theorem dX9_undo_24 : decode cX9_undo 24 = .ok (.ireturn, 1) := by decide +kernel
theorem dX9_undo_25 : decode cX9_undo 25 = .ok (.aload_n 0, 1) := by decide +kernel
theorem dX9_undo_26 : decode cX9_undo 26 = .ok (.dup, 1) := by decide +kernel
theorem dX9_undo_27 : decode cX9_undo 27 = .ok (.getfield 137, 3) := by decide +kernel
theorem dX9_undo_30 : decode cX9_undo 30 = .ok (.iconst 1, 1) := by decide +kernel
theorem dX9_undo_31 : decode cX9_undo 31 = .ok (.isub, 1) := by decide +kernel
theorem dX9_undo_32 : decode cX9_undo 32 = .ok (.putfield 137, 3) := by decide +kernel
theorem dX9_undo_35 : decode cX9_undo 35 = .ok (.aload_n 0, 1) := by decide +kernel
theorem dX9_undo_36 : decode cX9_undo 36 = .ok (.getfield 19, 3) := by decide +kernel
theorem dX9_undo_39 : decode cX9_undo 39 = .ok (.aload_n 0, 1) := by decide +kernel
theorem dX9_undo_40 : decode cX9_undo 40 = .ok (.getfield 137, 3) := by decide +kernel
theorem dX9_undo_43 : decode cX9_undo 43 = .ok (.bipush 85, 2) := by decide +kernel
theorem dX9_undo_45 : decode cX9_undo 45 = .ok (.imul, 1) := by decide +kernel
theorem dX9_undo_46 : decode cX9_undo 46 = .ok (.aload_n 0, 1) := by decide +kernel
theorem dX9_undo_47 : decode cX9_undo 47 = .ok (.getfield 7, 3) := by decide +kernel
theorem dX9_undo_50 : decode cX9_undo 50 = .ok (.iconst 0, 1) := by decide +kernel
theorem dX9_undo_51 : decode cX9_undo 51 = .ok (.invokestatic 130, 3) := by decide +kernel
theorem dX9_undo_54 : decode cX9_undo 54 = .ok (.aload_n 0, 1) := by decide +kernel
theorem dX9_undo_55 : decode cX9_undo 55 = .ok (.getfield 137, 3) := by decide +kernel
theorem dX9_undo_58 : decode cX9_undo 58 = .ok (.ireturn, 1) := by decide +kernel
theorem dX9_whyNot_0 : decode cX9_whyNot 0 = .ok (.aload_n 0, 1) := by decide +kernel
theorem dX9_whyNot_1 : decode cX9_whyNot 1 = .ok (.aload_n 0, 1) := by decide +kernel
theorem dX9_whyNot_2 : decode cX9_whyNot 2 = .ok (.iload_n 1, 1) := by decide +kernel
theorem dX9_whyNot_3 : decode cX9_whyNot 3 = .ok (.iload_n 2, 1) := by decide +kernel
theorem dX9_whyNot_4 : decode cX9_whyNot 4 = .ok (.invokevirtual 211, 3) := by decide +kernel
theorem dX9_whyNot_7 : decode cX9_whyNot 7 = .ok (.ifCond .eq 7, 3) := by decide +kernel
theorem dX9_whyNot_10 : decode cX9_whyNot 10 = .ok (.iconst 0, 1) := by decide +kernel
theorem dX9_whyNot_11 : decode cX9_whyNot 11 = .ok (.goto 4, 3) := by decide +kernel
theorem dX9_whyNot_14 : decode cX9_whyNot 14 = .ok (.iconst 1, 1) := by decide +kernel
theorem dX9_whyNot_15 : decode cX9_whyNot 15 = .ok (.putfield 56, 3) := by decide +kernel
theorem dX9_whyNot_18 : decode cX9_whyNot 18 = .ok (.aload_n 0, 1) := by decide +kernel
theorem dX9_whyNot_19 : decode cX9_whyNot 19 = .ok (.getfield 56, 3) := by decide +kernel
theorem dX9_whyNot_22 : decode cX9_whyNot 22 = .ok (.ifCond .le 5, 3) := by decide +kernel
theorem dX9_whyNot_25 : decode cX9_whyNot 25 = .ok (.iconst 0, 1) := by decide +kernel
theorem dX9_whyNot_26 : decode cX9_whyNot 26 = .ok (.ireturn, 1) := by decide +kernel
theorem dX9_whyNot_27 : decode cX9_whyNot 27 = .ok (.aload_n 0, 1) := by decide +kernel
theorem dX9_whyNot_28 : decode cX9_whyNot 28 = .ok (.invokevirtual 217, 3) := by decide +kernel
theorem dX9_whyNot_31 : decode cX9_whyNot 31 = .ok (.aload_n 0, 1) := by decide +kernel
theorem dX9_whyNot_32 : decode cX9_whyNot 32 = .ok (.iload_n 1, 1) := by decide +kernel
theorem dX9_whyNot_33 : decode cX9_whyNot 33 = .ok (.iload_n 2, 1) := by decide +kernel
theorem dX9_whyNot_34 : decode cX9_whyNot 34 = .ok (.iload_n 3, 1) := by decide +kernel
theorem dX9_whyNot_35 : decode cX9_whyNot 35 = .ok (.iload 4, 2) := by decide +kernel
theorem dX9_whyNot_37 : decode cX9_whyNot 37 = .ok (.invokevirtual 52, 3) := by decide +kernel
theorem dX9_whyNot_40 : decode cX9_whyNot 40 = .ok (.aload_n 0, 1) := by decide +kernel
theorem dX9_whyNot_41 : decode cX9_whyNot 41 = .ok (.invokevirtual 126, 3) := by decide +kernel
theorem dX9_whyNot_44 : decode cX9_whyNot 44 = .ok (.istore 5, 2) := by decide +kernel
theorem dX9_whyNot_46 : decode cX9_whyNot 46 = .ok (.aload_n 0, 1) := by decide +kernel
theorem dX9_whyNot_47 : decode cX9_whyNot 47 = .ok (.getfield 13, 3) := by decide +kernel
theorem dX9_whyNot_50 : decode cX9_whyNot 50 = .ok (.iconst 0, 1) := by decide +kernel
theorem dX9_whyNot_51 : decode cX9_whyNot 51 = .ok (.aload_n 0, 1) := by decide +kernel
theorem dX9_whyNot_52 : decode cX9_whyNot 52 = .ok (.getfield 7, 3) := by decide +kernel
theorem dX9_whyNot_55 : decode cX9_whyNot 55 = .ok (.iconst 0, 1) := by decide +kernel
theorem dX9_whyNot_56 : decode cX9_whyNot 56 = .ok (.invokestatic 130, 3) := by decide +kernel
theorem dX9_whyNot_59 : decode cX9_whyNot 59 = .ok (.iload 5, 2) := by decide +kernel
theorem dX9_whyNot_61 : decode cX9_whyNot 61 = .ok (.ireturn, 1) := by decide +kernel
theorem dX9_cut_0 : decode cX9_cut 0 = .ok (.aload_n 0, 1) := by decide +kernel
theorem dX9_cut_1 : decode cX9_cut 1 = .ok (.aload_n 0, 1) := by decide +kernel
theorem dX9_cut_2 : decode cX9_cut 2 = .ok (.iconst 0, 1) := by decide +kernel
theorem dX9_cut_3 : decode cX9_cut 3 = .ok (.iload_n 1, 1) := by decide +kernel
theorem dX9_cut_4 : decode cX9_cut 4 = .ok (.invokevirtual 211, 3) := by decide +kernel
theorem dX9_cut_7 : decode cX9_cut 7 = .ok (.ifCond .eq 7, 3) := by decide +kernel
theorem dX9_cut_10 : decode cX9_cut 10 = .ok (.iconst 0, 1) := by decide +kernel
theorem dX9_cut_11 : decode cX9_cut 11 = .ok (.goto 4, 3) := by decide +kernel
theorem dX9_cut_14 : decode cX9_cut 14 = .ok (.iconst 1, 1) := by decide +kernel
theorem dX9_cut_15 : decode cX9_cut 15 = .ok (.putfield 56, 3) := by decide +kernel
theorem dX9_cut_18 : decode cX9_cut 18 = .ok (.aload_n 0, 1) := by decide +kernel
theorem dX9_cut_19 : decode cX9_cut 19 = .ok (.getfield 56, 3) := by decide +kernel
theorem dX9_cut_22 : decode cX9_cut 22 = .ok (.ifCond .le 5, 3) := by decide +kernel
theorem dX9_cut_25 : decode cX9_cut 25 = .ok (.iconst 0, 1) := by decide +kernel
theorem dX9_cut_26 : decode cX9_cut 26 = .ok (.ireturn, 1) := by decide +kernel
theorem dX9_cut_27 : decode cX9_cut 27 = .ok (.aload_n 0, 1) := by decide +kernel
theorem dX9_cut_28 : decode cX9_cut 28 = .ok (.iload_n 1, 1) := by decide +kernel
theorem dX9_cut_29 : decode cX9_cut 29 = .ok (.invokevirtual 196, 3) := by decide +kernel
theorem dX9_cut_32 : decode cX9_cut 32 = .ok (.ifCond .eq 15, 3) := by decide +kernel
theorem dX9_cut_35 : decode cX9_cut 35 = .ok (.aload_n 0, 1) := by decide +kernel
theorem dX9_cut_36 : decode cX9_cut 36 = .ok (.iconst 0, 1) := by decide +kernel
theorem dX9_cut_37 : decode cX9_cut 37 = .ok (.iload_n 1, 1) := by decide +kernel
theorem dX9_cut_38 : decode cX9_cut 38 = .ok (.invokevirtual 155, 3) := by decide +kernel
theorem dX9_cut_41 : decode cX9_cut 41 = .ok (.invokestatic 143, 3) := by decide +kernel
theorem dX9_cut_44 : decode cX9_cut 44 = .ok (.goto 5, 3) := by decide +kernel
theorem dX9_cut_47 : decode cX9_cut 47 = .ok (.bipush (-9), 2) := by decide +kernel
theorem dX9_cut_49 : decode cX9_cut 49 = .ok (.ireturn, 1) := by decide +kernel
theorem dX9_stepX_0 : decode cX9_stepX 0 = .ok (.iload_n 0, 1) := by decide +kernel
theorem dX9_stepX_1 : decode cX9_stepX 1 = .ok (.ifCond .ne 7, 3) := by decide +kernel
theorem dX9_stepX_4 : decode cX9_stepX 4 = .ok (.iconst 1, 1) := by decide +kernel
theorem dX9_stepX_5 : decode cX9_stepX 5 = .ok (.goto 13, 3) := by decide +kernel
theorem dX9_stepX_8 : decode cX9_stepX 8 = .ok (.iload_n 0, 1) := by decide +kernel
theorem dX9_stepX_9 : decode cX9_stepX 9 = .ok (.iconst 2, 1) := by decide +kernel
theorem dX9_stepX_10 : decode cX9_stepX 10 = .ok (.if_icmp .ne 7, 3) := by decide +kernel
theorem dX9_stepX_13 : decode cX9_stepX 13 = .ok (.iconst (-1), 1) := by decide +kernel
theorem dX9_stepX_14 : decode cX9_stepX 14 = .ok (.goto 4, 3) := by decide +kernel
theorem dX9_stepX_17 : decode cX9_stepX 17 = .ok (.iconst 0, 1) := by decide +kernel
theorem dX9_stepX_18 : decode cX9_stepX 18 = .ok (.ireturn, 1) := by decide +kernel
theorem dX9_stepY_0 : decode cX9_stepY 0 = .ok (.iload_n 0, 1) := by decide +kernel
theorem dX9_stepY_1 : decode cX9_stepY 1 = .ok (.iconst 1, 1) := by decide +kernel
theorem dX9_stepY_2 : decode cX9_stepY 2 = .ok (.if_icmp .ne 7, 3) := by decide +kernel
theorem dX9_stepY_5 : decode cX9_stepY 5 = .ok (.iconst 1, 1) := by decide +kernel
theorem dX9_stepY_6 : decode cX9_stepY 6 = .ok (.goto 13, 3) := by decide +kernel
theorem dX9_stepY_9 : decode cX9_stepY 9 = .ok (.iload_n 0, 1) := by decide +kernel
theorem dX9_stepY_10 : decode cX9_stepY 10 = .ok (.iconst 3, 1) := by decide +kernel
theorem dX9_stepY_11 : decode cX9_stepY 11 = .ok (.if_icmp .ne 7, 3) := by decide +kernel
theorem dX9_stepY_14 : decode cX9_stepY 14 = .ok (.iconst (-1), 1) := by decide +kernel
theorem dX9_stepY_15 : decode cX9_stepY 15 = .ok (.goto 4, 3) := by decide +kernel
theorem dX9_stepY_18 : decode cX9_stepY 18 = .ok (.iconst 0, 1) := by decide +kernel
theorem dX9_stepY_19 : decode cX9_stepY 19 = .ok (.ireturn, 1) := by decide +kernel
theorem dX9_isStepped_0 : decode cX9_isStepped 0 = .ok (.aload_n 0, 1) := by decide +kernel
theorem dX9_isStepped_1 : decode cX9_isStepped 1 = .ok (.iconst 0, 1) := by decide +kernel
theorem dX9_isStepped_2 : decode cX9_isStepped 2 = .ok (.iload_n 1, 1) := by decide +kernel
theorem dX9_isStepped_3 : decode cX9_isStepped 3 = .ok (.aload_n 0, 1) := by decide +kernel
theorem dX9_isStepped_4 : decode cX9_isStepped 4 = .ok (.iconst 0, 1) := by decide +kernel
theorem dX9_isStepped_5 : decode cX9_isStepped 5 = .ok (.iload_n 1, 1) := by decide +kernel
theorem dX9_isStepped_6 : decode cX9_isStepped 6 = .ok (.invokevirtual 75, 3) := by decide +kernel
theorem dX9_isStepped_9 : decode cX9_isStepped 9 = .ok (.iload_n 2, 1) := by decide +kernel
theorem dX9_isStepped_10 : decode cX9_isStepped 10 = .ok (.invokestatic 249, 3) := by decide +kernel
theorem dX9_isStepped_13 : decode cX9_isStepped 13 = .ok (.iadd, 1) := by decide +kernel
theorem dX9_isStepped_14 : decode cX9_isStepped 14 = .ok (.aload_n 0, 1) := by decide +kernel
theorem dX9_isStepped_15 : decode cX9_isStepped 15 = .ok (.iconst 0, 1) := by decide +kernel
theorem dX9_isStepped_16 : decode cX9_isStepped 16 = .ok (.iload_n 1, 1) := by decide +kernel
theorem dX9_isStepped_17 : decode cX9_isStepped 17 = .ok (.invokevirtual 79, 3) := by decide +kernel
theorem dX9_isStepped_20 : decode cX9_isStepped 20 = .ok (.iload_n 2, 1) := by decide +kernel
theorem dX9_isStepped_21 : decode cX9_isStepped 21 = .ok (.invokestatic 252, 3) := by decide +kernel
theorem dX9_isStepped_24 : decode cX9_isStepped 24 = .ok (.iadd, 1) := by decide +kernel
theorem dX9_isStepped_25 : decode cX9_isStepped 25 = .ok (.invokevirtual 223, 3) := by decide +kernel
theorem dX9_isStepped_28 : decode cX9_isStepped 28 = .ok (.ifCond .ne 7, 3) := by decide +kernel
theorem dX9_isStepped_31 : decode cX9_isStepped 31 = .ok (.iconst 1, 1) := by decide +kernel
theorem dX9_isStepped_32 : decode cX9_isStepped 32 = .ok (.goto 4, 3) := by decide +kernel
theorem dX9_isStepped_35 : decode cX9_isStepped 35 = .ok (.iconst 0, 1) := by decide +kernel
theorem dX9_isStepped_36 : decode cX9_isStepped 36 = .ok (.ireturn, 1) := by decide +kernel
theorem dX9_bestMove_0 : decode cX9_bestMove 0 = .ok (.aload_n 0, 1) := by decide +kernel
theorem dX9_bestMove_1 : decode cX9_bestMove 1 = .ok (.iconst 0, 1) := by decide +kernel
theorem dX9_bestMove_2 : decode cX9_bestMove 2 = .ok (.putfield 56, 3) := by decide +kernel
theorem dX9_bestMove_5 : decode cX9_bestMove 5 = .ok (.bipush (-9), 2) := by decide +kernel
theorem dX9_bestMove_7 : decode cX9_bestMove 7 = .ok (.istore_n 1, 1) := by decide +kernel
theorem dX9_bestMove_8 : decode cX9_bestMove 8 = .ok (.iconst 0, 1) := by decide +kernel
theorem dX9_bestMove_9 : decode cX9_bestMove 9 = .ok (.istore_n 2, 1) := by decide +kernel
theorem dX9_bestMove_10 : decode cX9_bestMove 10 = .ok (.iconst 0, 1) := by decide +kernel
theorem dX9_bestMove_11 : decode cX9_bestMove 11 = .ok (.istore_n 3, 1) := by decide +kernel
theorem dX9_bestMove_12 : decode cX9_bestMove 12 = .ok (.iload_n 3, 1) := by decide +kernel
theorem dX9_bestMove_13 : decode cX9_bestMove 13 = .ok (.aload_n 0, 1) := by decide +kernel
theorem dX9_bestMove_14 : decode cX9_bestMove 14 = .ok (.iconst 0, 1) := by decide +kernel
theorem dX9_bestMove_15 : decode cX9_bestMove 15 = .ok (.invokevirtual 68, 3) := by decide +kernel
theorem dX9_bestMove_18 : decode cX9_bestMove 18 = .ok (.if_icmp .ge 99, 3) := by decide +kernel
theorem dX9_bestMove_21 : decode cX9_bestMove 21 = .ok (.iconst 0, 1) := by decide +kernel
theorem dX9_bestMove_22 : decode cX9_bestMove 22 = .ok (.istore 4, 2) := by decide +kernel
theorem dX9_bestMove_24 : decode cX9_bestMove 24 = .ok (.iload 4, 2) := by decide +kernel
theorem dX9_bestMove_26 : decode cX9_bestMove 26 = .ok (.iconst 4, 1) := by decide +kernel
theorem dX9_bestMove_27 : decode cX9_bestMove 27 = .ok (.if_icmp .ge 84, 3) := by decide +kernel
theorem dX9_bestMove_30 : decode cX9_bestMove 30 = .ok (.aload_n 0, 1) := by decide +kernel
theorem dX9_bestMove_31 : decode cX9_bestMove 31 = .ok (.iload_n 3, 1) := by decide +kernel
theorem dX9_bestMove_32 : decode cX9_bestMove 32 = .ok (.iload 4, 2) := by decide +kernel
theorem dX9_bestMove_34 : decode cX9_bestMove 34 = .ok (.invokevirtual 255, 3) := by decide +kernel
theorem dX9_bestMove_37 : decode cX9_bestMove 37 = .ok (.ifCond .eq 68, 3) := by decide +kernel
theorem dX9_bestMove_40 : decode cX9_bestMove 40 = .ok (.iload_n 1, 1) := by decide +kernel
theorem dX9_bestMove_41 : decode cX9_bestMove 41 = .ok (.bipush (-9), 2) := by decide +kernel
theorem dX9_bestMove_43 : decode cX9_bestMove 43 = .ok (.if_icmp .eq 11, 3) := by decide +kernel
theorem dX9_bestMove_46 : decode cX9_bestMove 46 = .ok (.aload_n 0, 1) := by decide +kernel
theorem dX9_bestMove_47 : decode cX9_bestMove 47 = .ok (.invokevirtual 184, 3) := by decide +kernel
theorem dX9_bestMove_50 : decode cX9_bestMove 50 = .ok (.iload_n 2, 1) := by decide +kernel
theorem dX9_bestMove_51 : decode cX9_bestMove 51 = .ok (.if_icmp .le 7, 3) := by decide +kernel
theorem dX9_bestMove_54 : decode cX9_bestMove 54 = .ok (.iconst 1, 1) := by decide +kernel
theorem dX9_bestMove_55 : decode cX9_bestMove 55 = .ok (.goto 4, 3) := by decide +kernel
theorem dX9_bestMove_58 : decode cX9_bestMove 58 = .ok (.iconst 0, 1) := by decide +kernel
theorem dX9_bestMove_59 : decode cX9_bestMove 59 = .ok (.istore 5, 2) := by decide +kernel
theorem dX9_bestMove_61 : decode cX9_bestMove 61 = .ok (.iload 5, 2) := by decide +kernel
theorem dX9_bestMove_63 : decode cX9_bestMove 63 = .ok (.ifCond .eq 13, 3) := by decide +kernel
theorem dX9_bestMove_66 : decode cX9_bestMove 66 = .ok (.bipush 10, 2) := by decide +kernel
theorem dX9_bestMove_68 : decode cX9_bestMove 68 = .ok (.iload_n 3, 1) := by decide +kernel
theorem dX9_bestMove_69 : decode cX9_bestMove 69 = .ok (.imul, 1) := by decide +kernel
theorem dX9_bestMove_70 : decode cX9_bestMove 70 = .ok (.iload 4, 2) := by decide +kernel
theorem dX9_bestMove_72 : decode cX9_bestMove 72 = .ok (.iadd, 1) := by decide +kernel
theorem dX9_bestMove_73 : decode cX9_bestMove 73 = .ok (.goto 4, 3) := by decide +kernel
theorem dX9_bestMove_76 : decode cX9_bestMove 76 = .ok (.iload_n 1, 1) := by decide +kernel
theorem dX9_bestMove_77 : decode cX9_bestMove 77 = .ok (.istore_n 1, 1) := by decide +kernel
theorem dX9_bestMove_78 : decode cX9_bestMove 78 = .ok (.iload 5, 2) := by decide +kernel
theorem dX9_bestMove_80 : decode cX9_bestMove 80 = .ok (.ifCond .eq 10, 3) := by decide +kernel
theorem dX9_bestMove_83 : decode cX9_bestMove 83 = .ok (.aload_n 0, 1) := by decide +kernel
theorem dX9_bestMove_84 : decode cX9_bestMove 84 = .ok (.invokevirtual 184, 3) := by decide +kernel
theorem dX9_bestMove_87 : decode cX9_bestMove 87 = .ok (.goto 4, 3) := by decide +kernel
theorem dX9_bestMove_90 : decode cX9_bestMove 90 = .ok (.iload_n 2, 1) := by decide +kernel
theorem dX9_bestMove_91 : decode cX9_bestMove 91 = .ok (.istore_n 2, 1) := by decide +kernel
theorem dX9_bestMove_92 : decode cX9_bestMove 92 = .ok (.aload_n 0, 1) := by decide +kernel
theorem dX9_bestMove_93 : decode cX9_bestMove 93 = .ok (.getfield 13, 3) := by decide +kernel
theorem dX9_bestMove_96 : decode cX9_bestMove 96 = .ok (.iconst 0, 1) := by decide +kernel
theorem dX9_bestMove_97 : decode cX9_bestMove 97 = .ok (.aload_n 0, 1) := by decide +kernel
theorem dX9_bestMove_98 : decode cX9_bestMove 98 = .ok (.getfield 7, 3) := by decide +kernel
theorem dX9_bestMove_101 : decode cX9_bestMove 101 = .ok (.iconst 0, 1) := by decide +kernel
theorem dX9_bestMove_102 : decode cX9_bestMove 102 = .ok (.invokestatic 130, 3) := by decide +kernel
theorem dX9_bestMove_105 : decode cX9_bestMove 105 = .ok (.iinc 4 1, 3) := by decide +kernel
theorem dX9_bestMove_108 : decode cX9_bestMove 108 = .ok (.goto (-84), 3) := by decide +kernel
theorem dX9_bestMove_111 : decode cX9_bestMove 111 = .ok (.iinc 3 1, 3) := by decide +kernel
theorem dX9_bestMove_114 : decode cX9_bestMove 114 = .ok (.goto (-102), 3) := by decide +kernel
theorem dX9_bestMove_117 : decode cX9_bestMove 117 = .ok (.iload_n 1, 1) := by decide +kernel
theorem dX9_bestMove_118 : decode cX9_bestMove 118 = .ok (.ireturn, 1) := by decide +kernel
theorem dX9_inRow_0 : decode cX9_inRow 0 = .ok (.aload_n 0, 1) := by decide +kernel
theorem dX9_inRow_1 : decode cX9_inRow 1 = .ok (.iload_n 1, 1) := by decide +kernel
theorem dX9_inRow_2 : decode cX9_inRow 2 = .ok (.iconst 0, 1) := by decide +kernel
theorem dX9_inRow_3 : decode cX9_inRow 3 = .ok (.bipush 15, 2) := by decide +kernel
theorem dX9_inRow_5 : decode cX9_inRow 5 = .ok (.invokestatic 60, 3) := by decide +kernel
theorem dX9_inRow_8 : decode cX9_inRow 8 = .ok (.ifCond .eq 7, 3) := by decide +kernel
theorem dX9_inRow_11 : decode cX9_inRow 11 = .ok (.iconst 0, 1) := by decide +kernel
theorem dX9_inRow_12 : decode cX9_inRow 12 = .ok (.goto 4, 3) := by decide +kernel
theorem dX9_inRow_15 : decode cX9_inRow 15 = .ok (.iconst 1, 1) := by decide +kernel
theorem dX9_inRow_16 : decode cX9_inRow 16 = .ok (.putfield 56, 3) := by decide +kernel
theorem dX9_inRow_19 : decode cX9_inRow 19 = .ok (.aload_n 0, 1) := by decide +kernel
theorem dX9_inRow_20 : decode cX9_inRow 20 = .ok (.getfield 56, 3) := by decide +kernel
theorem dX9_inRow_23 : decode cX9_inRow 23 = .ok (.ifCond .le 7, 3) := by decide +kernel
theorem dX9_inRow_26 : decode cX9_inRow 26 = .ok (.iconst 0, 1) := by decide +kernel
theorem dX9_inRow_27 : decode cX9_inRow 27 = .ok (.goto 9, 3) := by decide +kernel
theorem dX9_inRow_30 : decode cX9_inRow 30 = .ok (.aload_n 0, 1) := by decide +kernel
theorem dX9_inRow_31 : decode cX9_inRow 31 = .ok (.iload_n 1, 1) := by decide +kernel
theorem dX9_inRow_32 : decode cX9_inRow 32 = .ok (.iload_n 2, 1) := by decide +kernel
theorem dX9_inRow_33 : decode cX9_inRow 33 = .ok (.invokevirtual 174, 3) := by decide +kernel
theorem dX9_inRow_36 : decode cX9_inRow 36 = .ok (.ireturn, 1) := by decide +kernel
theorem dX9_cuttings_0 : decode cX9_cuttings 0 = .ok (.aload_n 0, 1) := by decide +kernel
theorem dX9_cuttings_1 : decode cX9_cuttings 1 = .ok (.iconst 0, 1) := by decide +kernel
theorem dX9_cuttings_2 : decode cX9_cuttings 2 = .ok (.putfield 56, 3) := by decide +kernel
theorem dX9_cuttings_5 : decode cX9_cuttings 5 = .ok (.aload_n 0, 1) := by decide +kernel
theorem dX9_cuttings_6 : decode cX9_cuttings 6 = .ok (.getfield 7, 3) := by decide +kernel
theorem dX9_cuttings_9 : decode cX9_cuttings 9 = .ok (.iconst 0, 1) := by decide +kernel
theorem dX9_cuttings_10 : decode cX9_cuttings 10 = .ok (.iaload, 1) := by decide +kernel
theorem dX9_cuttings_11 : decode cX9_cuttings 11 = .ok (.iconst 1, 1) := by decide +kernel
theorem dX9_cuttings_12 : decode cX9_cuttings 12 = .ok (.if_icmp .gt 11, 3) := by decide +kernel
theorem dX9_cuttings_15 : decode cX9_cuttings 15 = .ok (.aload_n 0, 1) := by decide +kernel
theorem dX9_cuttings_16 : decode cX9_cuttings 16 = .ok (.iconst 0, 1) := by decide +kernel
theorem dX9_cuttings_17 : decode cX9_cuttings 17 = .ok (.invokevirtual 193, 3) := by decide +kernel
theorem dX9_cuttings_20 : decode cX9_cuttings 20 = .ok (.ifCond .le 6, 3) := by decide +kernel
theorem dX9_cuttings_23 : decode cX9_cuttings 23 = .ok (.bipush (-9), 2) := by decide +kernel
theorem dX9_cuttings_25 : decode cX9_cuttings 25 = .ok (.ireturn, 1) := by decide +kernel
theorem dX9_cuttings_26 : decode cX9_cuttings 26 = .ok (.aload_n 0, 1) := by decide +kernel
theorem dX9_cuttings_27 : decode cX9_cuttings 27 = .ok (.iconst 0, 1) := by decide +kernel
theorem dX9_cuttings_28 : decode cX9_cuttings 28 = .ok (.invokevirtual 68, 3) := by decide +kernel
theorem dX9_cuttings_31 : decode cX9_cuttings 31 = .ok (.istore_n 1, 1) := by decide +kernel
theorem dX9_cuttings_32 : decode cX9_cuttings 32 = .ok (.iconst 1, 1) := by decide +kernel
theorem dX9_cuttings_33 : decode cX9_cuttings 33 = .ok (.istore_n 2, 1) := by decide +kernel
theorem dX9_cuttings_34 : decode cX9_cuttings 34 = .ok (.iload_n 2, 1) := by decide +kernel
theorem dX9_cuttings_35 : decode cX9_cuttings 35 = .ok (.iload_n 1, 1) := by decide +kernel
theorem dX9_cuttings_36 : decode cX9_cuttings 36 = .ok (.if_icmp .ge 140, 3) := by decide +kernel
theorem dX9_cuttings_39 : decode cX9_cuttings 39 = .ok (.iconst 0, 1) := by decide +kernel
theorem dX9_cuttings_40 : decode cX9_cuttings 40 = .ok (.istore_n 3, 1) := by decide +kernel
theorem dX9_cuttings_41 : decode cX9_cuttings 41 = .ok (.iload_n 3, 1) := by decide +kernel
theorem dX9_cuttings_42 : decode cX9_cuttings 42 = .ok (.iload_n 2, 1) := by decide +kernel
theorem dX9_cuttings_43 : decode cX9_cuttings 43 = .ok (.iadd, 1) := by decide +kernel
theorem dX9_cuttings_44 : decode cX9_cuttings 44 = .ok (.iload_n 1, 1) := by decide +kernel
theorem dX9_cuttings_45 : decode cX9_cuttings 45 = .ok (.if_icmp .ge 125, 3) := by decide +kernel
theorem dX9_cuttings_48 : decode cX9_cuttings 48 = .ok (.iload_n 3, 1) := by decide +kernel
theorem dX9_cuttings_49 : decode cX9_cuttings 49 = .ok (.iload_n 2, 1) := by decide +kernel
theorem dX9_cuttings_50 : decode cX9_cuttings 50 = .ok (.iadd, 1) := by decide +kernel
theorem dX9_cuttings_51 : decode cX9_cuttings 51 = .ok (.istore 4, 2) := by decide +kernel
theorem dX9_cuttings_53 : decode cX9_cuttings 53 = .ok (.iload_n 2, 1) := by decide +kernel
theorem dX9_cuttings_54 : decode cX9_cuttings 54 = .ok (.iconst 1, 1) := by decide +kernel
theorem dX9_cuttings_55 : decode cX9_cuttings 55 = .ok (.if_icmp .eq 22, 3) := by decide +kernel
theorem dX9_cuttings_58 : decode cX9_cuttings 58 = .ok (.iload_n 2, 1) := by decide +kernel
theorem dX9_cuttings_59 : decode cX9_cuttings 59 = .ok (.iload_n 1, 1) := by decide +kernel
theorem dX9_cuttings_60 : decode cX9_cuttings 60 = .ok (.iconst 1, 1) := by decide +kernel
theorem dX9_cuttings_61 : decode cX9_cuttings 61 = .ok (.isub, 1) := by decide +kernel
theorem dX9_cuttings_62 : decode cX9_cuttings 62 = .ok (.if_icmp .eq 15, 3) := by decide +kernel
theorem dX9_cuttings_65 : decode cX9_cuttings 65 = .ok (.aload_n 0, 1) := by decide +kernel
theorem dX9_cuttings_66 : decode cX9_cuttings 66 = .ok (.iconst 0, 1) := by decide +kernel
theorem dX9_cuttings_67 : decode cX9_cuttings 67 = .ok (.iload_n 3, 1) := by decide +kernel
theorem dX9_cuttings_68 : decode cX9_cuttings 68 = .ok (.iconst 0, 1) := by decide +kernel
theorem dX9_cuttings_69 : decode cX9_cuttings 69 = .ok (.iload 4, 2) := by decide +kernel
theorem dX9_cuttings_71 : decode cX9_cuttings 71 = .ok (.invokevirtual 164, 3) := by decide +kernel
theorem dX9_cuttings_74 : decode cX9_cuttings 74 = .ok (.ifCond .eq 7, 3) := by decide +kernel
theorem dX9_cuttings_77 : decode cX9_cuttings 77 = .ok (.iconst 1, 1) := by decide +kernel
theorem dX9_cuttings_78 : decode cX9_cuttings 78 = .ok (.goto 4, 3) := by decide +kernel
theorem dX9_cuttings_81 : decode cX9_cuttings 81 = .ok (.iconst 0, 1) := by decide +kernel
theorem dX9_cuttings_82 : decode cX9_cuttings 82 = .ok (.istore 5, 2) := by decide +kernel
theorem dX9_cuttings_84 : decode cX9_cuttings 84 = .ok (.iload_n 2, 1) := by decide +kernel
theorem dX9_cuttings_85 : decode cX9_cuttings 85 = .ok (.iconst 1, 1) := by decide +kernel
theorem dX9_cuttings_86 : decode cX9_cuttings 86 = .ok (.if_icmp .ne 7, 3) := by decide +kernel
theorem dX9_cuttings_89 : decode cX9_cuttings 89 = .ok (.iconst 1, 1) := by decide +kernel
theorem dX9_cuttings_90 : decode cX9_cuttings 90 = .ok (.goto 4, 3) := by decide +kernel
theorem dX9_cuttings_93 : decode cX9_cuttings 93 = .ok (.iconst 0, 1) := by decide +kernel
theorem dX9_cuttings_94 : decode cX9_cuttings 94 = .ok (.istore 6, 2) := by decide +kernel
theorem dX9_cuttings_96 : decode cX9_cuttings 96 = .ok (.iload_n 3, 1) := by decide +kernel
theorem dX9_cuttings_97 : decode cX9_cuttings 97 = .ok (.iconst 1, 1) := by decide +kernel
theorem dX9_cuttings_98 : decode cX9_cuttings 98 = .ok (.iadd, 1) := by decide +kernel
theorem dX9_cuttings_99 : decode cX9_cuttings 99 = .ok (.istore 7, 2) := by decide +kernel
theorem dX9_cuttings_101 : decode cX9_cuttings 101 = .ok (.iload 7, 2) := by decide +kernel
theorem dX9_cuttings_103 : decode cX9_cuttings 103 = .ok (.iload 4, 2) := by decide +kernel
theorem dX9_cuttings_105 : decode cX9_cuttings 105 = .ok (.if_icmp .ge 45, 3) := by decide +kernel
theorem dX9_cuttings_108 : decode cX9_cuttings 108 = .ok (.iload 5, 2) := by decide +kernel
theorem dX9_cuttings_110 : decode cX9_cuttings 110 = .ok (.ifCond .eq 40, 3) := by decide +kernel
theorem dX9_cuttings_113 : decode cX9_cuttings 113 = .ok (.iload 6, 2) := by decide +kernel
theorem dX9_cuttings_115 : decode cX9_cuttings 115 = .ok (.aload_n 0, 1) := by decide +kernel
theorem dX9_cuttings_116 : decode cX9_cuttings 116 = .ok (.getfield 49, 3) := by decide +kernel
theorem dX9_cuttings_119 : decode cX9_cuttings 119 = .ok (.bipush 10, 2) := by decide +kernel
theorem dX9_cuttings_121 : decode cX9_cuttings 121 = .ok (.iload_n 3, 1) := by decide +kernel
theorem dX9_cuttings_122 : decode cX9_cuttings 122 = .ok (.imul, 1) := by decide +kernel
theorem dX9_cuttings_123 : decode cX9_cuttings 123 = .ok (.iload 7, 2) := by decide +kernel
theorem dX9_cuttings_125 : decode cX9_cuttings 125 = .ok (.iadd, 1) := by decide +kernel
theorem dX9_cuttings_126 : decode cX9_cuttings 126 = .ok (.iaload, 1) := by decide +kernel
theorem dX9_cuttings_127 : decode cX9_cuttings 127 = .ok (.aload_n 0, 1) := by decide +kernel
theorem dX9_cuttings_128 : decode cX9_cuttings 128 = .ok (.getfield 49, 3) := by decide +kernel
theorem dX9_cuttings_131 : decode cX9_cuttings 131 = .ok (.bipush 10, 2) := by decide +kernel
theorem dX9_cuttings_133 : decode cX9_cuttings 133 = .ok (.iload 7, 2) := by decide +kernel
theorem dX9_cuttings_135 : decode cX9_cuttings 135 = .ok (.imul, 1) := by decide +kernel
theorem dX9_cuttings_136 : decode cX9_cuttings 136 = .ok (.iload 4, 2) := by decide +kernel
theorem dX9_cuttings_138 : decode cX9_cuttings 138 = .ok (.iadd, 1) := by decide +kernel
theorem dX9_cuttings_139 : decode cX9_cuttings 139 = .ok (.iaload, 1) := by decide +kernel
theorem dX9_cuttings_140 : decode cX9_cuttings 140 = .ok (.imul, 1) := by decide +kernel
theorem dX9_cuttings_141 : decode cX9_cuttings 141 = .ok (.iadd, 1) := by decide +kernel
theorem dX9_cuttings_142 : decode cX9_cuttings 142 = .ok (.istore 6, 2) := by decide +kernel
theorem dX9_cuttings_144 : decode cX9_cuttings 144 = .ok (.iinc 7 1, 3) := by decide +kernel
theorem dX9_cuttings_147 : decode cX9_cuttings 147 = .ok (.goto (-46), 3) := by decide +kernel
theorem dX9_cuttings_150 : decode cX9_cuttings 150 = .ok (.aload_n 0, 1) := by decide +kernel
theorem dX9_cuttings_151 : decode cX9_cuttings 151 = .ok (.getfield 49, 3) := by decide +kernel
theorem dX9_cuttings_154 : decode cX9_cuttings 154 = .ok (.bipush 10, 2) := by decide +kernel
theorem dX9_cuttings_156 : decode cX9_cuttings 156 = .ok (.iload_n 3, 1) := by decide +kernel
theorem dX9_cuttings_157 : decode cX9_cuttings 157 = .ok (.imul, 1) := by decide +kernel
theorem dX9_cuttings_158 : decode cX9_cuttings 158 = .ok (.iload 4, 2) := by decide +kernel
theorem dX9_cuttings_160 : decode cX9_cuttings 160 = .ok (.iadd, 1) := by decide +kernel
theorem dX9_cuttings_161 : decode cX9_cuttings 161 = .ok (.iload 6, 2) := by decide +kernel
theorem dX9_cuttings_163 : decode cX9_cuttings 163 = .ok (.iastore, 1) := by decide +kernel
theorem dX9_cuttings_164 : decode cX9_cuttings 164 = .ok (.iinc 3 1, 3) := by decide +kernel
theorem dX9_cuttings_167 : decode cX9_cuttings 167 = .ok (.goto (-126), 3) := by decide +kernel
theorem dX9_cuttings_170 : decode cX9_cuttings 170 = .ok (.iinc 2 1, 3) := by decide +kernel
theorem dX9_cuttings_173 : decode cX9_cuttings 173 = .ok (.goto (-139), 3) := by decide +kernel
theorem dX9_cuttings_176 : decode cX9_cuttings 176 = .ok (.aload_n 0, 1) := by decide +kernel
theorem dX9_cuttings_177 : decode cX9_cuttings 177 = .ok (.getfield 49, 3) := by decide +kernel
theorem dX9_cuttings_180 : decode cX9_cuttings 180 = .ok (.iload_n 1, 1) := by decide +kernel
theorem dX9_cuttings_181 : decode cX9_cuttings 181 = .ok (.iconst 1, 1) := by decide +kernel
theorem dX9_cuttings_182 : decode cX9_cuttings 182 = .ok (.isub, 1) := by decide +kernel
theorem dX9_cuttings_183 : decode cX9_cuttings 183 = .ok (.iaload, 1) := by decide +kernel
theorem dX9_cuttings_184 : decode cX9_cuttings 184 = .ok (.ireturn, 1) := by decide +kernel
theorem dX9_isTurned_0 : decode cX9_isTurned 0 = .ok (.iload_n 1, 1) := by decide +kernel
theorem dX9_isTurned_1 : decode cX9_isTurned 1 = .ok (.iconst 2, 1) := by decide +kernel
theorem dX9_isTurned_2 : decode cX9_isTurned 2 = .ok (.if_icmp .ge 17, 3) := by decide +kernel
theorem dX9_isTurned_5 : decode cX9_isTurned 5 = .ok (.aload_n 0, 1) := by decide +kernel
theorem dX9_isTurned_6 : decode cX9_isTurned 6 = .ok (.iload_n 1, 1) := by decide +kernel
theorem dX9_isTurned_7 : decode cX9_isTurned 7 = .ok (.iconst 1, 1) := by decide +kernel
theorem dX9_isTurned_8 : decode cX9_isTurned 8 = .ok (.if_icmp .ne 7, 3) := by decide +kernel
theorem dX9_isTurned_11 : decode cX9_isTurned 11 = .ok (.iconst 1, 1) := by decide +kernel
theorem dX9_isTurned_12 : decode cX9_isTurned 12 = .ok (.goto 4, 3) := by decide +kernel
theorem dX9_isTurned_15 : decode cX9_isTurned 15 = .ok (.iconst 0, 1) := by decide +kernel
theorem dX9_isTurned_16 : decode cX9_isTurned 16 = .ok (.invokevirtual 245, 3) := by decide +kernel
theorem dX9_isTurned_19 : decode cX9_isTurned 19 = .ok (.iload_n 1, 1) := by decide +kernel
theorem dX9_isTurned_20 : decode cX9_isTurned 20 = .ok (.iconst 2, 1) := by decide +kernel
theorem dX9_isTurned_21 : decode cX9_isTurned 21 = .ok (.if_icmp .ge 7, 3) := by decide +kernel
theorem dX9_isTurned_24 : decode cX9_isTurned 24 = .ok (.iconst 1, 1) := by decide +kernel
theorem dX9_isTurned_25 : decode cX9_isTurned 25 = .ok (.goto 4, 3) := by decide +kernel
theorem dX9_isTurned_28 : decode cX9_isTurned 28 = .ok (.iconst 0, 1) := by decide +kernel
theorem dX9_isTurned_29 : decode cX9_isTurned 29 = .ok (.ireturn, 1) := by decide +kernel
theorem dX9_commands_0 : decode cX9_commands 0 = .ok (.iload_n 1, 1) := by decide +kernel
theorem dX9_commands_1 : decode cX9_commands 1 = .ok (.sipush 10000, 3) := by decide +kernel
theorem dX9_commands_4 : decode cX9_commands 4 = .ok (.idiv, 1) := by decide +kernel
theorem dX9_commands_5 : decode cX9_commands 5 = .ok (.bipush 10, 2) := by decide +kernel
theorem dX9_commands_7 : decode cX9_commands 7 = .ok (.irem, 1) := by decide +kernel
theorem dX9_commands_8 : decode cX9_commands 8 = .ok (.istore_n 2, 1) := by decide +kernel
theorem dX9_commands_9 : decode cX9_commands 9 = .ok (.iload_n 1, 1) := by decide +kernel
theorem dX9_commands_10 : decode cX9_commands 10 = .ok (.sipush 1000, 3) := by decide +kernel
theorem dX9_commands_13 : decode cX9_commands 13 = .ok (.idiv, 1) := by decide +kernel
theorem dX9_commands_14 : decode cX9_commands 14 = .ok (.bipush 10, 2) := by decide +kernel
theorem dX9_commands_16 : decode cX9_commands 16 = .ok (.irem, 1) := by decide +kernel
theorem dX9_commands_17 : decode cX9_commands 17 = .ok (.istore_n 3, 1) := by decide +kernel
theorem dX9_commands_18 : decode cX9_commands 18 = .ok (.iload_n 1, 1) := by decide +kernel
theorem dX9_commands_19 : decode cX9_commands 19 = .ok (.bipush 100, 2) := by decide +kernel
theorem dX9_commands_21 : decode cX9_commands 21 = .ok (.idiv, 1) := by decide +kernel
theorem dX9_commands_22 : decode cX9_commands 22 = .ok (.bipush 100, 2) := by decide +kernel
theorem dX9_commands_24 : decode cX9_commands 24 = .ok (.irem, 1) := by decide +kernel
theorem dX9_commands_25 : decode cX9_commands 25 = .ok (.istore 4, 2) := by decide +kernel
theorem dX9_commands_27 : decode cX9_commands 27 = .ok (.iload_n 1, 1) := by decide +kernel
theorem dX9_commands_28 : decode cX9_commands 28 = .ok (.bipush 100, 2) := by decide +kernel
theorem dX9_commands_30 : decode cX9_commands 30 = .ok (.irem, 1) := by decide +kernel
theorem dX9_commands_31 : decode cX9_commands 31 = .ok (.istore 5, 2) := by decide +kernel
theorem dX9_commands_33 : decode cX9_commands 33 = .ok (.iload_n 1, 1) := by decide +kernel
theorem dX9_commands_34 : decode cX9_commands 34 = .ok (.ldc_w 258, 3) := by decide +kernel
theorem dX9_commands_37 : decode cX9_commands 37 = .ok (.idiv, 1) := by decide +kernel
theorem dX9_commands_38 : decode cX9_commands 38 = .ok (.tableswitch 300 1 9 #[50, 69, 88, 111, 146, 173, 195, 221, 274], 50) := by decide +kernel
theorem dX9_commands_88 : decode cX9_commands 88 = .ok (.aload_n 0, 1) := by decide +kernel
theorem dX9_commands_89 : decode cX9_commands 89 = .ok (.iconst 0, 1) := by decide +kernel
theorem dX9_commands_90 : decode cX9_commands 90 = .ok (.iload_n 2, 1) := by decide +kernel
theorem dX9_commands_91 : decode cX9_commands 91 = .ok (.iload 4, 2) := by decide +kernel
theorem dX9_commands_93 : decode cX9_commands 93 = .ok (.iload 5, 2) := by decide +kernel
theorem dX9_commands_95 : decode cX9_commands 95 = .ok (.invokevirtual 223, 3) := by decide +kernel
theorem dX9_commands_98 : decode cX9_commands 98 = .ok (.ifCond .ne 7, 3) := by decide +kernel
theorem dX9_commands_101 : decode cX9_commands 101 = .ok (.iconst 1, 1) := by decide +kernel
theorem dX9_commands_102 : decode cX9_commands 102 = .ok (.goto 4, 3) := by decide +kernel
theorem dX9_commands_105 : decode cX9_commands 105 = .ok (.iconst 0, 1) := by decide +kernel
theorem dX9_commands_106 : decode cX9_commands 106 = .ok (.ireturn, 1) := by decide +kernel
theorem dX9_commands_107 : decode cX9_commands 107 = .ok (.aload_n 0, 1) := by decide +kernel
theorem dX9_commands_108 : decode cX9_commands 108 = .ok (.iconst 0, 1) := by decide +kernel
theorem dX9_commands_109 : decode cX9_commands 109 = .ok (.iload_n 2, 1) := by decide +kernel
theorem dX9_commands_110 : decode cX9_commands 110 = .ok (.iload 4, 2) := by decide +kernel
theorem dX9_commands_112 : decode cX9_commands 112 = .ok (.iload 5, 2) := by decide +kernel
theorem dX9_commands_114 : decode cX9_commands 114 = .ok (.invokevirtual 230, 3) := by decide +kernel
theorem dX9_commands_117 : decode cX9_commands 117 = .ok (.ifCond .ne 7, 3) := by decide +kernel
theorem dX9_commands_120 : decode cX9_commands 120 = .ok (.iconst 1, 1) := by decide +kernel
theorem dX9_commands_121 : decode cX9_commands 121 = .ok (.goto 4, 3) := by decide +kernel
theorem dX9_commands_124 : decode cX9_commands 124 = .ok (.iconst 0, 1) := by decide +kernel
theorem dX9_commands_125 : decode cX9_commands 125 = .ok (.ireturn, 1) := by decide +kernel
theorem dX9_commands_126 : decode cX9_commands 126 = .ok (.iload_n 1, 1) := by decide +kernel
theorem dX9_commands_127 : decode cX9_commands 127 = .ok (.sipush 1000, 3) := by decide +kernel
theorem dX9_commands_130 : decode cX9_commands 130 = .ok (.irem, 1) := by decide +kernel
theorem dX9_commands_131 : decode cX9_commands 131 = .ok (.ifCond .ne 16, 3) := by decide +kernel
theorem dX9_commands_134 : decode cX9_commands 134 = .ok (.aload_n 0, 1) := by decide +kernel
theorem dX9_commands_135 : decode cX9_commands 135 = .ok (.iload_n 2, 1) := by decide +kernel
theorem dX9_commands_136 : decode cX9_commands 136 = .ok (.iload_n 3, 1) := by decide +kernel
theorem dX9_commands_137 : decode cX9_commands 137 = .ok (.invokevirtual 233, 3) := by decide +kernel
theorem dX9_commands_140 : decode cX9_commands 140 = .ok (.ifCond .ne 7, 3) := by decide +kernel
theorem dX9_commands_143 : decode cX9_commands 143 = .ok (.iconst 1, 1) := by decide +kernel
theorem dX9_commands_144 : decode cX9_commands 144 = .ok (.goto 4, 3) := by decide +kernel
theorem dX9_commands_147 : decode cX9_commands 147 = .ok (.iconst 0, 1) := by decide +kernel
theorem dX9_commands_148 : decode cX9_commands 148 = .ok (.ireturn, 1) := by decide +kernel
theorem dX9_commands_149 : decode cX9_commands 149 = .ok (.iload_n 1, 1) := by decide +kernel
theorem dX9_commands_150 : decode cX9_commands 150 = .ok (.bipush 10, 2) := by decide +kernel
theorem dX9_commands_152 : decode cX9_commands 152 = .ok (.irem, 1) := by decide +kernel
theorem dX9_commands_153 : decode cX9_commands 153 = .ok (.ifCond .ne 29, 3) := by decide +kernel
theorem dX9_commands_156 : decode cX9_commands 156 = .ok (.aload_n 0, 1) := by decide +kernel
theorem dX9_commands_157 : decode cX9_commands 157 = .ok (.iload_n 1, 1) := by decide +kernel
theorem dX9_commands_158 : decode cX9_commands 158 = .ok (.sipush 1000, 3) := by decide +kernel
theorem dX9_commands_161 : decode cX9_commands 161 = .ok (.idiv, 1) := by decide +kernel
theorem dX9_commands_162 : decode cX9_commands 162 = .ok (.bipush 100, 2) := by decide +kernel
theorem dX9_commands_164 : decode cX9_commands 164 = .ok (.irem, 1) := by decide +kernel
theorem dX9_commands_165 : decode cX9_commands 165 = .ok (.iload_n 1, 1) := by decide +kernel
theorem dX9_commands_166 : decode cX9_commands 166 = .ok (.bipush 10, 2) := by decide +kernel
theorem dX9_commands_168 : decode cX9_commands 168 = .ok (.idiv, 1) := by decide +kernel
theorem dX9_commands_169 : decode cX9_commands 169 = .ok (.bipush 100, 2) := by decide +kernel
theorem dX9_commands_171 : decode cX9_commands 171 = .ok (.irem, 1) := by decide +kernel
theorem dX9_commands_172 : decode cX9_commands 172 = .ok (.invokevirtual 236, 3) := by decide +kernel
theorem dX9_commands_175 : decode cX9_commands 175 = .ok (.ifCond .ne 7, 3) := by decide +kernel
theorem dX9_commands_178 : decode cX9_commands 178 = .ok (.iconst 1, 1) := by decide +kernel
theorem dX9_commands_179 : decode cX9_commands 179 = .ok (.goto 4, 3) := by decide +kernel
theorem dX9_commands_182 : decode cX9_commands 182 = .ok (.iconst 0, 1) := by decide +kernel
theorem dX9_commands_183 : decode cX9_commands 183 = .ok (.ireturn, 1) := by decide +kernel
theorem dX9_commands_184 : decode cX9_commands 184 = .ok (.iload_n 2, 1) := by decide +kernel
theorem dX9_commands_185 : decode cX9_commands 185 = .ok (.ifCond .ne 24, 3) := by decide +kernel
theorem dX9_commands_188 : decode cX9_commands 188 = .ok (.aload_n 0, 1) := by decide +kernel
theorem dX9_commands_189 : decode cX9_commands 189 = .ok (.iload 4, 2) := by decide +kernel
theorem dX9_commands_191 : decode cX9_commands 191 = .ok (.bipush 15, 2) := by decide +kernel
theorem dX9_commands_193 : decode cX9_commands 193 = .ok (.isub, 1) := by decide +kernel
theorem dX9_commands_194 : decode cX9_commands 194 = .ok (.iload 5, 2) := by decide +kernel
theorem dX9_commands_196 : decode cX9_commands 196 = .ok (.bipush 15, 2) := by decide +kernel
theorem dX9_commands_198 : decode cX9_commands 198 = .ok (.isub, 1) := by decide +kernel
theorem dX9_commands_199 : decode cX9_commands 199 = .ok (.invokevirtual 239, 3) := by decide +kernel
theorem dX9_commands_202 : decode cX9_commands 202 = .ok (.ifCond .ne 7, 3) := by decide +kernel
theorem dX9_commands_205 : decode cX9_commands 205 = .ok (.iconst 1, 1) := by decide +kernel
theorem dX9_commands_206 : decode cX9_commands 206 = .ok (.goto 4, 3) := by decide +kernel
theorem dX9_commands_209 : decode cX9_commands 209 = .ok (.iconst 0, 1) := by decide +kernel
theorem dX9_commands_210 : decode cX9_commands 210 = .ok (.ireturn, 1) := by decide +kernel
theorem dX9_commands_211 : decode cX9_commands 211 = .ok (.iload_n 1, 1) := by decide +kernel
theorem dX9_commands_212 : decode cX9_commands 212 = .ok (.sipush 10000, 3) := by decide +kernel
theorem dX9_commands_215 : decode cX9_commands 215 = .ok (.irem, 1) := by decide +kernel
theorem dX9_commands_216 : decode cX9_commands 216 = .ok (.ifCond .ne 15, 3) := by decide +kernel
theorem dX9_commands_219 : decode cX9_commands 219 = .ok (.aload_n 0, 1) := by decide +kernel
theorem dX9_commands_220 : decode cX9_commands 220 = .ok (.iload_n 2, 1) := by decide +kernel
theorem dX9_commands_221 : decode cX9_commands 221 = .ok (.invokevirtual 259, 3) := by decide +kernel
theorem dX9_commands_224 : decode cX9_commands 224 = .ok (.ifCond .eq 7, 3) := by decide +kernel
theorem dX9_commands_227 : decode cX9_commands 227 = .ok (.iconst 1, 1) := by decide +kernel
theorem dX9_commands_228 : decode cX9_commands 228 = .ok (.goto 4, 3) := by decide +kernel
theorem dX9_commands_231 : decode cX9_commands 231 = .ok (.iconst 0, 1) := by decide +kernel
theorem dX9_commands_232 : decode cX9_commands 232 = .ok (.ireturn, 1) := by decide +kernel
theorem dX9_commands_233 : decode cX9_commands 233 = .ok (.iload_n 2, 1) := by decide +kernel
theorem dX9_commands_234 : decode cX9_commands 234 = .ok (.ifCond .ne 23, 3) := by decide +kernel
theorem dX9_commands_237 : decode cX9_commands 237 = .ok (.iload_n 3, 1) := by decide +kernel
theorem dX9_commands_238 : decode cX9_commands 238 = .ok (.ifCond .ne 19, 3) := by decide +kernel
theorem dX9_commands_241 : decode cX9_commands 241 = .ok (.aload_n 0, 1) := by decide +kernel
theorem dX9_commands_242 : decode cX9_commands 242 = .ok (.invokevirtual 184, 3) := by decide +kernel
theorem dX9_commands_245 : decode cX9_commands 245 = .ok (.iload_n 1, 1) := by decide +kernel
theorem dX9_commands_246 : decode cX9_commands 246 = .ok (.sipush 1000, 3) := by decide +kernel
theorem dX9_commands_249 : decode cX9_commands 249 = .ok (.irem, 1) := by decide +kernel
theorem dX9_commands_250 : decode cX9_commands 250 = .ok (.if_icmp .lt 7, 3) := by decide +kernel
theorem dX9_commands_253 : decode cX9_commands 253 = .ok (.iconst 1, 1) := by decide +kernel
theorem dX9_commands_254 : decode cX9_commands 254 = .ok (.goto 4, 3) := by decide +kernel
theorem dX9_commands_257 : decode cX9_commands 257 = .ok (.iconst 0, 1) := by decide +kernel
theorem dX9_commands_258 : decode cX9_commands 258 = .ok (.ireturn, 1) := by decide +kernel
theorem dX9_commands_259 : decode cX9_commands 259 = .ok (.iload_n 1, 1) := by decide +kernel
theorem dX9_commands_260 : decode cX9_commands 260 = .ok (.sipush 1000, 3) := by decide +kernel
theorem dX9_commands_263 : decode cX9_commands 263 = .ok (.idiv, 1) := by decide +kernel
theorem dX9_commands_264 : decode cX9_commands 264 = .ok (.bipush 100, 2) := by decide +kernel
theorem dX9_commands_266 : decode cX9_commands 266 = .ok (.irem, 1) := by decide +kernel
theorem dX9_commands_267 : decode cX9_commands 267 = .ok (.iload_n 1, 1) := by decide +kernel
theorem dX9_commands_268 : decode cX9_commands 268 = .ok (.bipush 10, 2) := by decide +kernel
theorem dX9_commands_270 : decode cX9_commands 270 = .ok (.idiv, 1) := by decide +kernel
theorem dX9_commands_271 : decode cX9_commands 271 = .ok (.bipush 100, 2) := by decide +kernel
theorem dX9_commands_273 : decode cX9_commands 273 = .ok (.irem, 1) := by decide +kernel
theorem dX9_commands_274 : decode cX9_commands 274 = .ok (.invokestatic 214, 3) := by decide +kernel
theorem dX9_commands_277 : decode cX9_commands 277 = .ok (.ifCond .eq 33, 3) := by decide +kernel
theorem dX9_commands_280 : decode cX9_commands 280 = .ok (.aload_n 0, 1) := by decide +kernel
theorem dX9_commands_281 : decode cX9_commands 281 = .ok (.iload_n 1, 1) := by decide +kernel
theorem dX9_commands_282 : decode cX9_commands 282 = .ok (.sipush 1000, 3) := by decide +kernel
theorem dX9_commands_285 : decode cX9_commands 285 = .ok (.idiv, 1) := by decide +kernel
theorem dX9_commands_286 : decode cX9_commands 286 = .ok (.bipush 100, 2) := by decide +kernel
theorem dX9_commands_288 : decode cX9_commands 288 = .ok (.irem, 1) := by decide +kernel
theorem dX9_commands_289 : decode cX9_commands 289 = .ok (.iload_n 1, 1) := by decide +kernel
theorem dX9_commands_290 : decode cX9_commands 290 = .ok (.bipush 10, 2) := by decide +kernel
theorem dX9_commands_292 : decode cX9_commands 292 = .ok (.idiv, 1) := by decide +kernel
theorem dX9_commands_293 : decode cX9_commands 293 = .ok (.bipush 100, 2) := by decide +kernel
theorem dX9_commands_295 : decode cX9_commands 295 = .ok (.irem, 1) := by decide +kernel
theorem dX9_commands_296 : decode cX9_commands 296 = .ok (.invokevirtual 171, 3) := by decide +kernel
theorem dX9_commands_299 : decode cX9_commands 299 = .ok (.iload_n 1, 1) := by decide +kernel
theorem dX9_commands_300 : decode cX9_commands 300 = .ok (.bipush 10, 2) := by decide +kernel
theorem dX9_commands_302 : decode cX9_commands 302 = .ok (.irem, 1) := by decide +kernel
theorem dX9_commands_303 : decode cX9_commands 303 = .ok (.if_icmp .ne 7, 3) := by decide +kernel
theorem dX9_commands_306 : decode cX9_commands 306 = .ok (.iconst 1, 1) := by decide +kernel
theorem dX9_commands_307 : decode cX9_commands 307 = .ok (.goto 4, 3) := by decide +kernel
theorem dX9_commands_310 : decode cX9_commands 310 = .ok (.iconst 0, 1) := by decide +kernel
theorem dX9_commands_311 : decode cX9_commands 311 = .ok (.ireturn, 1) := by decide +kernel
theorem dX9_commands_312 : decode cX9_commands 312 = .ok (.iload_n 2, 1) := by decide +kernel
theorem dX9_commands_313 : decode cX9_commands 313 = .ok (.ifCond .ne 23, 3) := by decide +kernel
theorem dX9_commands_316 : decode cX9_commands 316 = .ok (.iload_n 3, 1) := by decide +kernel
theorem dX9_commands_317 : decode cX9_commands 317 = .ok (.ifCond .ne 19, 3) := by decide +kernel
theorem dX9_commands_320 : decode cX9_commands 320 = .ok (.aload_n 0, 1) := by decide +kernel
theorem dX9_commands_321 : decode cX9_commands 321 = .ok (.invokevirtual 190, 3) := by decide +kernel
theorem dX9_commands_324 : decode cX9_commands 324 = .ok (.iload_n 1, 1) := by decide +kernel
theorem dX9_commands_325 : decode cX9_commands 325 = .ok (.sipush 1000, 3) := by decide +kernel
theorem dX9_commands_328 : decode cX9_commands 328 = .ok (.irem, 1) := by decide +kernel
theorem dX9_commands_329 : decode cX9_commands 329 = .ok (.if_icmp .gt 7, 3) := by decide +kernel
theorem dX9_commands_332 : decode cX9_commands 332 = .ok (.iconst 1, 1) := by decide +kernel
theorem dX9_commands_333 : decode cX9_commands 333 = .ok (.goto 4, 3) := by decide +kernel
theorem dX9_commands_336 : decode cX9_commands 336 = .ok (.iconst 0, 1) := by decide +kernel
theorem dX9_commands_337 : decode cX9_commands 337 = .ok (.ireturn, 1) := by decide +kernel
theorem dX9_commands_338 : decode cX9_commands 338 = .ok (.iconst 0, 1) := by decide +kernel
theorem dX9_commands_339 : decode cX9_commands 339 = .ok (.ireturn, 1) := by decide +kernel
theorem dX9_runScript_0 : decode cX9_runScript 0 = .ok (.iload_n 1, 1) := by decide +kernel
theorem dX9_runScript_1 : decode cX9_runScript 1 = .ok (.iconst 1, 1) := by decide +kernel
theorem dX9_runScript_2 : decode cX9_runScript 2 = .ok (.if_icmp .ne 9, 3) := by decide +kernel
theorem dX9_runScript_5 : decode cX9_runScript 5 = .ok (.ldc2_w 262, 3) := by decide +kernel
theorem dX9_runScript_8 : decode cX9_runScript 8 = .ok (.goto 17, 3) := by decide +kernel
theorem dX9_runScript_11 : decode cX9_runScript 11 = .ok (.iload_n 1, 1) := by decide +kernel
theorem dX9_runScript_12 : decode cX9_runScript 12 = .ok (.iconst 2, 1) := by decide +kernel
theorem dX9_runScript_13 : decode cX9_runScript 13 = .ok (.if_icmp .ne 9, 3) := by decide +kernel
theorem dX9_runScript_16 : decode cX9_runScript 16 = .ok (.ldc2_w 264, 3) := by decide +kernel
theorem dX9_runScript_19 : decode cX9_runScript 19 = .ok (.goto 6, 3) := by decide +kernel
theorem dX9_runScript_22 : decode cX9_runScript 22 = .ok (.ldc2_w 266, 3) := by decide +kernel
theorem dX9_runScript_25 : decode cX9_runScript 25 = .ok (.lstore 4, 2) := by decide +kernel
theorem dX9_runScript_27 : decode cX9_runScript 27 = .ok (.aload_n 0, 1) := by decide +kernel
theorem dX9_runScript_28 : decode cX9_runScript 28 = .ok (.iload_n 1, 1) := by decide +kernel
theorem dX9_runScript_29 : decode cX9_runScript 29 = .ok (.iconst 1, 1) := by decide +kernel
theorem dX9_runScript_30 : decode cX9_runScript 30 = .ok (.if_icmp .lt 21, 3) := by decide +kernel
theorem dX9_runScript_33 : decode cX9_runScript 33 = .ok (.iload_n 1, 1) := by decide +kernel
theorem dX9_runScript_34 : decode cX9_runScript 34 = .ok (.iconst 3, 1) := by decide +kernel
theorem dX9_runScript_35 : decode cX9_runScript 35 = .ok (.if_icmp .gt 16, 3) := by decide +kernel
theorem dX9_runScript_38 : decode cX9_runScript 38 = .ok (.lload_n 2, 1) := by decide +kernel
theorem dX9_runScript_39 : decode cX9_runScript 39 = .ok (.lconst 0, 1) := by decide +kernel
theorem dX9_runScript_40 : decode cX9_runScript 40 = .ok (.lcmp, 1) := by decide +kernel
theorem dX9_runScript_41 : decode cX9_runScript 41 = .ok (.ifCond .lt 10, 3) := by decide +kernel
theorem dX9_runScript_44 : decode cX9_runScript 44 = .ok (.lload_n 2, 1) := by decide +kernel
theorem dX9_runScript_45 : decode cX9_runScript 45 = .ok (.lload 4, 2) := by decide +kernel
theorem dX9_runScript_47 : decode cX9_runScript 47 = .ok (.lcmp, 1) := by decide +kernel
theorem dX9_runScript_48 : decode cX9_runScript 48 = .ok (.ifCond .lt 7, 3) := by decide +kernel
theorem dX9_runScript_51 : decode cX9_runScript 51 = .ok (.iconst 1, 1) := by decide +kernel
theorem dX9_runScript_52 : decode cX9_runScript 52 = .ok (.goto 4, 3) := by decide +kernel
theorem dX9_runScript_55 : decode cX9_runScript 55 = .ok (.iconst 0, 1) := by decide +kernel
theorem dX9_runScript_56 : decode cX9_runScript 56 = .ok (.putfield 56, 3) := by decide +kernel
theorem dX9_runScript_59 : decode cX9_runScript 59 = .ok (.aload_n 0, 1) := by decide +kernel
theorem dX9_runScript_60 : decode cX9_runScript 60 = .ok (.getfield 56, 3) := by decide +kernel
theorem dX9_runScript_63 : decode cX9_runScript 63 = .ok (.ifCond .le 5, 3) := by decide +kernel
theorem dX9_runScript_66 : decode cX9_runScript 66 = .ok (.iconst 0, 1) := by decide +kernel
theorem dX9_runScript_67 : decode cX9_runScript 67 = .ok (.ireturn, 1) := by decide +kernel
theorem dX9_runScript_68 : decode cX9_runScript 68 = .ok (.aload_n 0, 1) := by decide +kernel
theorem dX9_runScript_69 : decode cX9_runScript 69 = .ok (.getfield 7, 3) := by decide +kernel
theorem dX9_runScript_72 : decode cX9_runScript 72 = .ok (.iconst 0, 1) := by decide +kernel
theorem dX9_runScript_73 : decode cX9_runScript 73 = .ok (.aload_n 0, 1) := by decide +kernel
theorem dX9_runScript_74 : decode cX9_runScript 74 = .ok (.getfield 16, 3) := by decide +kernel
theorem dX9_runScript_77 : decode cX9_runScript 77 = .ok (.iconst 0, 1) := by decide +kernel
theorem dX9_runScript_78 : decode cX9_runScript 78 = .ok (.invokestatic 130, 3) := by decide +kernel
theorem dX9_runScript_81 : decode cX9_runScript 81 = .ok (.bipush (-9), 2) := by decide +kernel
theorem dX9_runScript_83 : decode cX9_runScript 83 = .ok (.istore 6, 2) := by decide +kernel
theorem dX9_runScript_85 : decode cX9_runScript 85 = .ok (.lload 4, 2) := by decide +kernel
theorem dX9_runScript_87 : decode cX9_runScript 87 = .ok (.ldc2_w 262, 3) := by decide +kernel
theorem dX9_runScript_90 : decode cX9_runScript 90 = .ok (.ldiv, 1) := by decide +kernel
theorem dX9_runScript_91 : decode cX9_runScript 91 = .ok (.lstore 7, 2) := by decide +kernel
theorem dX9_runScript_93 : decode cX9_runScript 93 = .ok (.iconst 0, 1) := by decide +kernel
theorem dX9_runScript_94 : decode cX9_runScript 94 = .ok (.istore 9, 2) := by decide +kernel
theorem dX9_runScript_96 : decode cX9_runScript 96 = .ok (.iload 9, 2) := by decide +kernel
theorem dX9_runScript_98 : decode cX9_runScript 98 = .ok (.iload_n 1, 1) := by decide +kernel
theorem dX9_runScript_99 : decode cX9_runScript 99 = .ok (.if_icmp .ge 49, 3) := by decide +kernel
theorem dX9_runScript_102 : decode cX9_runScript 102 = .ok (.iload 6, 2) := by decide +kernel
theorem dX9_runScript_104 : decode cX9_runScript 104 = .ok (.bipush (-9), 2) := by decide +kernel
theorem dX9_runScript_106 : decode cX9_runScript 106 = .ok (.if_icmp .ne 42, 3) := by decide +kernel
theorem dX9_runScript_109 : decode cX9_runScript 109 = .ok (.aload_n 0, 1) := by decide +kernel
theorem dX9_runScript_110 : decode cX9_runScript 110 = .ok (.lload_n 2, 1) := by decide +kernel
theorem dX9_runScript_111 : decode cX9_runScript 111 = .ok (.lload 7, 2) := by decide +kernel
theorem dX9_runScript_113 : decode cX9_runScript 113 = .ok (.ldiv, 1) := by decide +kernel
theorem dX9_runScript_114 : decode cX9_runScript 114 = .ok (.ldc2_w 262, 3) := by decide +kernel
theorem dX9_runScript_117 : decode cX9_runScript 117 = .ok (.lrem, 1) := by decide +kernel
theorem dX9_runScript_118 : decode cX9_runScript 118 = .ok (.l2i, 1) := by decide +kernel
theorem dX9_runScript_119 : decode cX9_runScript 119 = .ok (.invokevirtual 268, 3) := by decide +kernel
theorem dX9_runScript_122 : decode cX9_runScript 122 = .ok (.ifCond .eq 8, 3) := by decide +kernel
theorem dX9_runScript_125 : decode cX9_runScript 125 = .ok (.bipush (-9), 2) := by decide +kernel
theorem dX9_runScript_127 : decode cX9_runScript 127 = .ok (.goto 5, 3) := by decide +kernel
theorem dX9_runScript_130 : decode cX9_runScript 130 = .ok (.iload 9, 2) := by decide +kernel
theorem dX9_runScript_132 : decode cX9_runScript 132 = .ok (.istore 6, 2) := by decide +kernel
theorem dX9_runScript_134 : decode cX9_runScript 134 = .ok (.lload 7, 2) := by decide +kernel
theorem dX9_runScript_136 : decode cX9_runScript 136 = .ok (.ldc2_w 262, 3) := by decide +kernel
theorem dX9_runScript_139 : decode cX9_runScript 139 = .ok (.ldiv, 1) := by decide +kernel
theorem dX9_runScript_140 : decode cX9_runScript 140 = .ok (.lstore 7, 2) := by decide +kernel
theorem dX9_runScript_142 : decode cX9_runScript 142 = .ok (.iinc 9 1, 3) := by decide +kernel
theorem dX9_runScript_145 : decode cX9_runScript 145 = .ok (.goto (-49), 3) := by decide +kernel
theorem dX9_runScript_148 : decode cX9_runScript 148 = .ok (.aload_n 0, 1) := by decide +kernel
theorem dX9_runScript_149 : decode cX9_runScript 149 = .ok (.getfield 16, 3) := by decide +kernel
theorem dX9_runScript_152 : decode cX9_runScript 152 = .ok (.iconst 0, 1) := by decide +kernel
theorem dX9_runScript_153 : decode cX9_runScript 153 = .ok (.aload_n 0, 1) := by decide +kernel
theorem dX9_runScript_154 : decode cX9_runScript 154 = .ok (.getfield 7, 3) := by decide +kernel
theorem dX9_runScript_157 : decode cX9_runScript 157 = .ok (.iconst 0, 1) := by decide +kernel
theorem dX9_runScript_158 : decode cX9_runScript 158 = .ok (.invokestatic 130, 3) := by decide +kernel
theorem dX9_runScript_161 : decode cX9_runScript 161 = .ok (.iload 6, 2) := by decide +kernel
theorem dX9_runScript_163 : decode cX9_runScript 163 = .ok (.ireturn, 1) := by decide +kernel
theorem dX9_simulate_0 : decode cX9_simulate 0 = .ok (.aload_n 0, 1) := by decide +kernel
theorem dX9_simulate_1 : decode cX9_simulate 1 = .ok (.iload_n 3, 1) := by decide +kernel
theorem dX9_simulate_2 : decode cX9_simulate 2 = .ok (.iconst 1, 1) := by decide +kernel
theorem dX9_simulate_3 : decode cX9_simulate 3 = .ok (.bipush 60, 2) := by decide +kernel
theorem dX9_simulate_5 : decode cX9_simulate 5 = .ok (.invokestatic 60, 3) := by decide +kernel
theorem dX9_simulate_8 : decode cX9_simulate 8 = .ok (.ifCond .eq 7, 3) := by decide +kernel
theorem dX9_simulate_11 : decode cX9_simulate 11 = .ok (.iconst 0, 1) := by decide +kernel
theorem dX9_simulate_12 : decode cX9_simulate 12 = .ok (.goto 4, 3) := by decide +kernel
theorem dX9_simulate_15 : decode cX9_simulate 15 = .ok (.iconst 1, 1) := by decide +kernel
theorem dX9_simulate_16 : decode cX9_simulate 16 = .ok (.putfield 56, 3) := by decide +kernel
theorem dX9_simulate_19 : decode cX9_simulate 19 = .ok (.aload_n 0, 1) := by decide +kernel
theorem dX9_simulate_20 : decode cX9_simulate 20 = .ok (.getfield 56, 3) := by decide +kernel
theorem dX9_simulate_23 : decode cX9_simulate 23 = .ok (.ifCond .le 5, 3) := by decide +kernel
theorem dX9_simulate_26 : decode cX9_simulate 26 = .ok (.iconst 0, 1) := by decide +kernel
theorem dX9_simulate_27 : decode cX9_simulate 27 = .ok (.ireturn, 1) := by decide +kernel
theorem dX9_simulate_28 : decode cX9_simulate 28 = .ok (.aload_n 0, 1) := by decide +kernel
theorem dX9_simulate_29 : decode cX9_simulate 29 = .ok (.getfield 7, 3) := by decide +kernel
theorem dX9_simulate_32 : decode cX9_simulate 32 = .ok (.iconst 0, 1) := by decide +kernel
theorem dX9_simulate_33 : decode cX9_simulate 33 = .ok (.aload_n 0, 1) := by decide +kernel
theorem dX9_simulate_34 : decode cX9_simulate 34 = .ok (.getfield 16, 3) := by decide +kernel
theorem dX9_simulate_37 : decode cX9_simulate 37 = .ok (.iconst 0, 1) := by decide +kernel
theorem dX9_simulate_38 : decode cX9_simulate 38 = .ok (.invokestatic 130, 3) := by decide +kernel
theorem dX9_simulate_41 : decode cX9_simulate 41 = .ok (.lload_n 1, 1) := by decide +kernel
theorem dX9_simulate_42 : decode cX9_simulate 42 = .ok (.lstore 4, 2) := by decide +kernel
theorem dX9_simulate_44 : decode cX9_simulate 44 = .ok (.iconst 0, 1) := by decide +kernel
theorem dX9_simulate_45 : decode cX9_simulate 45 = .ok (.istore 6, 2) := by decide +kernel
theorem dX9_simulate_47 : decode cX9_simulate 47 = .ok (.iconst 0, 1) := by decide +kernel
theorem dX9_simulate_48 : decode cX9_simulate 48 = .ok (.istore 7, 2) := by decide +kernel
theorem dX9_simulate_50 : decode cX9_simulate 50 = .ok (.iload 7, 2) := by decide +kernel
theorem dX9_simulate_52 : decode cX9_simulate 52 = .ok (.iload_n 3, 1) := by decide +kernel
theorem dX9_simulate_53 : decode cX9_simulate 53 = .ok (.if_icmp .ge 60, 3) := by decide +kernel
theorem dX9_simulate_56 : decode cX9_simulate 56 = .ok (.lload 4, 2) := by decide +kernel
theorem dX9_simulate_58 : decode cX9_simulate 58 = .ok (.ldc2_w 271, 3) := by decide +kernel
theorem dX9_simulate_61 : decode cX9_simulate 61 = .ok (.lmul, 1) := by decide +kernel
theorem dX9_simulate_62 : decode cX9_simulate 62 = .ok (.ldc2_w 273, 3) := by decide +kernel
theorem dX9_simulate_65 : decode cX9_simulate 65 = .ok (.ladd, 1) := by decide +kernel
theorem dX9_simulate_66 : decode cX9_simulate 66 = .ok (.lstore 4, 2) := by decide +kernel
theorem dX9_simulate_68 : decode cX9_simulate 68 = .ok (.lload 4, 2) := by decide +kernel
theorem dX9_simulate_70 : decode cX9_simulate 70 = .ok (.bipush 33, 2) := by decide +kernel
theorem dX9_simulate_72 : decode cX9_simulate 72 = .ok (.lushr, 1) := by decide +kernel
theorem dX9_simulate_73 : decode cX9_simulate 73 = .ok (.l2i, 1) := by decide +kernel
theorem dX9_simulate_74 : decode cX9_simulate 74 = .ok (.istore 8, 2) := by decide +kernel
theorem dX9_simulate_76 : decode cX9_simulate 76 = .ok (.iload 6, 2) := by decide +kernel
theorem dX9_simulate_78 : decode cX9_simulate 78 = .ok (.aload_n 0, 1) := by decide +kernel
theorem dX9_simulate_79 : decode cX9_simulate 79 = .ok (.iload 8, 2) := by decide +kernel
theorem dX9_simulate_81 : decode cX9_simulate 81 = .ok (.iconst 4, 1) := by decide +kernel
theorem dX9_simulate_82 : decode cX9_simulate 82 = .ok (.idiv, 1) := by decide +kernel
theorem dX9_simulate_83 : decode cX9_simulate 83 = .ok (.aload_n 0, 1) := by decide +kernel
theorem dX9_simulate_84 : decode cX9_simulate 84 = .ok (.iconst 0, 1) := by decide +kernel
theorem dX9_simulate_85 : decode cX9_simulate 85 = .ok (.invokevirtual 68, 3) := by decide +kernel
theorem dX9_simulate_88 : decode cX9_simulate 88 = .ok (.irem, 1) := by decide +kernel
theorem dX9_simulate_89 : decode cX9_simulate 89 = .ok (.iload 8, 2) := by decide +kernel
theorem dX9_simulate_91 : decode cX9_simulate 91 = .ok (.iconst 4, 1) := by decide +kernel
theorem dX9_simulate_92 : decode cX9_simulate 92 = .ok (.irem, 1) := by decide +kernel
theorem dX9_simulate_93 : decode cX9_simulate 93 = .ok (.invokevirtual 255, 3) := by decide +kernel
theorem dX9_simulate_96 : decode cX9_simulate 96 = .ok (.ifCond .eq 7, 3) := by decide +kernel
theorem dX9_simulate_99 : decode cX9_simulate 99 = .ok (.iconst 1, 1) := by decide +kernel
theorem dX9_simulate_100 : decode cX9_simulate 100 = .ok (.goto 4, 3) := by decide +kernel
theorem dX9_simulate_103 : decode cX9_simulate 103 = .ok (.iconst 0, 1) := by decide +kernel
theorem dX9_simulate_104 : decode cX9_simulate 104 = .ok (.iadd, 1) := by decide +kernel
theorem dX9_simulate_105 : decode cX9_simulate 105 = .ok (.istore 6, 2) := by decide +kernel
theorem dX9_simulate_107 : decode cX9_simulate 107 = .ok (.iinc 7 1, 3) := by decide +kernel
theorem dX9_simulate_110 : decode cX9_simulate 110 = .ok (.goto (-60), 3) := by decide +kernel
theorem dX9_simulate_113 : decode cX9_simulate 113 = .ok (.sipush 1000, 3) := by decide +kernel
theorem dX9_simulate_116 : decode cX9_simulate 116 = .ok (.iload 6, 2) := by decide +kernel
theorem dX9_simulate_118 : decode cX9_simulate 118 = .ok (.imul, 1) := by decide +kernel
theorem dX9_simulate_119 : decode cX9_simulate 119 = .ok (.aload_n 0, 1) := by decide +kernel
theorem dX9_simulate_120 : decode cX9_simulate 120 = .ok (.invokevirtual 184, 3) := by decide +kernel
theorem dX9_simulate_123 : decode cX9_simulate 123 = .ok (.iadd, 1) := by decide +kernel
theorem dX9_simulate_124 : decode cX9_simulate 124 = .ok (.istore 7, 2) := by decide +kernel
theorem dX9_simulate_126 : decode cX9_simulate 126 = .ok (.aload_n 0, 1) := by decide +kernel
theorem dX9_simulate_127 : decode cX9_simulate 127 = .ok (.getfield 16, 3) := by decide +kernel
theorem dX9_simulate_130 : decode cX9_simulate 130 = .ok (.iconst 0, 1) := by decide +kernel
theorem dX9_simulate_131 : decode cX9_simulate 131 = .ok (.aload_n 0, 1) := by decide +kernel
theorem dX9_simulate_132 : decode cX9_simulate 132 = .ok (.getfield 7, 3) := by decide +kernel
theorem dX9_simulate_135 : decode cX9_simulate 135 = .ok (.iconst 0, 1) := by decide +kernel
theorem dX9_simulate_136 : decode cX9_simulate 136 = .ok (.invokestatic 130, 3) := by decide +kernel
theorem dX9_simulate_139 : decode cX9_simulate 139 = .ok (.iload 7, 2) := by decide +kernel
theorem dX9_simulate_141 : decode cX9_simulate 141 = .ok (.ireturn, 1) := by decide +kernel
theorem dX9_isSlot_0 : decode cX9_isSlot 0 = .ok (.iload_n 0, 1) := by decide +kernel
theorem dX9_isSlot_1 : decode cX9_isSlot 1 = .ok (.ifCond .eq 8, 3) := by decide +kernel
theorem dX9_isSlot_4 : decode cX9_isSlot 4 = .ok (.iload_n 0, 1) := by decide +kernel
theorem dX9_isSlot_5 : decode cX9_isSlot 5 = .ok (.iconst 1, 1) := by decide +kernel
theorem dX9_isSlot_6 : decode cX9_isSlot 6 = .ok (.if_icmp .ne 7, 3) := by decide +kernel
theorem dX9_isSlot_9 : decode cX9_isSlot 9 = .ok (.iconst 1, 1) := by decide +kernel
theorem dX9_isSlot_10 : decode cX9_isSlot 10 = .ok (.goto 4, 3) := by decide +kernel
theorem dX9_isSlot_13 : decode cX9_isSlot 13 = .ok (.iconst 0, 1) := by decide +kernel
theorem dX9_isSlot_14 : decode cX9_isSlot 14 = .ok (.ireturn, 1) := by decide +kernel
theorem dX9_save_0 : decode cX9_save 0 = .ok (.aload_n 0, 1) := by decide +kernel
theorem dX9_save_1 : decode cX9_save 1 = .ok (.iload_n 1, 1) := by decide +kernel
theorem dX9_save_2 : decode cX9_save 2 = .ok (.invokestatic 275, 3) := by decide +kernel
theorem dX9_save_5 : decode cX9_save 5 = .ok (.ifCond .eq 7, 3) := by decide +kernel
theorem dX9_save_8 : decode cX9_save 8 = .ok (.iconst 0, 1) := by decide +kernel
theorem dX9_save_9 : decode cX9_save 9 = .ok (.goto 4, 3) := by decide +kernel
theorem dX9_save_12 : decode cX9_save 12 = .ok (.iconst 1, 1) := by decide +kernel
theorem dX9_save_13 : decode cX9_save 13 = .ok (.putfield 56, 3) := by decide +kernel
theorem dX9_save_16 : decode cX9_save 16 = .ok (.aload_n 0, 1) := by decide +kernel
theorem dX9_save_17 : decode cX9_save 17 = .ok (.getfield 56, 3) := by decide +kernel
theorem dX9_save_20 : decode cX9_save 20 = .ok (.ifCond .le 5, 3) := by decide +kernel
theorem dX9_save_23 : decode cX9_save 23 = .ok (.iconst 0, 1) := by decide +kernel
theorem dX9_save_24 : decode cX9_save 24 = .ok (.ireturn, 1) := by decide +kernel
theorem dX9_save_25 : decode cX9_save 25 = .ok (.aload_n 0, 1) := by decide +kernel
theorem dX9_save_26 : decode cX9_save 26 = .ok (.getfield 7, 3) := by decide +kernel
theorem dX9_save_29 : decode cX9_save 29 = .ok (.iconst 0, 1) := by decide +kernel
theorem dX9_save_30 : decode cX9_save 30 = .ok (.aload_n 0, 1) := by decide +kernel
theorem dX9_save_31 : decode cX9_save 31 = .ok (.getfield 22, 3) := by decide +kernel
theorem dX9_save_34 : decode cX9_save 34 = .ok (.bipush 85, 2) := by decide +kernel
theorem dX9_save_36 : decode cX9_save 36 = .ok (.iload_n 1, 1) := by decide +kernel
theorem dX9_save_37 : decode cX9_save 37 = .ok (.imul, 1) := by decide +kernel
theorem dX9_save_38 : decode cX9_save 38 = .ok (.invokestatic 130, 3) := by decide +kernel
theorem dX9_save_41 : decode cX9_save 41 = .ok (.aload_n 0, 1) := by decide +kernel
theorem dX9_save_42 : decode cX9_save 42 = .ok (.getfield 25, 3) := by decide +kernel
theorem dX9_save_45 : decode cX9_save 45 = .ok (.iload_n 1, 1) := by decide +kernel
theorem dX9_save_46 : decode cX9_save 46 = .ok (.iconst 1, 1) := by decide +kernel
theorem dX9_save_47 : decode cX9_save 47 = .ok (.iastore, 1) := by decide +kernel
theorem dX9_save_48 : decode cX9_save 48 = .ok (.aload_n 0, 1) := by decide +kernel
theorem dX9_save_49 : decode cX9_save 49 = .ok (.invokevirtual 181, 3) := by decide +kernel
theorem dX9_save_52 : decode cX9_save 52 = .ok (.ireturn, 1) := by decide +kernel
theorem dX9_restore_0 : decode cX9_restore 0 = .ok (.aload_n 0, 1) := by decide +kernel
theorem dX9_restore_1 : decode cX9_restore 1 = .ok (.iload_n 1, 1) := by decide +kernel
theorem dX9_restore_2 : decode cX9_restore 2 = .ok (.invokestatic 275, 3) := by decide +kernel
theorem dX9_restore_5 : decode cX9_restore 5 = .ok (.ifCond .ne 7, 3) := by decide +kernel
theorem dX9_restore_8 : decode cX9_restore 8 = .ok (.iconst 1, 1) := by decide +kernel
theorem dX9_restore_9 : decode cX9_restore 9 = .ok (.goto 18, 3) := by decide +kernel
theorem dX9_restore_12 : decode cX9_restore 12 = .ok (.aload_n 0, 1) := by decide +kernel
theorem dX9_restore_13 : decode cX9_restore 13 = .ok (.getfield 25, 3) := by decide +kernel
theorem dX9_restore_16 : decode cX9_restore 16 = .ok (.iload_n 1, 1) := by decide +kernel
theorem dX9_restore_17 : decode cX9_restore 17 = .ok (.iaload, 1) := by decide +kernel
theorem dX9_restore_18 : decode cX9_restore 18 = .ok (.iconst 1, 1) := by decide +kernel
theorem dX9_restore_19 : decode cX9_restore 19 = .ok (.if_icmp .ne 7, 3) := by decide +kernel
theorem dX9_restore_22 : decode cX9_restore 22 = .ok (.iconst 0, 1) := by decide +kernel
theorem dX9_restore_23 : decode cX9_restore 23 = .ok (.goto 4, 3) := by decide +kernel
theorem dX9_restore_26 : decode cX9_restore 26 = .ok (.iconst 2, 1) := by decide +kernel
theorem dX9_restore_27 : decode cX9_restore 27 = .ok (.putfield 56, 3) := by decide +kernel
theorem dX9_restore_30 : decode cX9_restore 30 = .ok (.aload_n 0, 1) := by decide +kernel
theorem dX9_restore_31 : decode cX9_restore 31 = .ok (.getfield 56, 3) := by decide +kernel
theorem dX9_restore_34 : decode cX9_restore 34 = .ok (.ifCond .le 5, 3) := by decide +kernel
theorem dX9_restore_37 : decode cX9_restore 37 = .ok (.iconst 0, 1) := by decide +kernel
theorem dX9_restore_38 : decode cX9_restore 38 = .ok (.ireturn, 1) := by decide +kernel
theorem dX9_restore_39 : decode cX9_restore 39 = .ok (.aload_n 0, 1) := by decide +kernel
theorem dX9_restore_40 : decode cX9_restore 40 = .ok (.getfield 22, 3) := by decide +kernel
theorem dX9_restore_43 : decode cX9_restore 43 = .ok (.bipush 85, 2) := by decide +kernel
theorem dX9_restore_45 : decode cX9_restore 45 = .ok (.iload_n 1, 1) := by decide +kernel
theorem dX9_restore_46 : decode cX9_restore 46 = .ok (.imul, 1) := by decide +kernel
theorem dX9_restore_47 : decode cX9_restore 47 = .ok (.aload_n 0, 1) := by decide +kernel
theorem dX9_restore_48 : decode cX9_restore 48 = .ok (.getfield 7, 3) := by decide +kernel
theorem dX9_restore_51 : decode cX9_restore 51 = .ok (.iconst 0, 1) := by decide +kernel
theorem dX9_restore_52 : decode cX9_restore 52 = .ok (.invokestatic 130, 3) := by decide +kernel
theorem dX9_restore_55 : decode cX9_restore 55 = .ok (.aload_n 0, 1) := by decide +kernel
theorem dX9_restore_56 : decode cX9_restore 56 = .ok (.iconst 0, 1) := by decide +kernel
theorem dX9_restore_57 : decode cX9_restore 57 = .ok (.putfield 137, 3) := by decide +kernel
theorem dX9_restore_60 : decode cX9_restore 60 = .ok (.aload_n 0, 1) := by decide +kernel
theorem dX9_restore_61 : decode cX9_restore 61 = .ok (.invokevirtual 181, 3) := by decide +kernel
theorem dX9_restore_64 : decode cX9_restore 64 = .ok (.ireturn, 1) := by decide +kernel
theorem dL_append_0 : decode cL_append 0 = .ok (.aload_n 2, 1) := by decide +kernel
theorem dL_append_1 : decode cL_append 1 = .ok (.iconst 0, 1) := by decide +kernel
theorem dL_append_2 : decode cL_append 2 = .ok (.aload_n 0, 1) := by decide +kernel
theorem dL_append_3 : decode cL_append 3 = .ok (.iload_n 1, 1) := by decide +kernel
theorem dL_append_4 : decode cL_append 4 = .ok (.invokevirtual 7, 3) := by decide +kernel
theorem dL_append_7 : decode cL_append 7 = .ok (.i2l, 1) := by decide +kernel
theorem dL_append_8 : decode cL_append 8 = .ok (.lastore, 1) := by decide +kernel
theorem dL_append_9 : decode cL_append 9 = .ok (.goto 9, 3) := by decide +kernel
theorem dL_append_12 : decode cL_append 12 = .ok (.astore_n 3, 1) := by decide +kernel
theorem dL_append_13 : decode cL_append 13 = .ok (.iconst 1, 1) := by decide +kernel
theorem dL_append_14 : decode cL_append 14 = .ok (.ireturn, 1) := by decide +kernel
theorem dL_append_15 : decode cL_append 15 = .ok (.astore_n 3, 1) := by decide +kernel
theorem dL_append_16 : decode cL_append 16 = .ok (.iconst 2, 1) := by decide +kernel
theorem dL_append_17 : decode cL_append 17 = .ok (.ireturn, 1) := by decide +kernel
theorem dL_append_18 : decode cL_append 18 = .ok (.iconst 0, 1) := by decide +kernel
theorem dL_append_19 : decode cL_append 19 = .ok (.ireturn, 1) := by decide +kernel
theorem dL_load_0 : decode cL_load 0 = .ok (.aload_n 1, 1) := by decide +kernel
theorem dL_load_1 : decode cL_load 1 = .ok (.iconst 0, 1) := by decide +kernel
theorem dL_load_2 : decode cL_load 2 = .ok (.aload_n 0, 1) := by decide +kernel
theorem dL_load_3 : decode cL_load 3 = .ok (.invokevirtual 17, 3) := by decide +kernel
theorem dL_load_6 : decode cL_load 6 = .ok (.i2l, 1) := by decide +kernel
theorem dL_load_7 : decode cL_load 7 = .ok (.lastore, 1) := by decide +kernel
theorem dL_load_8 : decode cL_load 8 = .ok (.goto 6, 3) := by decide +kernel
theorem dL_load_11 : decode cL_load 11 = .ok (.astore_n 2, 1) := by decide +kernel
theorem dL_load_12 : decode cL_load 12 = .ok (.iconst 1, 1) := by decide +kernel
theorem dL_load_13 : decode cL_load 13 = .ok (.ireturn, 1) := by decide +kernel
theorem dL_load_14 : decode cL_load 14 = .ok (.iconst 0, 1) := by decide +kernel
theorem dL_load_15 : decode cL_load 15 = .ok (.ireturn, 1) := by decide +kernel
theorem dL_about_0 : decode cL_about 0 = .ok (.aload_n 2, 1) := by decide +kernel
theorem dL_about_1 : decode cL_about 1 = .ok (.iconst 0, 1) := by decide +kernel
theorem dL_about_2 : decode cL_about 2 = .ok (.aload_n 0, 1) := by decide +kernel
theorem dL_about_3 : decode cL_about 3 = .ok (.iload_n 1, 1) := by decide +kernel
theorem dL_about_4 : decode cL_about 4 = .ok (.invokevirtual 21, 3) := by decide +kernel
theorem dL_about_7 : decode cL_about 7 = .ok (.i2l, 1) := by decide +kernel
theorem dL_about_8 : decode cL_about 8 = .ok (.lastore, 1) := by decide +kernel
theorem dL_about_9 : decode cL_about 9 = .ok (.goto 6, 3) := by decide +kernel
theorem dL_about_12 : decode cL_about 12 = .ok (.astore_n 3, 1) := by decide +kernel
theorem dL_about_13 : decode cL_about 13 = .ok (.iconst 1, 1) := by decide +kernel
theorem dL_about_14 : decode cL_about 14 = .ok (.ireturn, 1) := by decide +kernel
theorem dL_about_15 : decode cL_about 15 = .ok (.iconst 0, 1) := by decide +kernel
theorem dL_about_16 : decode cL_about 16 = .ok (.ireturn, 1) := by decide +kernel
theorem dL_ring_0 : decode cL_ring 0 = .ok (.aload_n 3, 1) := by decide +kernel
theorem dL_ring_1 : decode cL_ring 1 = .ok (.iconst 0, 1) := by decide +kernel
theorem dL_ring_2 : decode cL_ring 2 = .ok (.aload_n 0, 1) := by decide +kernel
theorem dL_ring_3 : decode cL_ring 3 = .ok (.iload_n 1, 1) := by decide +kernel
theorem dL_ring_4 : decode cL_ring 4 = .ok (.iload_n 2, 1) := by decide +kernel
theorem dL_ring_5 : decode cL_ring 5 = .ok (.invokevirtual 24, 3) := by decide +kernel
theorem dL_ring_8 : decode cL_ring 8 = .ok (.i2l, 1) := by decide +kernel
theorem dL_ring_9 : decode cL_ring 9 = .ok (.lastore, 1) := by decide +kernel
theorem dL_ring_10 : decode cL_ring 10 = .ok (.goto 11, 3) := by decide +kernel
theorem dL_ring_13 : decode cL_ring 13 = .ok (.astore 4, 2) := by decide +kernel
theorem dL_ring_15 : decode cL_ring 15 = .ok (.iconst 1, 1) := by decide +kernel
theorem dL_ring_16 : decode cL_ring 16 = .ok (.ireturn, 1) := by decide +kernel
theorem dL_ring_17 : decode cL_ring 17 = .ok (.astore 4, 2) := by decide +kernel
theorem dL_ring_19 : decode cL_ring 19 = .ok (.iconst 2, 1) := by decide +kernel
theorem dL_ring_20 : decode cL_ring 20 = .ok (.ireturn, 1) := by decide +kernel
theorem dL_ring_21 : decode cL_ring 21 = .ok (.iconst 0, 1) := by decide +kernel
theorem dL_ring_22 : decode cL_ring 22 = .ok (.ireturn, 1) := by decide +kernel
theorem dL_corner_0 : decode cL_corner 0 = .ok (.aload 4, 2) := by decide +kernel
theorem dL_corner_2 : decode cL_corner 2 = .ok (.iconst 0, 1) := by decide +kernel
theorem dL_corner_3 : decode cL_corner 3 = .ok (.aload_n 0, 1) := by decide +kernel
theorem dL_corner_4 : decode cL_corner 4 = .ok (.iload_n 1, 1) := by decide +kernel
theorem dL_corner_5 : decode cL_corner 5 = .ok (.iload_n 2, 1) := by decide +kernel
theorem dL_corner_6 : decode cL_corner 6 = .ok (.iload_n 3, 1) := by decide +kernel
theorem dL_corner_7 : decode cL_corner 7 = .ok (.invokevirtual 30, 3) := by decide +kernel
theorem dL_corner_10 : decode cL_corner 10 = .ok (.i2l, 1) := by decide +kernel
theorem dL_corner_11 : decode cL_corner 11 = .ok (.lastore, 1) := by decide +kernel
theorem dL_corner_12 : decode cL_corner 12 = .ok (.goto 11, 3) := by decide +kernel
theorem dL_corner_15 : decode cL_corner 15 = .ok (.astore 5, 2) := by decide +kernel
theorem dL_corner_17 : decode cL_corner 17 = .ok (.iconst 1, 1) := by decide +kernel
theorem dL_corner_18 : decode cL_corner 18 = .ok (.ireturn, 1) := by decide +kernel
theorem dL_corner_19 : decode cL_corner 19 = .ok (.astore 5, 2) := by decide +kernel
theorem dL_corner_21 : decode cL_corner 21 = .ok (.iconst 2, 1) := by decide +kernel
theorem dL_corner_22 : decode cL_corner 22 = .ok (.ireturn, 1) := by decide +kernel
theorem dL_corner_23 : decode cL_corner 23 = .ok (.iconst 0, 1) := by decide +kernel
theorem dL_corner_24 : decode cL_corner 24 = .ok (.ireturn, 1) := by decide +kernel
theorem dL_point_0 : decode cL_point 0 = .ok (.aload_n 3, 1) := by decide +kernel
theorem dL_point_1 : decode cL_point 1 = .ok (.iconst 0, 1) := by decide +kernel
theorem dL_point_2 : decode cL_point 2 = .ok (.aload_n 0, 1) := by decide +kernel
theorem dL_point_3 : decode cL_point 3 = .ok (.iload_n 1, 1) := by decide +kernel
theorem dL_point_4 : decode cL_point 4 = .ok (.iload_n 2, 1) := by decide +kernel
theorem dL_point_5 : decode cL_point 5 = .ok (.invokevirtual 34, 3) := by decide +kernel
theorem dL_point_8 : decode cL_point 8 = .ok (.i2l, 1) := by decide +kernel
theorem dL_point_9 : decode cL_point 9 = .ok (.lastore, 1) := by decide +kernel
theorem dL_point_10 : decode cL_point 10 = .ok (.goto 7, 3) := by decide +kernel
theorem dL_point_13 : decode cL_point 13 = .ok (.astore 4, 2) := by decide +kernel
theorem dL_point_15 : decode cL_point 15 = .ok (.iconst 1, 1) := by decide +kernel
theorem dL_point_16 : decode cL_point 16 = .ok (.ireturn, 1) := by decide +kernel
theorem dL_point_17 : decode cL_point 17 = .ok (.iconst 0, 1) := by decide +kernel
theorem dL_point_18 : decode cL_point 18 = .ok (.ireturn, 1) := by decide +kernel
theorem dL_sees_0 : decode cL_sees 0 = .ok (.aload 5, 2) := by decide +kernel
theorem dL_sees_2 : decode cL_sees 2 = .ok (.iconst 0, 1) := by decide +kernel
theorem dL_sees_3 : decode cL_sees 3 = .ok (.aload_n 0, 1) := by decide +kernel
theorem dL_sees_4 : decode cL_sees 4 = .ok (.iload_n 1, 1) := by decide +kernel
theorem dL_sees_5 : decode cL_sees 5 = .ok (.iload_n 2, 1) := by decide +kernel
theorem dL_sees_6 : decode cL_sees 6 = .ok (.iload_n 3, 1) := by decide +kernel
theorem dL_sees_7 : decode cL_sees 7 = .ok (.iload 4, 2) := by decide +kernel
theorem dL_sees_9 : decode cL_sees 9 = .ok (.invokevirtual 37, 3) := by decide +kernel
theorem dL_sees_12 : decode cL_sees 12 = .ok (.ifCond .eq 7, 3) := by decide +kernel
theorem dL_sees_15 : decode cL_sees 15 = .ok (.lconst 1, 1) := by decide +kernel
theorem dL_sees_16 : decode cL_sees 16 = .ok (.goto 4, 3) := by decide +kernel
theorem dL_sees_19 : decode cL_sees 19 = .ok (.lconst 0, 1) := by decide +kernel
theorem dL_sees_20 : decode cL_sees 20 = .ok (.lastore, 1) := by decide +kernel
theorem dL_sees_21 : decode cL_sees 21 = .ok (.goto 7, 3) := by decide +kernel
theorem dL_sees_24 : decode cL_sees 24 = .ok (.astore 6, 2) := by decide +kernel
theorem dL_sees_26 : decode cL_sees 26 = .ok (.iconst 1, 1) := by decide +kernel
theorem dL_sees_27 : decode cL_sees 27 = .ok (.ireturn, 1) := by decide +kernel
theorem dL_sees_28 : decode cL_sees 28 = .ok (.iconst 0, 1) := by decide +kernel
theorem dL_sees_29 : decode cL_sees 29 = .ok (.ireturn, 1) := by decide +kernel
theorem dL_move_0 : decode cL_move 0 = .ok (.aload 5, 2) := by decide +kernel
theorem dL_move_2 : decode cL_move 2 = .ok (.iconst 0, 1) := by decide +kernel
theorem dL_move_3 : decode cL_move 3 = .ok (.aload_n 0, 1) := by decide +kernel
theorem dL_move_4 : decode cL_move 4 = .ok (.iload_n 1, 1) := by decide +kernel
theorem dL_move_5 : decode cL_move 5 = .ok (.iload_n 2, 1) := by decide +kernel
theorem dL_move_6 : decode cL_move 6 = .ok (.iload_n 3, 1) := by decide +kernel
theorem dL_move_7 : decode cL_move 7 = .ok (.iload 4, 2) := by decide +kernel
theorem dL_move_9 : decode cL_move 9 = .ok (.invokevirtual 41, 3) := by decide +kernel
theorem dL_move_12 : decode cL_move 12 = .ok (.i2l, 1) := by decide +kernel
theorem dL_move_13 : decode cL_move 13 = .ok (.lastore, 1) := by decide +kernel
theorem dL_move_14 : decode cL_move 14 = .ok (.goto 11, 3) := by decide +kernel
theorem dL_move_17 : decode cL_move 17 = .ok (.astore 6, 2) := by decide +kernel
theorem dL_move_19 : decode cL_move 19 = .ok (.iconst 1, 1) := by decide +kernel
theorem dL_move_20 : decode cL_move 20 = .ok (.ireturn, 1) := by decide +kernel
theorem dL_move_21 : decode cL_move 21 = .ok (.astore 6, 2) := by decide +kernel
theorem dL_move_23 : decode cL_move 23 = .ok (.iconst 2, 1) := by decide +kernel
theorem dL_move_24 : decode cL_move 24 = .ok (.ireturn, 1) := by decide +kernel
theorem dL_move_25 : decode cL_move 25 = .ok (.iconst 0, 1) := by decide +kernel
theorem dL_move_26 : decode cL_move 26 = .ok (.ireturn, 1) := by decide +kernel
theorem dL_insert_0 : decode cL_insert 0 = .ok (.aload 5, 2) := by decide +kernel
theorem dL_insert_2 : decode cL_insert 2 = .ok (.iconst 0, 1) := by decide +kernel
theorem dL_insert_3 : decode cL_insert 3 = .ok (.aload_n 0, 1) := by decide +kernel
theorem dL_insert_4 : decode cL_insert 4 = .ok (.iload_n 1, 1) := by decide +kernel
theorem dL_insert_5 : decode cL_insert 5 = .ok (.iload_n 2, 1) := by decide +kernel
theorem dL_insert_6 : decode cL_insert 6 = .ok (.iload_n 3, 1) := by decide +kernel
theorem dL_insert_7 : decode cL_insert 7 = .ok (.iload 4, 2) := by decide +kernel
theorem dL_insert_9 : decode cL_insert 9 = .ok (.invokevirtual 45, 3) := by decide +kernel
theorem dL_insert_12 : decode cL_insert 12 = .ok (.i2l, 1) := by decide +kernel
theorem dL_insert_13 : decode cL_insert 13 = .ok (.lastore, 1) := by decide +kernel
theorem dL_insert_14 : decode cL_insert 14 = .ok (.goto 11, 3) := by decide +kernel
theorem dL_insert_17 : decode cL_insert 17 = .ok (.astore 6, 2) := by decide +kernel
theorem dL_insert_19 : decode cL_insert 19 = .ok (.iconst 1, 1) := by decide +kernel
theorem dL_insert_20 : decode cL_insert 20 = .ok (.ireturn, 1) := by decide +kernel
theorem dL_insert_21 : decode cL_insert 21 = .ok (.astore 6, 2) := by decide +kernel
theorem dL_insert_23 : decode cL_insert 23 = .ok (.iconst 2, 1) := by decide +kernel
theorem dL_insert_24 : decode cL_insert 24 = .ok (.ireturn, 1) := by decide +kernel
theorem dL_insert_25 : decode cL_insert 25 = .ok (.iconst 0, 1) := by decide +kernel
theorem dL_insert_26 : decode cL_insert 26 = .ok (.ireturn, 1) := by decide +kernel
theorem dL_remove_0 : decode cL_remove 0 = .ok (.aload_n 3, 1) := by decide +kernel
theorem dL_remove_1 : decode cL_remove 1 = .ok (.iconst 0, 1) := by decide +kernel
theorem dL_remove_2 : decode cL_remove 2 = .ok (.aload_n 0, 1) := by decide +kernel
theorem dL_remove_3 : decode cL_remove 3 = .ok (.iload_n 1, 1) := by decide +kernel
theorem dL_remove_4 : decode cL_remove 4 = .ok (.iload_n 2, 1) := by decide +kernel
theorem dL_remove_5 : decode cL_remove 5 = .ok (.invokevirtual 48, 3) := by decide +kernel
theorem dL_remove_8 : decode cL_remove 8 = .ok (.i2l, 1) := by decide +kernel
theorem dL_remove_9 : decode cL_remove 9 = .ok (.lastore, 1) := by decide +kernel
theorem dL_remove_10 : decode cL_remove 10 = .ok (.goto 11, 3) := by decide +kernel
theorem dL_remove_13 : decode cL_remove 13 = .ok (.astore 4, 2) := by decide +kernel
theorem dL_remove_15 : decode cL_remove 15 = .ok (.iconst 1, 1) := by decide +kernel
theorem dL_remove_16 : decode cL_remove 16 = .ok (.ireturn, 1) := by decide +kernel
theorem dL_remove_17 : decode cL_remove 17 = .ok (.astore 4, 2) := by decide +kernel
theorem dL_remove_19 : decode cL_remove 19 = .ok (.iconst 2, 1) := by decide +kernel
theorem dL_remove_20 : decode cL_remove 20 = .ok (.ireturn, 1) := by decide +kernel
theorem dL_remove_21 : decode cL_remove 21 = .ok (.iconst 0, 1) := by decide +kernel
theorem dL_remove_22 : decode cL_remove 22 = .ok (.ireturn, 1) := by decide +kernel
theorem dL_addHole_0 : decode cL_addHole 0 = .ok (.aload_n 3, 1) := by decide +kernel
theorem dL_addHole_1 : decode cL_addHole 1 = .ok (.iconst 0, 1) := by decide +kernel
theorem dL_addHole_2 : decode cL_addHole 2 = .ok (.aload_n 0, 1) := by decide +kernel
theorem dL_addHole_3 : decode cL_addHole 3 = .ok (.iload_n 1, 1) := by decide +kernel
theorem dL_addHole_4 : decode cL_addHole 4 = .ok (.iload_n 2, 1) := by decide +kernel
theorem dL_addHole_5 : decode cL_addHole 5 = .ok (.invokevirtual 51, 3) := by decide +kernel
theorem dL_addHole_8 : decode cL_addHole 8 = .ok (.i2l, 1) := by decide +kernel
theorem dL_addHole_9 : decode cL_addHole 9 = .ok (.lastore, 1) := by decide +kernel
theorem dL_addHole_10 : decode cL_addHole 10 = .ok (.goto 11, 3) := by decide +kernel
theorem dL_addHole_13 : decode cL_addHole 13 = .ok (.astore 4, 2) := by decide +kernel
theorem dL_addHole_15 : decode cL_addHole 15 = .ok (.iconst 1, 1) := by decide +kernel
theorem dL_addHole_16 : decode cL_addHole 16 = .ok (.ireturn, 1) := by decide +kernel
theorem dL_addHole_17 : decode cL_addHole 17 = .ok (.astore 4, 2) := by decide +kernel
theorem dL_addHole_19 : decode cL_addHole 19 = .ok (.iconst 2, 1) := by decide +kernel
theorem dL_addHole_20 : decode cL_addHole 20 = .ok (.ireturn, 1) := by decide +kernel
theorem dL_addHole_21 : decode cL_addHole 21 = .ok (.iconst 0, 1) := by decide +kernel
theorem dL_addHole_22 : decode cL_addHole 22 = .ok (.ireturn, 1) := by decide +kernel
theorem dL_dropHole_0 : decode cL_dropHole 0 = .ok (.aload_n 2, 1) := by decide +kernel
theorem dL_dropHole_1 : decode cL_dropHole 1 = .ok (.iconst 0, 1) := by decide +kernel
theorem dL_dropHole_2 : decode cL_dropHole 2 = .ok (.aload_n 0, 1) := by decide +kernel
theorem dL_dropHole_3 : decode cL_dropHole 3 = .ok (.iload_n 1, 1) := by decide +kernel
theorem dL_dropHole_4 : decode cL_dropHole 4 = .ok (.invokevirtual 54, 3) := by decide +kernel
theorem dL_dropHole_7 : decode cL_dropHole 7 = .ok (.i2l, 1) := by decide +kernel
theorem dL_dropHole_8 : decode cL_dropHole 8 = .ok (.lastore, 1) := by decide +kernel
theorem dL_dropHole_9 : decode cL_dropHole 9 = .ok (.goto 9, 3) := by decide +kernel
theorem dL_dropHole_12 : decode cL_dropHole 12 = .ok (.astore_n 3, 1) := by decide +kernel
theorem dL_dropHole_13 : decode cL_dropHole 13 = .ok (.iconst 1, 1) := by decide +kernel
theorem dL_dropHole_14 : decode cL_dropHole 14 = .ok (.ireturn, 1) := by decide +kernel
theorem dL_dropHole_15 : decode cL_dropHole 15 = .ok (.astore_n 3, 1) := by decide +kernel
theorem dL_dropHole_16 : decode cL_dropHole 16 = .ok (.iconst 2, 1) := by decide +kernel
theorem dL_dropHole_17 : decode cL_dropHole 17 = .ok (.ireturn, 1) := by decide +kernel
theorem dL_dropHole_18 : decode cL_dropHole 18 = .ok (.iconst 0, 1) := by decide +kernel
theorem dL_dropHole_19 : decode cL_dropHole 19 = .ok (.ireturn, 1) := by decide +kernel
theorem dL_shift_0 : decode cL_shift 0 = .ok (.aload_n 3, 1) := by decide +kernel
theorem dL_shift_1 : decode cL_shift 1 = .ok (.iconst 0, 1) := by decide +kernel
theorem dL_shift_2 : decode cL_shift 2 = .ok (.aload_n 0, 1) := by decide +kernel
theorem dL_shift_3 : decode cL_shift 3 = .ok (.iload_n 1, 1) := by decide +kernel
theorem dL_shift_4 : decode cL_shift 4 = .ok (.iload_n 2, 1) := by decide +kernel
theorem dL_shift_5 : decode cL_shift 5 = .ok (.invokevirtual 57, 3) := by decide +kernel
theorem dL_shift_8 : decode cL_shift 8 = .ok (.i2l, 1) := by decide +kernel
theorem dL_shift_9 : decode cL_shift 9 = .ok (.lastore, 1) := by decide +kernel
theorem dL_shift_10 : decode cL_shift 10 = .ok (.goto 11, 3) := by decide +kernel
theorem dL_shift_13 : decode cL_shift 13 = .ok (.astore 4, 2) := by decide +kernel
theorem dL_shift_15 : decode cL_shift 15 = .ok (.iconst 1, 1) := by decide +kernel
theorem dL_shift_16 : decode cL_shift 16 = .ok (.ireturn, 1) := by decide +kernel
theorem dL_shift_17 : decode cL_shift 17 = .ok (.astore 4, 2) := by decide +kernel
theorem dL_shift_19 : decode cL_shift 19 = .ok (.iconst 2, 1) := by decide +kernel
theorem dL_shift_20 : decode cL_shift 20 = .ok (.ireturn, 1) := by decide +kernel
theorem dL_shift_21 : decode cL_shift 21 = .ok (.iconst 0, 1) := by decide +kernel
theorem dL_shift_22 : decode cL_shift 22 = .ok (.ireturn, 1) := by decide +kernel
theorem dL_undo_0 : decode cL_undo 0 = .ok (.aload_n 1, 1) := by decide +kernel
theorem dL_undo_1 : decode cL_undo 1 = .ok (.iconst 0, 1) := by decide +kernel
theorem dL_undo_2 : decode cL_undo 2 = .ok (.aload_n 0, 1) := by decide +kernel
theorem dL_undo_3 : decode cL_undo 3 = .ok (.invokevirtual 60, 3) := by decide +kernel
theorem dL_undo_6 : decode cL_undo 6 = .ok (.i2l, 1) := by decide +kernel
theorem dL_undo_7 : decode cL_undo 7 = .ok (.lastore, 1) := by decide +kernel
theorem dL_undo_8 : decode cL_undo 8 = .ok (.goto 6, 3) := by decide +kernel
theorem dL_undo_11 : decode cL_undo 11 = .ok (.astore_n 2, 1) := by decide +kernel
theorem dL_undo_12 : decode cL_undo 12 = .ok (.iconst 1, 1) := by decide +kernel
theorem dL_undo_13 : decode cL_undo 13 = .ok (.ireturn, 1) := by decide +kernel
theorem dL_undo_14 : decode cL_undo 14 = .ok (.iconst 0, 1) := by decide +kernel
theorem dL_undo_15 : decode cL_undo 15 = .ok (.ireturn, 1) := by decide +kernel
theorem dL_whyNot_0 : decode cL_whyNot 0 = .ok (.aload 5, 2) := by decide +kernel
theorem dL_whyNot_2 : decode cL_whyNot 2 = .ok (.iconst 0, 1) := by decide +kernel
theorem dL_whyNot_3 : decode cL_whyNot 3 = .ok (.aload_n 0, 1) := by decide +kernel
theorem dL_whyNot_4 : decode cL_whyNot 4 = .ok (.iload_n 1, 1) := by decide +kernel
theorem dL_whyNot_5 : decode cL_whyNot 5 = .ok (.iload_n 2, 1) := by decide +kernel
theorem dL_whyNot_6 : decode cL_whyNot 6 = .ok (.iload_n 3, 1) := by decide +kernel
theorem dL_whyNot_7 : decode cL_whyNot 7 = .ok (.iload 4, 2) := by decide +kernel
theorem dL_whyNot_9 : decode cL_whyNot 9 = .ok (.invokevirtual 63, 3) := by decide +kernel
theorem dL_whyNot_12 : decode cL_whyNot 12 = .ok (.i2l, 1) := by decide +kernel
theorem dL_whyNot_13 : decode cL_whyNot 13 = .ok (.lastore, 1) := by decide +kernel
theorem dL_whyNot_14 : decode cL_whyNot 14 = .ok (.goto 7, 3) := by decide +kernel
theorem dL_whyNot_17 : decode cL_whyNot 17 = .ok (.astore 6, 2) := by decide +kernel
theorem dL_whyNot_19 : decode cL_whyNot 19 = .ok (.iconst 1, 1) := by decide +kernel
theorem dL_whyNot_20 : decode cL_whyNot 20 = .ok (.ireturn, 1) := by decide +kernel
theorem dL_whyNot_21 : decode cL_whyNot 21 = .ok (.iconst 0, 1) := by decide +kernel
theorem dL_whyNot_22 : decode cL_whyNot 22 = .ok (.ireturn, 1) := by decide +kernel
theorem dL_cut_0 : decode cL_cut 0 = .ok (.aload_n 2, 1) := by decide +kernel
theorem dL_cut_1 : decode cL_cut 1 = .ok (.iconst 0, 1) := by decide +kernel
theorem dL_cut_2 : decode cL_cut 2 = .ok (.aload_n 0, 1) := by decide +kernel
theorem dL_cut_3 : decode cL_cut 3 = .ok (.iload_n 1, 1) := by decide +kernel
theorem dL_cut_4 : decode cL_cut 4 = .ok (.invokevirtual 66, 3) := by decide +kernel
theorem dL_cut_7 : decode cL_cut 7 = .ok (.i2l, 1) := by decide +kernel
theorem dL_cut_8 : decode cL_cut 8 = .ok (.lastore, 1) := by decide +kernel
theorem dL_cut_9 : decode cL_cut 9 = .ok (.goto 6, 3) := by decide +kernel
theorem dL_cut_12 : decode cL_cut 12 = .ok (.astore_n 3, 1) := by decide +kernel
theorem dL_cut_13 : decode cL_cut 13 = .ok (.iconst 1, 1) := by decide +kernel
theorem dL_cut_14 : decode cL_cut 14 = .ok (.ireturn, 1) := by decide +kernel
theorem dL_cut_15 : decode cL_cut 15 = .ok (.iconst 0, 1) := by decide +kernel
theorem dL_cut_16 : decode cL_cut 16 = .ok (.ireturn, 1) := by decide +kernel
theorem dL_inRow_0 : decode cL_inRow 0 = .ok (.aload_n 3, 1) := by decide +kernel
theorem dL_inRow_1 : decode cL_inRow 1 = .ok (.iconst 0, 1) := by decide +kernel
theorem dL_inRow_2 : decode cL_inRow 2 = .ok (.aload_n 0, 1) := by decide +kernel
theorem dL_inRow_3 : decode cL_inRow 3 = .ok (.iload_n 1, 1) := by decide +kernel
theorem dL_inRow_4 : decode cL_inRow 4 = .ok (.iload_n 2, 1) := by decide +kernel
theorem dL_inRow_5 : decode cL_inRow 5 = .ok (.invokevirtual 69, 3) := by decide +kernel
theorem dL_inRow_8 : decode cL_inRow 8 = .ok (.i2l, 1) := by decide +kernel
theorem dL_inRow_9 : decode cL_inRow 9 = .ok (.lastore, 1) := by decide +kernel
theorem dL_inRow_10 : decode cL_inRow 10 = .ok (.goto 7, 3) := by decide +kernel
theorem dL_inRow_13 : decode cL_inRow 13 = .ok (.astore 4, 2) := by decide +kernel
theorem dL_inRow_15 : decode cL_inRow 15 = .ok (.iconst 1, 1) := by decide +kernel
theorem dL_inRow_16 : decode cL_inRow 16 = .ok (.ireturn, 1) := by decide +kernel
theorem dL_inRow_17 : decode cL_inRow 17 = .ok (.iconst 0, 1) := by decide +kernel
theorem dL_inRow_18 : decode cL_inRow 18 = .ok (.ireturn, 1) := by decide +kernel
theorem dL_runScript_0 : decode cL_runScript 0 = .ok (.aload 4, 2) := by decide +kernel
theorem dL_runScript_2 : decode cL_runScript 2 = .ok (.iconst 0, 1) := by decide +kernel
theorem dL_runScript_3 : decode cL_runScript 3 = .ok (.aload_n 0, 1) := by decide +kernel
theorem dL_runScript_4 : decode cL_runScript 4 = .ok (.iload_n 1, 1) := by decide +kernel
theorem dL_runScript_5 : decode cL_runScript 5 = .ok (.lload_n 2, 1) := by decide +kernel
theorem dL_runScript_6 : decode cL_runScript 6 = .ok (.invokevirtual 73, 3) := by decide +kernel
theorem dL_runScript_9 : decode cL_runScript 9 = .ok (.i2l, 1) := by decide +kernel
theorem dL_runScript_10 : decode cL_runScript 10 = .ok (.lastore, 1) := by decide +kernel
theorem dL_runScript_11 : decode cL_runScript 11 = .ok (.goto 7, 3) := by decide +kernel
theorem dL_runScript_14 : decode cL_runScript 14 = .ok (.astore 5, 2) := by decide +kernel
theorem dL_runScript_16 : decode cL_runScript 16 = .ok (.iconst 1, 1) := by decide +kernel
theorem dL_runScript_17 : decode cL_runScript 17 = .ok (.ireturn, 1) := by decide +kernel
theorem dL_runScript_18 : decode cL_runScript 18 = .ok (.iconst 0, 1) := by decide +kernel
theorem dL_runScript_19 : decode cL_runScript 19 = .ok (.ireturn, 1) := by decide +kernel
theorem dL_simulate_0 : decode cL_simulate 0 = .ok (.aload 4, 2) := by decide +kernel
theorem dL_simulate_2 : decode cL_simulate 2 = .ok (.iconst 0, 1) := by decide +kernel
theorem dL_simulate_3 : decode cL_simulate 3 = .ok (.aload_n 0, 1) := by decide +kernel
theorem dL_simulate_4 : decode cL_simulate 4 = .ok (.lload_n 1, 1) := by decide +kernel
theorem dL_simulate_5 : decode cL_simulate 5 = .ok (.iload_n 3, 1) := by decide +kernel
theorem dL_simulate_6 : decode cL_simulate 6 = .ok (.invokevirtual 77, 3) := by decide +kernel
theorem dL_simulate_9 : decode cL_simulate 9 = .ok (.i2l, 1) := by decide +kernel
theorem dL_simulate_10 : decode cL_simulate 10 = .ok (.lastore, 1) := by decide +kernel
theorem dL_simulate_11 : decode cL_simulate 11 = .ok (.goto 7, 3) := by decide +kernel
theorem dL_simulate_14 : decode cL_simulate 14 = .ok (.astore 5, 2) := by decide +kernel
theorem dL_simulate_16 : decode cL_simulate 16 = .ok (.iconst 1, 1) := by decide +kernel
theorem dL_simulate_17 : decode cL_simulate 17 = .ok (.ireturn, 1) := by decide +kernel
theorem dL_simulate_18 : decode cL_simulate 18 = .ok (.iconst 0, 1) := by decide +kernel
theorem dL_simulate_19 : decode cL_simulate 19 = .ok (.ireturn, 1) := by decide +kernel
theorem dL_save_0 : decode cL_save 0 = .ok (.aload_n 2, 1) := by decide +kernel
theorem dL_save_1 : decode cL_save 1 = .ok (.iconst 0, 1) := by decide +kernel
theorem dL_save_2 : decode cL_save 2 = .ok (.aload_n 0, 1) := by decide +kernel
theorem dL_save_3 : decode cL_save 3 = .ok (.iload_n 1, 1) := by decide +kernel
theorem dL_save_4 : decode cL_save 4 = .ok (.invokevirtual 81, 3) := by decide +kernel
theorem dL_save_7 : decode cL_save 7 = .ok (.i2l, 1) := by decide +kernel
theorem dL_save_8 : decode cL_save 8 = .ok (.lastore, 1) := by decide +kernel
theorem dL_save_9 : decode cL_save 9 = .ok (.goto 6, 3) := by decide +kernel
theorem dL_save_12 : decode cL_save 12 = .ok (.astore_n 3, 1) := by decide +kernel
theorem dL_save_13 : decode cL_save 13 = .ok (.iconst 1, 1) := by decide +kernel
theorem dL_save_14 : decode cL_save 14 = .ok (.ireturn, 1) := by decide +kernel
theorem dL_save_15 : decode cL_save 15 = .ok (.iconst 0, 1) := by decide +kernel
theorem dL_save_16 : decode cL_save 16 = .ok (.ireturn, 1) := by decide +kernel
theorem dL_restore_0 : decode cL_restore 0 = .ok (.aload_n 2, 1) := by decide +kernel
theorem dL_restore_1 : decode cL_restore 1 = .ok (.iconst 0, 1) := by decide +kernel
theorem dL_restore_2 : decode cL_restore 2 = .ok (.aload_n 0, 1) := by decide +kernel
theorem dL_restore_3 : decode cL_restore 3 = .ok (.iload_n 1, 1) := by decide +kernel
theorem dL_restore_4 : decode cL_restore 4 = .ok (.invokevirtual 84, 3) := by decide +kernel
theorem dL_restore_7 : decode cL_restore 7 = .ok (.i2l, 1) := by decide +kernel
theorem dL_restore_8 : decode cL_restore 8 = .ok (.lastore, 1) := by decide +kernel
theorem dL_restore_9 : decode cL_restore 9 = .ok (.goto 9, 3) := by decide +kernel
theorem dL_restore_12 : decode cL_restore 12 = .ok (.astore_n 3, 1) := by decide +kernel
theorem dL_restore_13 : decode cL_restore 13 = .ok (.iconst 1, 1) := by decide +kernel
theorem dL_restore_14 : decode cL_restore 14 = .ok (.ireturn, 1) := by decide +kernel
theorem dL_restore_15 : decode cL_restore 15 = .ok (.astore_n 3, 1) := by decide +kernel
theorem dL_restore_16 : decode cL_restore 16 = .ok (.iconst 2, 1) := by decide +kernel
theorem dL_restore_17 : decode cL_restore 17 = .ok (.ireturn, 1) := by decide +kernel
theorem dL_restore_18 : decode cL_restore 18 = .ok (.iconst 0, 1) := by decide +kernel
theorem dL_restore_19 : decode cL_restore 19 = .ok (.ireturn, 1) := by decide +kernel
theorem dL_law_0 : decode cL_law 0 = .ok (.new 8, 3) := by decide +kernel
theorem dL_law_3 : decode cL_law 3 = .ok (.dup, 1) := by decide +kernel
theorem dL_law_4 : decode cL_law 4 = .ok (.invokespecial 87, 3) := by decide +kernel
theorem dL_law_7 : decode cL_law 7 = .ok (.astore_n 1, 1) := by decide +kernel
theorem dL_law_8 : decode cL_law 8 = .ok (.new 88, 3) := by decide +kernel
theorem dL_law_11 : decode cL_law 11 = .ok (.dup, 1) := by decide +kernel
theorem dL_law_12 : decode cL_law 12 = .ok (.invokespecial 90, 3) := by decide +kernel
theorem dL_law_15 : decode cL_law 15 = .ok (.astore_n 2, 1) := by decide +kernel
theorem dL_law_16 : decode cL_law 16 = .ok (.iconst 1, 1) := by decide +kernel
theorem dL_law_17 : decode cL_law 17 = .ok (.newarray .long, 2) := by decide +kernel
theorem dL_law_19 : decode cL_law 19 = .ok (.astore_n 3, 1) := by decide +kernel
theorem dL_law_20 : decode cL_law 20 = .ok (.iconst 0, 1) := by decide +kernel
theorem dL_law_21 : decode cL_law 21 = .ok (.istore 4, 2) := by decide +kernel
theorem dL_law_23 : decode cL_law 23 = .ok (.iload 4, 2) := by decide +kernel
theorem dL_law_25 : decode cL_law 25 = .ok (.aload_n 0, 1) := by decide +kernel
theorem dL_law_26 : decode cL_law 26 = .ok (.arraylength, 1) := by decide +kernel
theorem dL_law_27 : decode cL_law 27 = .ok (.iconst 5, 1) := by decide +kernel
theorem dL_law_28 : decode cL_law 28 = .ok (.isub, 1) := by decide +kernel
theorem dL_law_29 : decode cL_law 29 = .ok (.if_icmp .gt 1718, 3) := by decide +kernel
theorem dL_law_32 : decode cL_law 32 = .ok (.aload_n 0, 1) := by decide +kernel
theorem dL_law_33 : decode cL_law 33 = .ok (.iload 4, 2) := by decide +kernel
theorem dL_law_35 : decode cL_law 35 = .ok (.iaload, 1) := by decide +kernel
theorem dL_law_36 : decode cL_law 36 = .ok (.bipush 31, 2) := by decide +kernel
theorem dL_law_38 : decode cL_law 38 = .ok (.iand, 1) := by decide +kernel
theorem dL_law_39 : decode cL_law 39 = .ok (.tableswitch 1702 0 26 #[121, 177, 190, 203, 247, 303, 371, 451, 519, 618, 710, 802, 870, 938, 994, 1062, 1075, 1088, 1132, 1224, 1280, 1293, 1377, 1390, 1490, 1590, 1646], 121) := by decide +kernel
theorem dL_law_160 : decode cL_law 160 = .ok (.aload_n 1, 1) := by decide +kernel
theorem dL_law_161 : decode cL_law 161 = .ok (.aload_n 0, 1) := by decide +kernel
theorem dL_law_162 : decode cL_law 162 = .ok (.iload 4, 2) := by decide +kernel
theorem dL_law_164 : decode cL_law 164 = .ok (.iconst 1, 1) := by decide +kernel
theorem dL_law_165 : decode cL_law 165 = .ok (.iadd, 1) := by decide +kernel
theorem dL_law_166 : decode cL_law 166 = .ok (.iaload, 1) := by decide +kernel
theorem dL_law_167 : decode cL_law 167 = .ok (.aload_n 3, 1) := by decide +kernel
theorem dL_law_168 : decode cL_law 168 = .ok (.invokestatic 91, 3) := by decide +kernel
theorem dL_law_171 : decode cL_law 171 = .ok (.istore 5, 2) := by decide +kernel
theorem dL_law_173 : decode cL_law 173 = .ok (.aload_n 2, 1) := by decide +kernel
theorem dL_law_174 : decode cL_law 174 = .ok (.aload_n 0, 1) := by decide +kernel
theorem dL_law_175 : decode cL_law 175 = .ok (.iload 4, 2) := by decide +kernel
theorem dL_law_177 : decode cL_law 177 = .ok (.iconst 1, 1) := by decide +kernel
theorem dL_law_178 : decode cL_law 178 = .ok (.iadd, 1) := by decide +kernel
theorem dL_law_179 : decode cL_law 179 = .ok (.iaload, 1) := by decide +kernel
theorem dL_law_180 : decode cL_law 180 = .ok (.invokevirtual 96, 3) := by decide +kernel
theorem dL_law_183 : decode cL_law 183 = .ok (.istore 6, 2) := by decide +kernel
theorem dL_law_185 : decode cL_law 185 = .ok (.aload_n 2, 1) := by decide +kernel
theorem dL_law_186 : decode cL_law 186 = .ok (.invokevirtual 97, 3) := by decide +kernel
theorem dL_law_189 : decode cL_law 189 = .ok (.iload 5, 2) := by decide +kernel
theorem dL_law_191 : decode cL_law 191 = .ok (.if_icmp .eq 5, 3) := by decide +kernel
theorem dL_law_194 : decode cL_law 194 = .ok (.iconst 0, 1) := by decide +kernel
theorem dL_law_195 : decode cL_law 195 = .ok (.ireturn, 1) := by decide +kernel
theorem dL_law_196 : decode cL_law 196 = .ok (.iload 5, 2) := by decide +kernel
theorem dL_law_198 : decode cL_law 198 = .ok (.ifCond .ne 15, 3) := by decide +kernel
theorem dL_law_201 : decode cL_law 201 = .ok (.aload_n 3, 1) := by decide +kernel
theorem dL_law_202 : decode cL_law 202 = .ok (.iconst 0, 1) := by decide +kernel
theorem dL_law_203 : decode cL_law 203 = .ok (.laload, 1) := by decide +kernel
theorem dL_law_204 : decode cL_law 204 = .ok (.iload 6, 2) := by decide +kernel
theorem dL_law_206 : decode cL_law 206 = .ok (.i2l, 1) := by decide +kernel
theorem dL_law_207 : decode cL_law 207 = .ok (.lcmp, 1) := by decide +kernel
theorem dL_law_208 : decode cL_law 208 = .ok (.ifCond .eq 5, 3) := by decide +kernel
theorem dL_law_211 : decode cL_law 211 = .ok (.iconst 0, 1) := by decide +kernel
theorem dL_law_212 : decode cL_law 212 = .ok (.ireturn, 1) := by decide +kernel
theorem dL_law_213 : decode cL_law 213 = .ok (.goto 1528, 3) := by decide +kernel
theorem dL_law_216 : decode cL_law 216 = .ok (.aload_n 1, 1) := by decide +kernel
theorem dL_law_217 : decode cL_law 217 = .ok (.invokevirtual 100, 3) := by decide +kernel
theorem dL_law_220 : decode cL_law 220 = .ok (.aload_n 2, 1) := by decide +kernel
theorem dL_law_221 : decode cL_law 221 = .ok (.invokevirtual 103, 3) := by decide +kernel
theorem dL_law_224 : decode cL_law 224 = .ok (.if_icmp .eq 1517, 3) := by decide +kernel
theorem dL_law_227 : decode cL_law 227 = .ok (.iconst 0, 1) := by decide +kernel
theorem dL_law_228 : decode cL_law 228 = .ok (.ireturn, 1) := by decide +kernel
theorem dL_law_229 : decode cL_law 229 = .ok (.aload_n 1, 1) := by decide +kernel
theorem dL_law_230 : decode cL_law 230 = .ok (.invokevirtual 104, 3) := by decide +kernel
theorem dL_law_233 : decode cL_law 233 = .ok (.aload_n 2, 1) := by decide +kernel
theorem dL_law_234 : decode cL_law 234 = .ok (.invokevirtual 107, 3) := by decide +kernel
theorem dL_law_237 : decode cL_law 237 = .ok (.if_icmp .eq 1504, 3) := by decide +kernel
theorem dL_law_240 : decode cL_law 240 = .ok (.iconst 0, 1) := by decide +kernel
theorem dL_law_241 : decode cL_law 241 = .ok (.ireturn, 1) := by decide +kernel
theorem dL_law_242 : decode cL_law 242 = .ok (.aload_n 1, 1) := by decide +kernel
theorem dL_law_243 : decode cL_law 243 = .ok (.aload_n 3, 1) := by decide +kernel
theorem dL_law_244 : decode cL_law 244 = .ok (.invokestatic 108, 3) := by decide +kernel
theorem dL_law_247 : decode cL_law 247 = .ok (.istore 5, 2) := by decide +kernel
theorem dL_law_249 : decode cL_law 249 = .ok (.aload_n 2, 1) := by decide +kernel
theorem dL_law_250 : decode cL_law 250 = .ok (.invokevirtual 111, 3) := by decide +kernel
theorem dL_law_253 : decode cL_law 253 = .ok (.istore 6, 2) := by decide +kernel
theorem dL_law_255 : decode cL_law 255 = .ok (.aload_n 2, 1) := by decide +kernel
theorem dL_law_256 : decode cL_law 256 = .ok (.invokevirtual 97, 3) := by decide +kernel
theorem dL_law_259 : decode cL_law 259 = .ok (.iload 5, 2) := by decide +kernel
theorem dL_law_261 : decode cL_law 261 = .ok (.if_icmp .eq 5, 3) := by decide +kernel
theorem dL_law_264 : decode cL_law 264 = .ok (.iconst 0, 1) := by decide +kernel
theorem dL_law_265 : decode cL_law 265 = .ok (.ireturn, 1) := by decide +kernel
theorem dL_law_266 : decode cL_law 266 = .ok (.iload 5, 2) := by decide +kernel
theorem dL_law_268 : decode cL_law 268 = .ok (.ifCond .ne 15, 3) := by decide +kernel
theorem dL_law_271 : decode cL_law 271 = .ok (.aload_n 3, 1) := by decide +kernel
theorem dL_law_272 : decode cL_law 272 = .ok (.iconst 0, 1) := by decide +kernel
theorem dL_law_273 : decode cL_law 273 = .ok (.laload, 1) := by decide +kernel
theorem dL_law_274 : decode cL_law 274 = .ok (.iload 6, 2) := by decide +kernel
theorem dL_law_276 : decode cL_law 276 = .ok (.i2l, 1) := by decide +kernel
theorem dL_law_277 : decode cL_law 277 = .ok (.lcmp, 1) := by decide +kernel
theorem dL_law_278 : decode cL_law 278 = .ok (.ifCond .eq 5, 3) := by decide +kernel
theorem dL_law_281 : decode cL_law 281 = .ok (.iconst 0, 1) := by decide +kernel
theorem dL_law_282 : decode cL_law 282 = .ok (.ireturn, 1) := by decide +kernel
theorem dL_law_283 : decode cL_law 283 = .ok (.goto 1458, 3) := by decide +kernel
theorem dL_law_286 : decode cL_law 286 = .ok (.aload_n 1, 1) := by decide +kernel
theorem dL_law_287 : decode cL_law 287 = .ok (.aload_n 0, 1) := by decide +kernel
theorem dL_law_288 : decode cL_law 288 = .ok (.iload 4, 2) := by decide +kernel
theorem dL_law_290 : decode cL_law 290 = .ok (.iconst 1, 1) := by decide +kernel
theorem dL_law_291 : decode cL_law 291 = .ok (.iadd, 1) := by decide +kernel
theorem dL_law_292 : decode cL_law 292 = .ok (.iaload, 1) := by decide +kernel
theorem dL_law_293 : decode cL_law 293 = .ok (.aload_n 3, 1) := by decide +kernel
theorem dL_law_294 : decode cL_law 294 = .ok (.invokestatic 112, 3) := by decide +kernel
theorem dL_law_297 : decode cL_law 297 = .ok (.istore 5, 2) := by decide +kernel
theorem dL_law_299 : decode cL_law 299 = .ok (.aload_n 2, 1) := by decide +kernel
theorem dL_law_300 : decode cL_law 300 = .ok (.aload_n 0, 1) := by decide +kernel
theorem dL_law_301 : decode cL_law 301 = .ok (.iload 4, 2) := by decide +kernel
theorem dL_law_303 : decode cL_law 303 = .ok (.iconst 1, 1) := by decide +kernel
theorem dL_law_304 : decode cL_law 304 = .ok (.iadd, 1) := by decide +kernel
theorem dL_law_305 : decode cL_law 305 = .ok (.iaload, 1) := by decide +kernel
theorem dL_law_306 : decode cL_law 306 = .ok (.invokevirtual 114, 3) := by decide +kernel
theorem dL_law_309 : decode cL_law 309 = .ok (.istore 6, 2) := by decide +kernel
theorem dL_law_311 : decode cL_law 311 = .ok (.aload_n 2, 1) := by decide +kernel
theorem dL_law_312 : decode cL_law 312 = .ok (.invokevirtual 97, 3) := by decide +kernel
theorem dL_law_315 : decode cL_law 315 = .ok (.iload 5, 2) := by decide +kernel
theorem dL_law_317 : decode cL_law 317 = .ok (.if_icmp .eq 5, 3) := by decide +kernel
theorem dL_law_320 : decode cL_law 320 = .ok (.iconst 0, 1) := by decide +kernel
theorem dL_law_321 : decode cL_law 321 = .ok (.ireturn, 1) := by decide +kernel
theorem dL_law_322 : decode cL_law 322 = .ok (.iload 5, 2) := by decide +kernel
theorem dL_law_324 : decode cL_law 324 = .ok (.ifCond .ne 15, 3) := by decide +kernel
theorem dL_law_327 : decode cL_law 327 = .ok (.aload_n 3, 1) := by decide +kernel
theorem dL_law_328 : decode cL_law 328 = .ok (.iconst 0, 1) := by decide +kernel
theorem dL_law_329 : decode cL_law 329 = .ok (.laload, 1) := by decide +kernel
theorem dL_law_330 : decode cL_law 330 = .ok (.iload 6, 2) := by decide +kernel
theorem dL_law_332 : decode cL_law 332 = .ok (.i2l, 1) := by decide +kernel
theorem dL_law_333 : decode cL_law 333 = .ok (.lcmp, 1) := by decide +kernel
theorem dL_law_334 : decode cL_law 334 = .ok (.ifCond .eq 5, 3) := by decide +kernel
theorem dL_law_337 : decode cL_law 337 = .ok (.iconst 0, 1) := by decide +kernel
theorem dL_law_338 : decode cL_law 338 = .ok (.ireturn, 1) := by decide +kernel
theorem dL_law_339 : decode cL_law 339 = .ok (.goto 1402, 3) := by decide +kernel
theorem dL_law_342 : decode cL_law 342 = .ok (.aload_n 1, 1) := by decide +kernel
theorem dL_law_343 : decode cL_law 343 = .ok (.aload_n 0, 1) := by decide +kernel
theorem dL_law_344 : decode cL_law 344 = .ok (.iload 4, 2) := by decide +kernel
theorem dL_law_346 : decode cL_law 346 = .ok (.iconst 1, 1) := by decide +kernel
theorem dL_law_347 : decode cL_law 347 = .ok (.iadd, 1) := by decide +kernel
theorem dL_law_348 : decode cL_law 348 = .ok (.iaload, 1) := by decide +kernel
theorem dL_law_349 : decode cL_law 349 = .ok (.aload_n 0, 1) := by decide +kernel
theorem dL_law_350 : decode cL_law 350 = .ok (.iload 4, 2) := by decide +kernel
theorem dL_law_352 : decode cL_law 352 = .ok (.iconst 2, 1) := by decide +kernel
theorem dL_law_353 : decode cL_law 353 = .ok (.iadd, 1) := by decide +kernel
theorem dL_law_354 : decode cL_law 354 = .ok (.iaload, 1) := by decide +kernel
theorem dL_law_355 : decode cL_law 355 = .ok (.aload_n 3, 1) := by decide +kernel
theorem dL_law_356 : decode cL_law 356 = .ok (.invokestatic 115, 3) := by decide +kernel
theorem dL_law_359 : decode cL_law 359 = .ok (.istore 5, 2) := by decide +kernel
theorem dL_law_361 : decode cL_law 361 = .ok (.aload_n 2, 1) := by decide +kernel
theorem dL_law_362 : decode cL_law 362 = .ok (.aload_n 0, 1) := by decide +kernel
theorem dL_law_363 : decode cL_law 363 = .ok (.iload 4, 2) := by decide +kernel
theorem dL_law_365 : decode cL_law 365 = .ok (.iconst 1, 1) := by decide +kernel
theorem dL_law_366 : decode cL_law 366 = .ok (.iadd, 1) := by decide +kernel
theorem dL_law_367 : decode cL_law 367 = .ok (.iaload, 1) := by decide +kernel
theorem dL_law_368 : decode cL_law 368 = .ok (.aload_n 0, 1) := by decide +kernel
theorem dL_law_369 : decode cL_law 369 = .ok (.iload 4, 2) := by decide +kernel
theorem dL_law_371 : decode cL_law 371 = .ok (.iconst 2, 1) := by decide +kernel
theorem dL_law_372 : decode cL_law 372 = .ok (.iadd, 1) := by decide +kernel
theorem dL_law_373 : decode cL_law 373 = .ok (.iaload, 1) := by decide +kernel
theorem dL_law_374 : decode cL_law 374 = .ok (.invokevirtual 118, 3) := by decide +kernel
theorem dL_law_377 : decode cL_law 377 = .ok (.istore 6, 2) := by decide +kernel
theorem dL_law_379 : decode cL_law 379 = .ok (.aload_n 2, 1) := by decide +kernel
theorem dL_law_380 : decode cL_law 380 = .ok (.invokevirtual 97, 3) := by decide +kernel
theorem dL_law_383 : decode cL_law 383 = .ok (.iload 5, 2) := by decide +kernel
theorem dL_law_385 : decode cL_law 385 = .ok (.if_icmp .eq 5, 3) := by decide +kernel
theorem dL_law_388 : decode cL_law 388 = .ok (.iconst 0, 1) := by decide +kernel
theorem dL_law_389 : decode cL_law 389 = .ok (.ireturn, 1) := by decide +kernel
theorem dL_law_390 : decode cL_law 390 = .ok (.iload 5, 2) := by decide +kernel
theorem dL_law_392 : decode cL_law 392 = .ok (.ifCond .ne 15, 3) := by decide +kernel
theorem dL_law_395 : decode cL_law 395 = .ok (.aload_n 3, 1) := by decide +kernel
theorem dL_law_396 : decode cL_law 396 = .ok (.iconst 0, 1) := by decide +kernel
theorem dL_law_397 : decode cL_law 397 = .ok (.laload, 1) := by decide +kernel
theorem dL_law_398 : decode cL_law 398 = .ok (.iload 6, 2) := by decide +kernel
theorem dL_law_400 : decode cL_law 400 = .ok (.i2l, 1) := by decide +kernel
theorem dL_law_401 : decode cL_law 401 = .ok (.lcmp, 1) := by decide +kernel
theorem dL_law_402 : decode cL_law 402 = .ok (.ifCond .eq 5, 3) := by decide +kernel
theorem dL_law_405 : decode cL_law 405 = .ok (.iconst 0, 1) := by decide +kernel
theorem dL_law_406 : decode cL_law 406 = .ok (.ireturn, 1) := by decide +kernel
theorem dL_law_407 : decode cL_law 407 = .ok (.goto 1334, 3) := by decide +kernel
theorem dL_law_410 : decode cL_law 410 = .ok (.aload_n 1, 1) := by decide +kernel
theorem dL_law_411 : decode cL_law 411 = .ok (.aload_n 0, 1) := by decide +kernel
theorem dL_law_412 : decode cL_law 412 = .ok (.iload 4, 2) := by decide +kernel
theorem dL_law_414 : decode cL_law 414 = .ok (.iconst 1, 1) := by decide +kernel
theorem dL_law_415 : decode cL_law 415 = .ok (.iadd, 1) := by decide +kernel
theorem dL_law_416 : decode cL_law 416 = .ok (.iaload, 1) := by decide +kernel
theorem dL_law_417 : decode cL_law 417 = .ok (.aload_n 0, 1) := by decide +kernel
theorem dL_law_418 : decode cL_law 418 = .ok (.iload 4, 2) := by decide +kernel
theorem dL_law_420 : decode cL_law 420 = .ok (.iconst 2, 1) := by decide +kernel
theorem dL_law_421 : decode cL_law 421 = .ok (.iadd, 1) := by decide +kernel
theorem dL_law_422 : decode cL_law 422 = .ok (.iaload, 1) := by decide +kernel
theorem dL_law_423 : decode cL_law 423 = .ok (.aload_n 0, 1) := by decide +kernel
theorem dL_law_424 : decode cL_law 424 = .ok (.iload 4, 2) := by decide +kernel
theorem dL_law_426 : decode cL_law 426 = .ok (.iconst 3, 1) := by decide +kernel
theorem dL_law_427 : decode cL_law 427 = .ok (.iadd, 1) := by decide +kernel
theorem dL_law_428 : decode cL_law 428 = .ok (.iaload, 1) := by decide +kernel
theorem dL_law_429 : decode cL_law 429 = .ok (.aload_n 3, 1) := by decide +kernel
theorem dL_law_430 : decode cL_law 430 = .ok (.invokestatic 119, 3) := by decide +kernel
theorem dL_law_433 : decode cL_law 433 = .ok (.istore 5, 2) := by decide +kernel
theorem dL_law_435 : decode cL_law 435 = .ok (.aload_n 2, 1) := by decide +kernel
theorem dL_law_436 : decode cL_law 436 = .ok (.aload_n 0, 1) := by decide +kernel
theorem dL_law_437 : decode cL_law 437 = .ok (.iload 4, 2) := by decide +kernel
theorem dL_law_439 : decode cL_law 439 = .ok (.iconst 1, 1) := by decide +kernel
theorem dL_law_440 : decode cL_law 440 = .ok (.iadd, 1) := by decide +kernel
theorem dL_law_441 : decode cL_law 441 = .ok (.iaload, 1) := by decide +kernel
theorem dL_law_442 : decode cL_law 442 = .ok (.aload_n 0, 1) := by decide +kernel
theorem dL_law_443 : decode cL_law 443 = .ok (.iload 4, 2) := by decide +kernel
theorem dL_law_445 : decode cL_law 445 = .ok (.iconst 2, 1) := by decide +kernel
theorem dL_law_446 : decode cL_law 446 = .ok (.iadd, 1) := by decide +kernel
theorem dL_law_447 : decode cL_law 447 = .ok (.iaload, 1) := by decide +kernel
theorem dL_law_448 : decode cL_law 448 = .ok (.aload_n 0, 1) := by decide +kernel
theorem dL_law_449 : decode cL_law 449 = .ok (.iload 4, 2) := by decide +kernel
theorem dL_law_451 : decode cL_law 451 = .ok (.iconst 3, 1) := by decide +kernel
theorem dL_law_452 : decode cL_law 452 = .ok (.iadd, 1) := by decide +kernel
theorem dL_law_453 : decode cL_law 453 = .ok (.iaload, 1) := by decide +kernel
theorem dL_law_454 : decode cL_law 454 = .ok (.invokevirtual 122, 3) := by decide +kernel
theorem dL_law_457 : decode cL_law 457 = .ok (.istore 6, 2) := by decide +kernel
theorem dL_law_459 : decode cL_law 459 = .ok (.aload_n 2, 1) := by decide +kernel
theorem dL_law_460 : decode cL_law 460 = .ok (.invokevirtual 97, 3) := by decide +kernel
theorem dL_law_463 : decode cL_law 463 = .ok (.iload 5, 2) := by decide +kernel
theorem dL_law_465 : decode cL_law 465 = .ok (.if_icmp .eq 5, 3) := by decide +kernel
theorem dL_law_468 : decode cL_law 468 = .ok (.iconst 0, 1) := by decide +kernel
theorem dL_law_469 : decode cL_law 469 = .ok (.ireturn, 1) := by decide +kernel
theorem dL_law_470 : decode cL_law 470 = .ok (.iload 5, 2) := by decide +kernel
theorem dL_law_472 : decode cL_law 472 = .ok (.ifCond .ne 15, 3) := by decide +kernel
theorem dL_law_475 : decode cL_law 475 = .ok (.aload_n 3, 1) := by decide +kernel
theorem dL_law_476 : decode cL_law 476 = .ok (.iconst 0, 1) := by decide +kernel
theorem dL_law_477 : decode cL_law 477 = .ok (.laload, 1) := by decide +kernel
theorem dL_law_478 : decode cL_law 478 = .ok (.iload 6, 2) := by decide +kernel
theorem dL_law_480 : decode cL_law 480 = .ok (.i2l, 1) := by decide +kernel
theorem dL_law_481 : decode cL_law 481 = .ok (.lcmp, 1) := by decide +kernel
theorem dL_law_482 : decode cL_law 482 = .ok (.ifCond .eq 5, 3) := by decide +kernel
theorem dL_law_485 : decode cL_law 485 = .ok (.iconst 0, 1) := by decide +kernel
theorem dL_law_486 : decode cL_law 486 = .ok (.ireturn, 1) := by decide +kernel
theorem dL_law_487 : decode cL_law 487 = .ok (.goto 1254, 3) := by decide +kernel
theorem dL_law_490 : decode cL_law 490 = .ok (.aload_n 1, 1) := by decide +kernel
theorem dL_law_491 : decode cL_law 491 = .ok (.aload_n 0, 1) := by decide +kernel
theorem dL_law_492 : decode cL_law 492 = .ok (.iload 4, 2) := by decide +kernel
theorem dL_law_494 : decode cL_law 494 = .ok (.iconst 1, 1) := by decide +kernel
theorem dL_law_495 : decode cL_law 495 = .ok (.iadd, 1) := by decide +kernel
theorem dL_law_496 : decode cL_law 496 = .ok (.iaload, 1) := by decide +kernel
theorem dL_law_497 : decode cL_law 497 = .ok (.aload_n 0, 1) := by decide +kernel
theorem dL_law_498 : decode cL_law 498 = .ok (.iload 4, 2) := by decide +kernel
theorem dL_law_500 : decode cL_law 500 = .ok (.iconst 2, 1) := by decide +kernel
theorem dL_law_501 : decode cL_law 501 = .ok (.iadd, 1) := by decide +kernel
theorem dL_law_502 : decode cL_law 502 = .ok (.iaload, 1) := by decide +kernel
theorem dL_law_503 : decode cL_law 503 = .ok (.aload_n 3, 1) := by decide +kernel
theorem dL_law_504 : decode cL_law 504 = .ok (.invokestatic 123, 3) := by decide +kernel
theorem dL_law_507 : decode cL_law 507 = .ok (.istore 5, 2) := by decide +kernel
theorem dL_law_509 : decode cL_law 509 = .ok (.aload_n 2, 1) := by decide +kernel
theorem dL_law_510 : decode cL_law 510 = .ok (.aload_n 0, 1) := by decide +kernel
theorem dL_law_511 : decode cL_law 511 = .ok (.iload 4, 2) := by decide +kernel
theorem dL_law_513 : decode cL_law 513 = .ok (.iconst 1, 1) := by decide +kernel
theorem dL_law_514 : decode cL_law 514 = .ok (.iadd, 1) := by decide +kernel
theorem dL_law_515 : decode cL_law 515 = .ok (.iaload, 1) := by decide +kernel
theorem dL_law_516 : decode cL_law 516 = .ok (.aload_n 0, 1) := by decide +kernel
theorem dL_law_517 : decode cL_law 517 = .ok (.iload 4, 2) := by decide +kernel
theorem dL_law_519 : decode cL_law 519 = .ok (.iconst 2, 1) := by decide +kernel
theorem dL_law_520 : decode cL_law 520 = .ok (.iadd, 1) := by decide +kernel
theorem dL_law_521 : decode cL_law 521 = .ok (.iaload, 1) := by decide +kernel
theorem dL_law_522 : decode cL_law 522 = .ok (.invokevirtual 125, 3) := by decide +kernel
theorem dL_law_525 : decode cL_law 525 = .ok (.istore 6, 2) := by decide +kernel
theorem dL_law_527 : decode cL_law 527 = .ok (.aload_n 2, 1) := by decide +kernel
theorem dL_law_528 : decode cL_law 528 = .ok (.invokevirtual 97, 3) := by decide +kernel
theorem dL_law_531 : decode cL_law 531 = .ok (.iload 5, 2) := by decide +kernel
theorem dL_law_533 : decode cL_law 533 = .ok (.if_icmp .eq 5, 3) := by decide +kernel
theorem dL_law_536 : decode cL_law 536 = .ok (.iconst 0, 1) := by decide +kernel
theorem dL_law_537 : decode cL_law 537 = .ok (.ireturn, 1) := by decide +kernel
theorem dL_law_538 : decode cL_law 538 = .ok (.iload 5, 2) := by decide +kernel
theorem dL_law_540 : decode cL_law 540 = .ok (.ifCond .ne 15, 3) := by decide +kernel
theorem dL_law_543 : decode cL_law 543 = .ok (.aload_n 3, 1) := by decide +kernel
theorem dL_law_544 : decode cL_law 544 = .ok (.iconst 0, 1) := by decide +kernel
theorem dL_law_545 : decode cL_law 545 = .ok (.laload, 1) := by decide +kernel
theorem dL_law_546 : decode cL_law 546 = .ok (.iload 6, 2) := by decide +kernel
theorem dL_law_548 : decode cL_law 548 = .ok (.i2l, 1) := by decide +kernel
theorem dL_law_549 : decode cL_law 549 = .ok (.lcmp, 1) := by decide +kernel
theorem dL_law_550 : decode cL_law 550 = .ok (.ifCond .eq 5, 3) := by decide +kernel
theorem dL_law_553 : decode cL_law 553 = .ok (.iconst 0, 1) := by decide +kernel
theorem dL_law_554 : decode cL_law 554 = .ok (.ireturn, 1) := by decide +kernel
theorem dL_law_555 : decode cL_law 555 = .ok (.goto 1186, 3) := by decide +kernel
theorem dL_law_558 : decode cL_law 558 = .ok (.aload_n 1, 1) := by decide +kernel
theorem dL_law_559 : decode cL_law 559 = .ok (.aload_n 0, 1) := by decide +kernel
theorem dL_law_560 : decode cL_law 560 = .ok (.iload 4, 2) := by decide +kernel
theorem dL_law_562 : decode cL_law 562 = .ok (.iconst 1, 1) := by decide +kernel
theorem dL_law_563 : decode cL_law 563 = .ok (.iadd, 1) := by decide +kernel
theorem dL_law_564 : decode cL_law 564 = .ok (.iaload, 1) := by decide +kernel
theorem dL_law_565 : decode cL_law 565 = .ok (.aload_n 0, 1) := by decide +kernel
theorem dL_law_566 : decode cL_law 566 = .ok (.iload 4, 2) := by decide +kernel
theorem dL_law_568 : decode cL_law 568 = .ok (.iconst 2, 1) := by decide +kernel
theorem dL_law_569 : decode cL_law 569 = .ok (.iadd, 1) := by decide +kernel
theorem dL_law_570 : decode cL_law 570 = .ok (.iaload, 1) := by decide +kernel
theorem dL_law_571 : decode cL_law 571 = .ok (.aload_n 0, 1) := by decide +kernel
theorem dL_law_572 : decode cL_law 572 = .ok (.iload 4, 2) := by decide +kernel
theorem dL_law_574 : decode cL_law 574 = .ok (.iconst 3, 1) := by decide +kernel
theorem dL_law_575 : decode cL_law 575 = .ok (.iadd, 1) := by decide +kernel
theorem dL_law_576 : decode cL_law 576 = .ok (.iaload, 1) := by decide +kernel
theorem dL_law_577 : decode cL_law 577 = .ok (.aload_n 0, 1) := by decide +kernel
theorem dL_law_578 : decode cL_law 578 = .ok (.iload 4, 2) := by decide +kernel
theorem dL_law_580 : decode cL_law 580 = .ok (.iconst 4, 1) := by decide +kernel
theorem dL_law_581 : decode cL_law 581 = .ok (.iadd, 1) := by decide +kernel
theorem dL_law_582 : decode cL_law 582 = .ok (.iaload, 1) := by decide +kernel
theorem dL_law_583 : decode cL_law 583 = .ok (.aload_n 3, 1) := by decide +kernel
theorem dL_law_584 : decode cL_law 584 = .ok (.invokestatic 126, 3) := by decide +kernel
theorem dL_law_587 : decode cL_law 587 = .ok (.istore 5, 2) := by decide +kernel
theorem dL_law_589 : decode cL_law 589 = .ok (.aload_n 2, 1) := by decide +kernel
theorem dL_law_590 : decode cL_law 590 = .ok (.aload_n 0, 1) := by decide +kernel
theorem dL_law_591 : decode cL_law 591 = .ok (.iload 4, 2) := by decide +kernel
theorem dL_law_593 : decode cL_law 593 = .ok (.iconst 1, 1) := by decide +kernel
theorem dL_law_594 : decode cL_law 594 = .ok (.iadd, 1) := by decide +kernel
theorem dL_law_595 : decode cL_law 595 = .ok (.iaload, 1) := by decide +kernel
theorem dL_law_596 : decode cL_law 596 = .ok (.aload_n 0, 1) := by decide +kernel
theorem dL_law_597 : decode cL_law 597 = .ok (.iload 4, 2) := by decide +kernel
theorem dL_law_599 : decode cL_law 599 = .ok (.iconst 2, 1) := by decide +kernel
theorem dL_law_600 : decode cL_law 600 = .ok (.iadd, 1) := by decide +kernel
theorem dL_law_601 : decode cL_law 601 = .ok (.iaload, 1) := by decide +kernel
theorem dL_law_602 : decode cL_law 602 = .ok (.aload_n 0, 1) := by decide +kernel
theorem dL_law_603 : decode cL_law 603 = .ok (.iload 4, 2) := by decide +kernel
theorem dL_law_605 : decode cL_law 605 = .ok (.iconst 3, 1) := by decide +kernel
theorem dL_law_606 : decode cL_law 606 = .ok (.iadd, 1) := by decide +kernel
theorem dL_law_607 : decode cL_law 607 = .ok (.iaload, 1) := by decide +kernel
theorem dL_law_608 : decode cL_law 608 = .ok (.aload_n 0, 1) := by decide +kernel
theorem dL_law_609 : decode cL_law 609 = .ok (.iload 4, 2) := by decide +kernel
theorem dL_law_611 : decode cL_law 611 = .ok (.iconst 4, 1) := by decide +kernel
theorem dL_law_612 : decode cL_law 612 = .ok (.iadd, 1) := by decide +kernel
theorem dL_law_613 : decode cL_law 613 = .ok (.iaload, 1) := by decide +kernel
theorem dL_law_614 : decode cL_law 614 = .ok (.invokevirtual 129, 3) := by decide +kernel
theorem dL_law_617 : decode cL_law 617 = .ok (.istore 6, 2) := by decide +kernel
theorem dL_law_619 : decode cL_law 619 = .ok (.aload_n 2, 1) := by decide +kernel
theorem dL_law_620 : decode cL_law 620 = .ok (.invokevirtual 97, 3) := by decide +kernel
theorem dL_law_623 : decode cL_law 623 = .ok (.iload 5, 2) := by decide +kernel
theorem dL_law_625 : decode cL_law 625 = .ok (.if_icmp .eq 5, 3) := by decide +kernel
theorem dL_law_628 : decode cL_law 628 = .ok (.iconst 0, 1) := by decide +kernel
theorem dL_law_629 : decode cL_law 629 = .ok (.ireturn, 1) := by decide +kernel
theorem dL_law_630 : decode cL_law 630 = .ok (.iload 5, 2) := by decide +kernel
theorem dL_law_632 : decode cL_law 632 = .ok (.ifCond .ne 22, 3) := by decide +kernel
theorem dL_law_635 : decode cL_law 635 = .ok (.aload_n 3, 1) := by decide +kernel
theorem dL_law_636 : decode cL_law 636 = .ok (.iconst 0, 1) := by decide +kernel
theorem dL_law_637 : decode cL_law 637 = .ok (.laload, 1) := by decide +kernel
theorem dL_law_638 : decode cL_law 638 = .ok (.iload 6, 2) := by decide +kernel
theorem dL_law_640 : decode cL_law 640 = .ok (.ifCond .eq 7, 3) := by decide +kernel
theorem dL_law_643 : decode cL_law 643 = .ok (.lconst 1, 1) := by decide +kernel
theorem dL_law_644 : decode cL_law 644 = .ok (.goto 4, 3) := by decide +kernel
theorem dL_law_647 : decode cL_law 647 = .ok (.lconst 0, 1) := by decide +kernel
theorem dL_law_648 : decode cL_law 648 = .ok (.lcmp, 1) := by decide +kernel
theorem dL_law_649 : decode cL_law 649 = .ok (.ifCond .eq 5, 3) := by decide +kernel
theorem dL_law_652 : decode cL_law 652 = .ok (.iconst 0, 1) := by decide +kernel
theorem dL_law_653 : decode cL_law 653 = .ok (.ireturn, 1) := by decide +kernel
theorem dL_law_654 : decode cL_law 654 = .ok (.goto 1087, 3) := by decide +kernel
theorem dL_law_657 : decode cL_law 657 = .ok (.aload_n 1, 1) := by decide +kernel
theorem dL_law_658 : decode cL_law 658 = .ok (.aload_n 0, 1) := by decide +kernel
theorem dL_law_659 : decode cL_law 659 = .ok (.iload 4, 2) := by decide +kernel
theorem dL_law_661 : decode cL_law 661 = .ok (.iconst 1, 1) := by decide +kernel
theorem dL_law_662 : decode cL_law 662 = .ok (.iadd, 1) := by decide +kernel
theorem dL_law_663 : decode cL_law 663 = .ok (.iaload, 1) := by decide +kernel
theorem dL_law_664 : decode cL_law 664 = .ok (.aload_n 0, 1) := by decide +kernel
theorem dL_law_665 : decode cL_law 665 = .ok (.iload 4, 2) := by decide +kernel
theorem dL_law_667 : decode cL_law 667 = .ok (.iconst 2, 1) := by decide +kernel
theorem dL_law_668 : decode cL_law 668 = .ok (.iadd, 1) := by decide +kernel
theorem dL_law_669 : decode cL_law 669 = .ok (.iaload, 1) := by decide +kernel
theorem dL_law_670 : decode cL_law 670 = .ok (.aload_n 0, 1) := by decide +kernel
theorem dL_law_671 : decode cL_law 671 = .ok (.iload 4, 2) := by decide +kernel
theorem dL_law_673 : decode cL_law 673 = .ok (.iconst 3, 1) := by decide +kernel
theorem dL_law_674 : decode cL_law 674 = .ok (.iadd, 1) := by decide +kernel
theorem dL_law_675 : decode cL_law 675 = .ok (.iaload, 1) := by decide +kernel
theorem dL_law_676 : decode cL_law 676 = .ok (.aload_n 0, 1) := by decide +kernel
theorem dL_law_677 : decode cL_law 677 = .ok (.iload 4, 2) := by decide +kernel
theorem dL_law_679 : decode cL_law 679 = .ok (.iconst 4, 1) := by decide +kernel
theorem dL_law_680 : decode cL_law 680 = .ok (.iadd, 1) := by decide +kernel
theorem dL_law_681 : decode cL_law 681 = .ok (.iaload, 1) := by decide +kernel
theorem dL_law_682 : decode cL_law 682 = .ok (.aload_n 3, 1) := by decide +kernel
theorem dL_law_683 : decode cL_law 683 = .ok (.invokestatic 130, 3) := by decide +kernel
theorem dL_law_686 : decode cL_law 686 = .ok (.istore 5, 2) := by decide +kernel
theorem dL_law_688 : decode cL_law 688 = .ok (.aload_n 2, 1) := by decide +kernel
theorem dL_law_689 : decode cL_law 689 = .ok (.aload_n 0, 1) := by decide +kernel
theorem dL_law_690 : decode cL_law 690 = .ok (.iload 4, 2) := by decide +kernel
theorem dL_law_692 : decode cL_law 692 = .ok (.iconst 1, 1) := by decide +kernel
theorem dL_law_693 : decode cL_law 693 = .ok (.iadd, 1) := by decide +kernel
theorem dL_law_694 : decode cL_law 694 = .ok (.iaload, 1) := by decide +kernel
theorem dL_law_695 : decode cL_law 695 = .ok (.aload_n 0, 1) := by decide +kernel
theorem dL_law_696 : decode cL_law 696 = .ok (.iload 4, 2) := by decide +kernel
theorem dL_law_698 : decode cL_law 698 = .ok (.iconst 2, 1) := by decide +kernel
theorem dL_law_699 : decode cL_law 699 = .ok (.iadd, 1) := by decide +kernel
theorem dL_law_700 : decode cL_law 700 = .ok (.iaload, 1) := by decide +kernel
theorem dL_law_701 : decode cL_law 701 = .ok (.aload_n 0, 1) := by decide +kernel
theorem dL_law_702 : decode cL_law 702 = .ok (.iload 4, 2) := by decide +kernel
theorem dL_law_704 : decode cL_law 704 = .ok (.iconst 3, 1) := by decide +kernel
theorem dL_law_705 : decode cL_law 705 = .ok (.iadd, 1) := by decide +kernel
theorem dL_law_706 : decode cL_law 706 = .ok (.iaload, 1) := by decide +kernel
theorem dL_law_707 : decode cL_law 707 = .ok (.aload_n 0, 1) := by decide +kernel
theorem dL_law_708 : decode cL_law 708 = .ok (.iload 4, 2) := by decide +kernel
theorem dL_law_710 : decode cL_law 710 = .ok (.iconst 4, 1) := by decide +kernel
theorem dL_law_711 : decode cL_law 711 = .ok (.iadd, 1) := by decide +kernel
theorem dL_law_712 : decode cL_law 712 = .ok (.iaload, 1) := by decide +kernel
theorem dL_law_713 : decode cL_law 713 = .ok (.invokevirtual 132, 3) := by decide +kernel
theorem dL_law_716 : decode cL_law 716 = .ok (.istore 6, 2) := by decide +kernel
theorem dL_law_718 : decode cL_law 718 = .ok (.aload_n 2, 1) := by decide +kernel
theorem dL_law_719 : decode cL_law 719 = .ok (.invokevirtual 97, 3) := by decide +kernel
theorem dL_law_722 : decode cL_law 722 = .ok (.iload 5, 2) := by decide +kernel
theorem dL_law_724 : decode cL_law 724 = .ok (.if_icmp .eq 5, 3) := by decide +kernel
theorem dL_law_727 : decode cL_law 727 = .ok (.iconst 0, 1) := by decide +kernel
theorem dL_law_728 : decode cL_law 728 = .ok (.ireturn, 1) := by decide +kernel
theorem dL_law_729 : decode cL_law 729 = .ok (.iload 5, 2) := by decide +kernel
theorem dL_law_731 : decode cL_law 731 = .ok (.ifCond .ne 15, 3) := by decide +kernel
theorem dL_law_734 : decode cL_law 734 = .ok (.aload_n 3, 1) := by decide +kernel
theorem dL_law_735 : decode cL_law 735 = .ok (.iconst 0, 1) := by decide +kernel
theorem dL_law_736 : decode cL_law 736 = .ok (.laload, 1) := by decide +kernel
theorem dL_law_737 : decode cL_law 737 = .ok (.iload 6, 2) := by decide +kernel
theorem dL_law_739 : decode cL_law 739 = .ok (.i2l, 1) := by decide +kernel
theorem dL_law_740 : decode cL_law 740 = .ok (.lcmp, 1) := by decide +kernel
theorem dL_law_741 : decode cL_law 741 = .ok (.ifCond .eq 5, 3) := by decide +kernel
theorem dL_law_744 : decode cL_law 744 = .ok (.iconst 0, 1) := by decide +kernel
theorem dL_law_745 : decode cL_law 745 = .ok (.ireturn, 1) := by decide +kernel
theorem dL_law_746 : decode cL_law 746 = .ok (.goto 995, 3) := by decide +kernel
theorem dL_law_749 : decode cL_law 749 = .ok (.aload_n 1, 1) := by decide +kernel
theorem dL_law_750 : decode cL_law 750 = .ok (.aload_n 0, 1) := by decide +kernel
theorem dL_law_751 : decode cL_law 751 = .ok (.iload 4, 2) := by decide +kernel
theorem dL_law_753 : decode cL_law 753 = .ok (.iconst 1, 1) := by decide +kernel
theorem dL_law_754 : decode cL_law 754 = .ok (.iadd, 1) := by decide +kernel
theorem dL_law_755 : decode cL_law 755 = .ok (.iaload, 1) := by decide +kernel
theorem dL_law_756 : decode cL_law 756 = .ok (.aload_n 0, 1) := by decide +kernel
theorem dL_law_757 : decode cL_law 757 = .ok (.iload 4, 2) := by decide +kernel
theorem dL_law_759 : decode cL_law 759 = .ok (.iconst 2, 1) := by decide +kernel
theorem dL_law_760 : decode cL_law 760 = .ok (.iadd, 1) := by decide +kernel
theorem dL_law_761 : decode cL_law 761 = .ok (.iaload, 1) := by decide +kernel
theorem dL_law_762 : decode cL_law 762 = .ok (.aload_n 0, 1) := by decide +kernel
theorem dL_law_763 : decode cL_law 763 = .ok (.iload 4, 2) := by decide +kernel
theorem dL_law_765 : decode cL_law 765 = .ok (.iconst 3, 1) := by decide +kernel
theorem dL_law_766 : decode cL_law 766 = .ok (.iadd, 1) := by decide +kernel
theorem dL_law_767 : decode cL_law 767 = .ok (.iaload, 1) := by decide +kernel
theorem dL_law_768 : decode cL_law 768 = .ok (.aload_n 0, 1) := by decide +kernel
theorem dL_law_769 : decode cL_law 769 = .ok (.iload 4, 2) := by decide +kernel
theorem dL_law_771 : decode cL_law 771 = .ok (.iconst 4, 1) := by decide +kernel
theorem dL_law_772 : decode cL_law 772 = .ok (.iadd, 1) := by decide +kernel
theorem dL_law_773 : decode cL_law 773 = .ok (.iaload, 1) := by decide +kernel
theorem dL_law_774 : decode cL_law 774 = .ok (.aload_n 3, 1) := by decide +kernel
theorem dL_law_775 : decode cL_law 775 = .ok (.invokestatic 133, 3) := by decide +kernel
theorem dL_law_778 : decode cL_law 778 = .ok (.istore 5, 2) := by decide +kernel
theorem dL_law_780 : decode cL_law 780 = .ok (.aload_n 2, 1) := by decide +kernel
theorem dL_law_781 : decode cL_law 781 = .ok (.aload_n 0, 1) := by decide +kernel
theorem dL_law_782 : decode cL_law 782 = .ok (.iload 4, 2) := by decide +kernel
theorem dL_law_784 : decode cL_law 784 = .ok (.iconst 1, 1) := by decide +kernel
theorem dL_law_785 : decode cL_law 785 = .ok (.iadd, 1) := by decide +kernel
theorem dL_law_786 : decode cL_law 786 = .ok (.iaload, 1) := by decide +kernel
theorem dL_law_787 : decode cL_law 787 = .ok (.aload_n 0, 1) := by decide +kernel
theorem dL_law_788 : decode cL_law 788 = .ok (.iload 4, 2) := by decide +kernel
theorem dL_law_790 : decode cL_law 790 = .ok (.iconst 2, 1) := by decide +kernel
theorem dL_law_791 : decode cL_law 791 = .ok (.iadd, 1) := by decide +kernel
theorem dL_law_792 : decode cL_law 792 = .ok (.iaload, 1) := by decide +kernel
theorem dL_law_793 : decode cL_law 793 = .ok (.aload_n 0, 1) := by decide +kernel
theorem dL_law_794 : decode cL_law 794 = .ok (.iload 4, 2) := by decide +kernel
theorem dL_law_796 : decode cL_law 796 = .ok (.iconst 3, 1) := by decide +kernel
theorem dL_law_797 : decode cL_law 797 = .ok (.iadd, 1) := by decide +kernel
theorem dL_law_798 : decode cL_law 798 = .ok (.iaload, 1) := by decide +kernel
theorem dL_law_799 : decode cL_law 799 = .ok (.aload_n 0, 1) := by decide +kernel
theorem dL_law_800 : decode cL_law 800 = .ok (.iload 4, 2) := by decide +kernel
theorem dL_law_802 : decode cL_law 802 = .ok (.iconst 4, 1) := by decide +kernel
theorem dL_law_803 : decode cL_law 803 = .ok (.iadd, 1) := by decide +kernel
theorem dL_law_804 : decode cL_law 804 = .ok (.iaload, 1) := by decide +kernel
theorem dL_law_805 : decode cL_law 805 = .ok (.invokevirtual 135, 3) := by decide +kernel
theorem dL_law_808 : decode cL_law 808 = .ok (.istore 6, 2) := by decide +kernel
theorem dL_law_810 : decode cL_law 810 = .ok (.aload_n 2, 1) := by decide +kernel
theorem dL_law_811 : decode cL_law 811 = .ok (.invokevirtual 97, 3) := by decide +kernel
theorem dL_law_814 : decode cL_law 814 = .ok (.iload 5, 2) := by decide +kernel
theorem dL_law_816 : decode cL_law 816 = .ok (.if_icmp .eq 5, 3) := by decide +kernel
theorem dL_law_819 : decode cL_law 819 = .ok (.iconst 0, 1) := by decide +kernel
theorem dL_law_820 : decode cL_law 820 = .ok (.ireturn, 1) := by decide +kernel
theorem dL_law_821 : decode cL_law 821 = .ok (.iload 5, 2) := by decide +kernel
theorem dL_law_823 : decode cL_law 823 = .ok (.ifCond .ne 15, 3) := by decide +kernel
theorem dL_law_826 : decode cL_law 826 = .ok (.aload_n 3, 1) := by decide +kernel
theorem dL_law_827 : decode cL_law 827 = .ok (.iconst 0, 1) := by decide +kernel
theorem dL_law_828 : decode cL_law 828 = .ok (.laload, 1) := by decide +kernel
theorem dL_law_829 : decode cL_law 829 = .ok (.iload 6, 2) := by decide +kernel
theorem dL_law_831 : decode cL_law 831 = .ok (.i2l, 1) := by decide +kernel
theorem dL_law_832 : decode cL_law 832 = .ok (.lcmp, 1) := by decide +kernel
theorem dL_law_833 : decode cL_law 833 = .ok (.ifCond .eq 5, 3) := by decide +kernel
theorem dL_law_836 : decode cL_law 836 = .ok (.iconst 0, 1) := by decide +kernel
theorem dL_law_837 : decode cL_law 837 = .ok (.ireturn, 1) := by decide +kernel
theorem dL_law_838 : decode cL_law 838 = .ok (.goto 903, 3) := by decide +kernel
theorem dL_law_841 : decode cL_law 841 = .ok (.aload_n 1, 1) := by decide +kernel
theorem dL_law_842 : decode cL_law 842 = .ok (.aload_n 0, 1) := by decide +kernel
theorem dL_law_843 : decode cL_law 843 = .ok (.iload 4, 2) := by decide +kernel
theorem dL_law_845 : decode cL_law 845 = .ok (.iconst 1, 1) := by decide +kernel
theorem dL_law_846 : decode cL_law 846 = .ok (.iadd, 1) := by decide +kernel
theorem dL_law_847 : decode cL_law 847 = .ok (.iaload, 1) := by decide +kernel
theorem dL_law_848 : decode cL_law 848 = .ok (.aload_n 0, 1) := by decide +kernel
theorem dL_law_849 : decode cL_law 849 = .ok (.iload 4, 2) := by decide +kernel
theorem dL_law_851 : decode cL_law 851 = .ok (.iconst 2, 1) := by decide +kernel
theorem dL_law_852 : decode cL_law 852 = .ok (.iadd, 1) := by decide +kernel
theorem dL_law_853 : decode cL_law 853 = .ok (.iaload, 1) := by decide +kernel
theorem dL_law_854 : decode cL_law 854 = .ok (.aload_n 3, 1) := by decide +kernel
theorem dL_law_855 : decode cL_law 855 = .ok (.invokestatic 136, 3) := by decide +kernel
theorem dL_law_858 : decode cL_law 858 = .ok (.istore 5, 2) := by decide +kernel
theorem dL_law_860 : decode cL_law 860 = .ok (.aload_n 2, 1) := by decide +kernel
theorem dL_law_861 : decode cL_law 861 = .ok (.aload_n 0, 1) := by decide +kernel
theorem dL_law_862 : decode cL_law 862 = .ok (.iload 4, 2) := by decide +kernel
theorem dL_law_864 : decode cL_law 864 = .ok (.iconst 1, 1) := by decide +kernel
theorem dL_law_865 : decode cL_law 865 = .ok (.iadd, 1) := by decide +kernel
theorem dL_law_866 : decode cL_law 866 = .ok (.iaload, 1) := by decide +kernel
theorem dL_law_867 : decode cL_law 867 = .ok (.aload_n 0, 1) := by decide +kernel
theorem dL_law_868 : decode cL_law 868 = .ok (.iload 4, 2) := by decide +kernel
theorem dL_law_870 : decode cL_law 870 = .ok (.iconst 2, 1) := by decide +kernel
theorem dL_law_871 : decode cL_law 871 = .ok (.iadd, 1) := by decide +kernel
theorem dL_law_872 : decode cL_law 872 = .ok (.iaload, 1) := by decide +kernel
theorem dL_law_873 : decode cL_law 873 = .ok (.invokevirtual 138, 3) := by decide +kernel
theorem dL_law_876 : decode cL_law 876 = .ok (.istore 6, 2) := by decide +kernel
theorem dL_law_878 : decode cL_law 878 = .ok (.aload_n 2, 1) := by decide +kernel
theorem dL_law_879 : decode cL_law 879 = .ok (.invokevirtual 97, 3) := by decide +kernel
theorem dL_law_882 : decode cL_law 882 = .ok (.iload 5, 2) := by decide +kernel
theorem dL_law_884 : decode cL_law 884 = .ok (.if_icmp .eq 5, 3) := by decide +kernel
theorem dL_law_887 : decode cL_law 887 = .ok (.iconst 0, 1) := by decide +kernel
theorem dL_law_888 : decode cL_law 888 = .ok (.ireturn, 1) := by decide +kernel
theorem dL_law_889 : decode cL_law 889 = .ok (.iload 5, 2) := by decide +kernel
theorem dL_law_891 : decode cL_law 891 = .ok (.ifCond .ne 15, 3) := by decide +kernel
theorem dL_law_894 : decode cL_law 894 = .ok (.aload_n 3, 1) := by decide +kernel
theorem dL_law_895 : decode cL_law 895 = .ok (.iconst 0, 1) := by decide +kernel
theorem dL_law_896 : decode cL_law 896 = .ok (.laload, 1) := by decide +kernel
theorem dL_law_897 : decode cL_law 897 = .ok (.iload 6, 2) := by decide +kernel
theorem dL_law_899 : decode cL_law 899 = .ok (.i2l, 1) := by decide +kernel
theorem dL_law_900 : decode cL_law 900 = .ok (.lcmp, 1) := by decide +kernel
theorem dL_law_901 : decode cL_law 901 = .ok (.ifCond .eq 5, 3) := by decide +kernel
theorem dL_law_904 : decode cL_law 904 = .ok (.iconst 0, 1) := by decide +kernel
theorem dL_law_905 : decode cL_law 905 = .ok (.ireturn, 1) := by decide +kernel
theorem dL_law_906 : decode cL_law 906 = .ok (.goto 835, 3) := by decide +kernel
theorem dL_law_909 : decode cL_law 909 = .ok (.aload_n 1, 1) := by decide +kernel
theorem dL_law_910 : decode cL_law 910 = .ok (.aload_n 0, 1) := by decide +kernel
theorem dL_law_911 : decode cL_law 911 = .ok (.iload 4, 2) := by decide +kernel
theorem dL_law_913 : decode cL_law 913 = .ok (.iconst 1, 1) := by decide +kernel
theorem dL_law_914 : decode cL_law 914 = .ok (.iadd, 1) := by decide +kernel
theorem dL_law_915 : decode cL_law 915 = .ok (.iaload, 1) := by decide +kernel
theorem dL_law_916 : decode cL_law 916 = .ok (.aload_n 0, 1) := by decide +kernel
theorem dL_law_917 : decode cL_law 917 = .ok (.iload 4, 2) := by decide +kernel
theorem dL_law_919 : decode cL_law 919 = .ok (.iconst 2, 1) := by decide +kernel
theorem dL_law_920 : decode cL_law 920 = .ok (.iadd, 1) := by decide +kernel
theorem dL_law_921 : decode cL_law 921 = .ok (.iaload, 1) := by decide +kernel
theorem dL_law_922 : decode cL_law 922 = .ok (.aload_n 3, 1) := by decide +kernel
theorem dL_law_923 : decode cL_law 923 = .ok (.invokestatic 139, 3) := by decide +kernel
theorem dL_law_926 : decode cL_law 926 = .ok (.istore 5, 2) := by decide +kernel
theorem dL_law_928 : decode cL_law 928 = .ok (.aload_n 2, 1) := by decide +kernel
theorem dL_law_929 : decode cL_law 929 = .ok (.aload_n 0, 1) := by decide +kernel
theorem dL_law_930 : decode cL_law 930 = .ok (.iload 4, 2) := by decide +kernel
theorem dL_law_932 : decode cL_law 932 = .ok (.iconst 1, 1) := by decide +kernel
theorem dL_law_933 : decode cL_law 933 = .ok (.iadd, 1) := by decide +kernel
theorem dL_law_934 : decode cL_law 934 = .ok (.iaload, 1) := by decide +kernel
theorem dL_law_935 : decode cL_law 935 = .ok (.aload_n 0, 1) := by decide +kernel
theorem dL_law_936 : decode cL_law 936 = .ok (.iload 4, 2) := by decide +kernel
theorem dL_law_938 : decode cL_law 938 = .ok (.iconst 2, 1) := by decide +kernel
theorem dL_law_939 : decode cL_law 939 = .ok (.iadd, 1) := by decide +kernel
theorem dL_law_940 : decode cL_law 940 = .ok (.iaload, 1) := by decide +kernel
theorem dL_law_941 : decode cL_law 941 = .ok (.invokevirtual 141, 3) := by decide +kernel
theorem dL_law_944 : decode cL_law 944 = .ok (.istore 6, 2) := by decide +kernel
theorem dL_law_946 : decode cL_law 946 = .ok (.aload_n 2, 1) := by decide +kernel
theorem dL_law_947 : decode cL_law 947 = .ok (.invokevirtual 97, 3) := by decide +kernel
theorem dL_law_950 : decode cL_law 950 = .ok (.iload 5, 2) := by decide +kernel
theorem dL_law_952 : decode cL_law 952 = .ok (.if_icmp .eq 5, 3) := by decide +kernel
theorem dL_law_955 : decode cL_law 955 = .ok (.iconst 0, 1) := by decide +kernel
theorem dL_law_956 : decode cL_law 956 = .ok (.ireturn, 1) := by decide +kernel
theorem dL_law_957 : decode cL_law 957 = .ok (.iload 5, 2) := by decide +kernel
theorem dL_law_959 : decode cL_law 959 = .ok (.ifCond .ne 15, 3) := by decide +kernel
theorem dL_law_962 : decode cL_law 962 = .ok (.aload_n 3, 1) := by decide +kernel
theorem dL_law_963 : decode cL_law 963 = .ok (.iconst 0, 1) := by decide +kernel
theorem dL_law_964 : decode cL_law 964 = .ok (.laload, 1) := by decide +kernel
theorem dL_law_965 : decode cL_law 965 = .ok (.iload 6, 2) := by decide +kernel
theorem dL_law_967 : decode cL_law 967 = .ok (.i2l, 1) := by decide +kernel
theorem dL_law_968 : decode cL_law 968 = .ok (.lcmp, 1) := by decide +kernel
theorem dL_law_969 : decode cL_law 969 = .ok (.ifCond .eq 5, 3) := by decide +kernel
theorem dL_law_972 : decode cL_law 972 = .ok (.iconst 0, 1) := by decide +kernel
theorem dL_law_973 : decode cL_law 973 = .ok (.ireturn, 1) := by decide +kernel
theorem dL_law_974 : decode cL_law 974 = .ok (.goto 767, 3) := by decide +kernel
theorem dL_law_977 : decode cL_law 977 = .ok (.aload_n 1, 1) := by decide +kernel
theorem dL_law_978 : decode cL_law 978 = .ok (.aload_n 0, 1) := by decide +kernel
theorem dL_law_979 : decode cL_law 979 = .ok (.iload 4, 2) := by decide +kernel
theorem dL_law_981 : decode cL_law 981 = .ok (.iconst 1, 1) := by decide +kernel
theorem dL_law_982 : decode cL_law 982 = .ok (.iadd, 1) := by decide +kernel
theorem dL_law_983 : decode cL_law 983 = .ok (.iaload, 1) := by decide +kernel
theorem dL_law_984 : decode cL_law 984 = .ok (.aload_n 3, 1) := by decide +kernel
theorem dL_law_985 : decode cL_law 985 = .ok (.invokestatic 142, 3) := by decide +kernel
theorem dL_law_988 : decode cL_law 988 = .ok (.istore 5, 2) := by decide +kernel
theorem dL_law_990 : decode cL_law 990 = .ok (.aload_n 2, 1) := by decide +kernel
theorem dL_law_991 : decode cL_law 991 = .ok (.aload_n 0, 1) := by decide +kernel
theorem dL_law_992 : decode cL_law 992 = .ok (.iload 4, 2) := by decide +kernel
theorem dL_law_994 : decode cL_law 994 = .ok (.iconst 1, 1) := by decide +kernel
theorem dL_law_995 : decode cL_law 995 = .ok (.iadd, 1) := by decide +kernel
theorem dL_law_996 : decode cL_law 996 = .ok (.iaload, 1) := by decide +kernel
theorem dL_law_997 : decode cL_law 997 = .ok (.invokevirtual 144, 3) := by decide +kernel
theorem dL_law_1000 : decode cL_law 1000 = .ok (.istore 6, 2) := by decide +kernel
theorem dL_law_1002 : decode cL_law 1002 = .ok (.aload_n 2, 1) := by decide +kernel
theorem dL_law_1003 : decode cL_law 1003 = .ok (.invokevirtual 97, 3) := by decide +kernel
theorem dL_law_1006 : decode cL_law 1006 = .ok (.iload 5, 2) := by decide +kernel
theorem dL_law_1008 : decode cL_law 1008 = .ok (.if_icmp .eq 5, 3) := by decide +kernel
theorem dL_law_1011 : decode cL_law 1011 = .ok (.iconst 0, 1) := by decide +kernel
theorem dL_law_1012 : decode cL_law 1012 = .ok (.ireturn, 1) := by decide +kernel
theorem dL_law_1013 : decode cL_law 1013 = .ok (.iload 5, 2) := by decide +kernel
theorem dL_law_1015 : decode cL_law 1015 = .ok (.ifCond .ne 15, 3) := by decide +kernel
theorem dL_law_1018 : decode cL_law 1018 = .ok (.aload_n 3, 1) := by decide +kernel
theorem dL_law_1019 : decode cL_law 1019 = .ok (.iconst 0, 1) := by decide +kernel
theorem dL_law_1020 : decode cL_law 1020 = .ok (.laload, 1) := by decide +kernel
theorem dL_law_1021 : decode cL_law 1021 = .ok (.iload 6, 2) := by decide +kernel
theorem dL_law_1023 : decode cL_law 1023 = .ok (.i2l, 1) := by decide +kernel
theorem dL_law_1024 : decode cL_law 1024 = .ok (.lcmp, 1) := by decide +kernel
theorem dL_law_1025 : decode cL_law 1025 = .ok (.ifCond .eq 5, 3) := by decide +kernel
theorem dL_law_1028 : decode cL_law 1028 = .ok (.iconst 0, 1) := by decide +kernel
theorem dL_law_1029 : decode cL_law 1029 = .ok (.ireturn, 1) := by decide +kernel
theorem dL_law_1030 : decode cL_law 1030 = .ok (.goto 711, 3) := by decide +kernel
theorem dL_law_1033 : decode cL_law 1033 = .ok (.aload_n 1, 1) := by decide +kernel
theorem dL_law_1034 : decode cL_law 1034 = .ok (.aload_n 0, 1) := by decide +kernel
theorem dL_law_1035 : decode cL_law 1035 = .ok (.iload 4, 2) := by decide +kernel
theorem dL_law_1037 : decode cL_law 1037 = .ok (.iconst 1, 1) := by decide +kernel
theorem dL_law_1038 : decode cL_law 1038 = .ok (.iadd, 1) := by decide +kernel
theorem dL_law_1039 : decode cL_law 1039 = .ok (.iaload, 1) := by decide +kernel
theorem dL_law_1040 : decode cL_law 1040 = .ok (.aload_n 0, 1) := by decide +kernel
theorem dL_law_1041 : decode cL_law 1041 = .ok (.iload 4, 2) := by decide +kernel
theorem dL_law_1043 : decode cL_law 1043 = .ok (.iconst 2, 1) := by decide +kernel
theorem dL_law_1044 : decode cL_law 1044 = .ok (.iadd, 1) := by decide +kernel
theorem dL_law_1045 : decode cL_law 1045 = .ok (.iaload, 1) := by decide +kernel
theorem dL_law_1046 : decode cL_law 1046 = .ok (.aload_n 3, 1) := by decide +kernel
theorem dL_law_1047 : decode cL_law 1047 = .ok (.invokestatic 145, 3) := by decide +kernel
theorem dL_law_1050 : decode cL_law 1050 = .ok (.istore 5, 2) := by decide +kernel
theorem dL_law_1052 : decode cL_law 1052 = .ok (.aload_n 2, 1) := by decide +kernel
theorem dL_law_1053 : decode cL_law 1053 = .ok (.aload_n 0, 1) := by decide +kernel
theorem dL_law_1054 : decode cL_law 1054 = .ok (.iload 4, 2) := by decide +kernel
theorem dL_law_1056 : decode cL_law 1056 = .ok (.iconst 1, 1) := by decide +kernel
theorem dL_law_1057 : decode cL_law 1057 = .ok (.iadd, 1) := by decide +kernel
theorem dL_law_1058 : decode cL_law 1058 = .ok (.iaload, 1) := by decide +kernel
theorem dL_law_1059 : decode cL_law 1059 = .ok (.aload_n 0, 1) := by decide +kernel
theorem dL_law_1060 : decode cL_law 1060 = .ok (.iload 4, 2) := by decide +kernel
theorem dL_law_1062 : decode cL_law 1062 = .ok (.iconst 2, 1) := by decide +kernel
theorem dL_law_1063 : decode cL_law 1063 = .ok (.iadd, 1) := by decide +kernel
theorem dL_law_1064 : decode cL_law 1064 = .ok (.iaload, 1) := by decide +kernel
theorem dL_law_1065 : decode cL_law 1065 = .ok (.invokevirtual 147, 3) := by decide +kernel
theorem dL_law_1068 : decode cL_law 1068 = .ok (.istore 6, 2) := by decide +kernel
theorem dL_law_1070 : decode cL_law 1070 = .ok (.aload_n 2, 1) := by decide +kernel
theorem dL_law_1071 : decode cL_law 1071 = .ok (.invokevirtual 97, 3) := by decide +kernel
theorem dL_law_1074 : decode cL_law 1074 = .ok (.iload 5, 2) := by decide +kernel
theorem dL_law_1076 : decode cL_law 1076 = .ok (.if_icmp .eq 5, 3) := by decide +kernel
theorem dL_law_1079 : decode cL_law 1079 = .ok (.iconst 0, 1) := by decide +kernel
theorem dL_law_1080 : decode cL_law 1080 = .ok (.ireturn, 1) := by decide +kernel
theorem dL_law_1081 : decode cL_law 1081 = .ok (.iload 5, 2) := by decide +kernel
theorem dL_law_1083 : decode cL_law 1083 = .ok (.ifCond .ne 15, 3) := by decide +kernel
theorem dL_law_1086 : decode cL_law 1086 = .ok (.aload_n 3, 1) := by decide +kernel
theorem dL_law_1087 : decode cL_law 1087 = .ok (.iconst 0, 1) := by decide +kernel
theorem dL_law_1088 : decode cL_law 1088 = .ok (.laload, 1) := by decide +kernel
theorem dL_law_1089 : decode cL_law 1089 = .ok (.iload 6, 2) := by decide +kernel
theorem dL_law_1091 : decode cL_law 1091 = .ok (.i2l, 1) := by decide +kernel
theorem dL_law_1092 : decode cL_law 1092 = .ok (.lcmp, 1) := by decide +kernel
theorem dL_law_1093 : decode cL_law 1093 = .ok (.ifCond .eq 5, 3) := by decide +kernel
theorem dL_law_1096 : decode cL_law 1096 = .ok (.iconst 0, 1) := by decide +kernel
theorem dL_law_1097 : decode cL_law 1097 = .ok (.ireturn, 1) := by decide +kernel
theorem dL_law_1098 : decode cL_law 1098 = .ok (.goto 643, 3) := by decide +kernel
theorem dL_law_1101 : decode cL_law 1101 = .ok (.aload_n 1, 1) := by decide +kernel
theorem dL_law_1102 : decode cL_law 1102 = .ok (.invokevirtual 148, 3) := by decide +kernel
theorem dL_law_1105 : decode cL_law 1105 = .ok (.aload_n 2, 1) := by decide +kernel
theorem dL_law_1106 : decode cL_law 1106 = .ok (.invokevirtual 151, 3) := by decide +kernel
theorem dL_law_1109 : decode cL_law 1109 = .ok (.if_icmp .eq 632, 3) := by decide +kernel
theorem dL_law_1112 : decode cL_law 1112 = .ok (.iconst 0, 1) := by decide +kernel
theorem dL_law_1113 : decode cL_law 1113 = .ok (.ireturn, 1) := by decide +kernel
theorem dL_law_1114 : decode cL_law 1114 = .ok (.aload_n 1, 1) := by decide +kernel
theorem dL_law_1115 : decode cL_law 1115 = .ok (.invokevirtual 152, 3) := by decide +kernel
theorem dL_law_1118 : decode cL_law 1118 = .ok (.aload_n 2, 1) := by decide +kernel
theorem dL_law_1119 : decode cL_law 1119 = .ok (.invokevirtual 155, 3) := by decide +kernel
theorem dL_law_1122 : decode cL_law 1122 = .ok (.if_icmp .eq 619, 3) := by decide +kernel
theorem dL_law_1125 : decode cL_law 1125 = .ok (.iconst 0, 1) := by decide +kernel
theorem dL_law_1126 : decode cL_law 1126 = .ok (.ireturn, 1) := by decide +kernel
theorem dL_law_1127 : decode cL_law 1127 = .ok (.aload_n 1, 1) := by decide +kernel
theorem dL_law_1128 : decode cL_law 1128 = .ok (.aload_n 3, 1) := by decide +kernel
theorem dL_law_1129 : decode cL_law 1129 = .ok (.invokestatic 156, 3) := by decide +kernel
theorem dL_law_1132 : decode cL_law 1132 = .ok (.istore 5, 2) := by decide +kernel
theorem dL_law_1134 : decode cL_law 1134 = .ok (.aload_n 2, 1) := by decide +kernel
theorem dL_law_1135 : decode cL_law 1135 = .ok (.invokevirtual 158, 3) := by decide +kernel
theorem dL_law_1138 : decode cL_law 1138 = .ok (.istore 6, 2) := by decide +kernel
theorem dL_law_1140 : decode cL_law 1140 = .ok (.aload_n 2, 1) := by decide +kernel
theorem dL_law_1141 : decode cL_law 1141 = .ok (.invokevirtual 97, 3) := by decide +kernel
theorem dL_law_1144 : decode cL_law 1144 = .ok (.iload 5, 2) := by decide +kernel
theorem dL_law_1146 : decode cL_law 1146 = .ok (.if_icmp .eq 5, 3) := by decide +kernel
theorem dL_law_1149 : decode cL_law 1149 = .ok (.iconst 0, 1) := by decide +kernel
theorem dL_law_1150 : decode cL_law 1150 = .ok (.ireturn, 1) := by decide +kernel
theorem dL_law_1151 : decode cL_law 1151 = .ok (.iload 5, 2) := by decide +kernel
theorem dL_law_1153 : decode cL_law 1153 = .ok (.ifCond .ne 15, 3) := by decide +kernel
theorem dL_law_1156 : decode cL_law 1156 = .ok (.aload_n 3, 1) := by decide +kernel
theorem dL_law_1157 : decode cL_law 1157 = .ok (.iconst 0, 1) := by decide +kernel
theorem dL_law_1158 : decode cL_law 1158 = .ok (.laload, 1) := by decide +kernel
theorem dL_law_1159 : decode cL_law 1159 = .ok (.iload 6, 2) := by decide +kernel
theorem dL_law_1161 : decode cL_law 1161 = .ok (.i2l, 1) := by decide +kernel
theorem dL_law_1162 : decode cL_law 1162 = .ok (.lcmp, 1) := by decide +kernel
theorem dL_law_1163 : decode cL_law 1163 = .ok (.ifCond .eq 5, 3) := by decide +kernel
theorem dL_law_1166 : decode cL_law 1166 = .ok (.iconst 0, 1) := by decide +kernel
theorem dL_law_1167 : decode cL_law 1167 = .ok (.ireturn, 1) := by decide +kernel
theorem dL_law_1168 : decode cL_law 1168 = .ok (.goto 573, 3) := by decide +kernel
theorem dL_law_1171 : decode cL_law 1171 = .ok (.aload_n 1, 1) := by decide +kernel
theorem dL_law_1172 : decode cL_law 1172 = .ok (.aload_n 0, 1) := by decide +kernel
theorem dL_law_1173 : decode cL_law 1173 = .ok (.iload 4, 2) := by decide +kernel
theorem dL_law_1175 : decode cL_law 1175 = .ok (.iconst 1, 1) := by decide +kernel
theorem dL_law_1176 : decode cL_law 1176 = .ok (.iadd, 1) := by decide +kernel
theorem dL_law_1177 : decode cL_law 1177 = .ok (.iaload, 1) := by decide +kernel
theorem dL_law_1178 : decode cL_law 1178 = .ok (.aload_n 0, 1) := by decide +kernel
theorem dL_law_1179 : decode cL_law 1179 = .ok (.iload 4, 2) := by decide +kernel
theorem dL_law_1181 : decode cL_law 1181 = .ok (.iconst 2, 1) := by decide +kernel
theorem dL_law_1182 : decode cL_law 1182 = .ok (.iadd, 1) := by decide +kernel
theorem dL_law_1183 : decode cL_law 1183 = .ok (.iaload, 1) := by decide +kernel
theorem dL_law_1184 : decode cL_law 1184 = .ok (.aload_n 0, 1) := by decide +kernel
theorem dL_law_1185 : decode cL_law 1185 = .ok (.iload 4, 2) := by decide +kernel
theorem dL_law_1187 : decode cL_law 1187 = .ok (.iconst 3, 1) := by decide +kernel
theorem dL_law_1188 : decode cL_law 1188 = .ok (.iadd, 1) := by decide +kernel
theorem dL_law_1189 : decode cL_law 1189 = .ok (.iaload, 1) := by decide +kernel
theorem dL_law_1190 : decode cL_law 1190 = .ok (.aload_n 0, 1) := by decide +kernel
theorem dL_law_1191 : decode cL_law 1191 = .ok (.iload 4, 2) := by decide +kernel
theorem dL_law_1193 : decode cL_law 1193 = .ok (.iconst 4, 1) := by decide +kernel
theorem dL_law_1194 : decode cL_law 1194 = .ok (.iadd, 1) := by decide +kernel
theorem dL_law_1195 : decode cL_law 1195 = .ok (.iaload, 1) := by decide +kernel
theorem dL_law_1196 : decode cL_law 1196 = .ok (.aload_n 3, 1) := by decide +kernel
theorem dL_law_1197 : decode cL_law 1197 = .ok (.invokestatic 159, 3) := by decide +kernel
theorem dL_law_1200 : decode cL_law 1200 = .ok (.istore 5, 2) := by decide +kernel
theorem dL_law_1202 : decode cL_law 1202 = .ok (.aload_n 2, 1) := by decide +kernel
theorem dL_law_1203 : decode cL_law 1203 = .ok (.aload_n 0, 1) := by decide +kernel
theorem dL_law_1204 : decode cL_law 1204 = .ok (.iload 4, 2) := by decide +kernel
theorem dL_law_1206 : decode cL_law 1206 = .ok (.iconst 1, 1) := by decide +kernel
theorem dL_law_1207 : decode cL_law 1207 = .ok (.iadd, 1) := by decide +kernel
theorem dL_law_1208 : decode cL_law 1208 = .ok (.iaload, 1) := by decide +kernel
theorem dL_law_1209 : decode cL_law 1209 = .ok (.aload_n 0, 1) := by decide +kernel
theorem dL_law_1210 : decode cL_law 1210 = .ok (.iload 4, 2) := by decide +kernel
theorem dL_law_1212 : decode cL_law 1212 = .ok (.iconst 2, 1) := by decide +kernel
theorem dL_law_1213 : decode cL_law 1213 = .ok (.iadd, 1) := by decide +kernel
theorem dL_law_1214 : decode cL_law 1214 = .ok (.iaload, 1) := by decide +kernel
theorem dL_law_1215 : decode cL_law 1215 = .ok (.aload_n 0, 1) := by decide +kernel
theorem dL_law_1216 : decode cL_law 1216 = .ok (.iload 4, 2) := by decide +kernel
theorem dL_law_1218 : decode cL_law 1218 = .ok (.iconst 3, 1) := by decide +kernel
theorem dL_law_1219 : decode cL_law 1219 = .ok (.iadd, 1) := by decide +kernel
theorem dL_law_1220 : decode cL_law 1220 = .ok (.iaload, 1) := by decide +kernel
theorem dL_law_1221 : decode cL_law 1221 = .ok (.aload_n 0, 1) := by decide +kernel
theorem dL_law_1222 : decode cL_law 1222 = .ok (.iload 4, 2) := by decide +kernel
theorem dL_law_1224 : decode cL_law 1224 = .ok (.iconst 4, 1) := by decide +kernel
theorem dL_law_1225 : decode cL_law 1225 = .ok (.iadd, 1) := by decide +kernel
theorem dL_law_1226 : decode cL_law 1226 = .ok (.iaload, 1) := by decide +kernel
theorem dL_law_1227 : decode cL_law 1227 = .ok (.invokevirtual 161, 3) := by decide +kernel
theorem dL_law_1230 : decode cL_law 1230 = .ok (.istore 6, 2) := by decide +kernel
theorem dL_law_1232 : decode cL_law 1232 = .ok (.aload_n 2, 1) := by decide +kernel
theorem dL_law_1233 : decode cL_law 1233 = .ok (.invokevirtual 97, 3) := by decide +kernel
theorem dL_law_1236 : decode cL_law 1236 = .ok (.iload 5, 2) := by decide +kernel
theorem dL_law_1238 : decode cL_law 1238 = .ok (.if_icmp .eq 5, 3) := by decide +kernel
theorem dL_law_1241 : decode cL_law 1241 = .ok (.iconst 0, 1) := by decide +kernel
theorem dL_law_1242 : decode cL_law 1242 = .ok (.ireturn, 1) := by decide +kernel
theorem dL_law_1243 : decode cL_law 1243 = .ok (.iload 5, 2) := by decide +kernel
theorem dL_law_1245 : decode cL_law 1245 = .ok (.ifCond .ne 15, 3) := by decide +kernel
theorem dL_law_1248 : decode cL_law 1248 = .ok (.aload_n 3, 1) := by decide +kernel
theorem dL_law_1249 : decode cL_law 1249 = .ok (.iconst 0, 1) := by decide +kernel
theorem dL_law_1250 : decode cL_law 1250 = .ok (.laload, 1) := by decide +kernel
theorem dL_law_1251 : decode cL_law 1251 = .ok (.iload 6, 2) := by decide +kernel
theorem dL_law_1253 : decode cL_law 1253 = .ok (.i2l, 1) := by decide +kernel
theorem dL_law_1254 : decode cL_law 1254 = .ok (.lcmp, 1) := by decide +kernel
theorem dL_law_1255 : decode cL_law 1255 = .ok (.ifCond .eq 5, 3) := by decide +kernel
theorem dL_law_1258 : decode cL_law 1258 = .ok (.iconst 0, 1) := by decide +kernel
theorem dL_law_1259 : decode cL_law 1259 = .ok (.ireturn, 1) := by decide +kernel
theorem dL_law_1260 : decode cL_law 1260 = .ok (.goto 481, 3) := by decide +kernel
theorem dL_law_1263 : decode cL_law 1263 = .ok (.aload_n 1, 1) := by decide +kernel
theorem dL_law_1264 : decode cL_law 1264 = .ok (.aload_n 0, 1) := by decide +kernel
theorem dL_law_1265 : decode cL_law 1265 = .ok (.iload 4, 2) := by decide +kernel
theorem dL_law_1267 : decode cL_law 1267 = .ok (.iconst 1, 1) := by decide +kernel
theorem dL_law_1268 : decode cL_law 1268 = .ok (.iadd, 1) := by decide +kernel
theorem dL_law_1269 : decode cL_law 1269 = .ok (.iaload, 1) := by decide +kernel
theorem dL_law_1270 : decode cL_law 1270 = .ok (.aload_n 3, 1) := by decide +kernel
theorem dL_law_1271 : decode cL_law 1271 = .ok (.invokestatic 162, 3) := by decide +kernel
theorem dL_law_1274 : decode cL_law 1274 = .ok (.istore 5, 2) := by decide +kernel
theorem dL_law_1276 : decode cL_law 1276 = .ok (.aload_n 2, 1) := by decide +kernel
theorem dL_law_1277 : decode cL_law 1277 = .ok (.aload_n 0, 1) := by decide +kernel
theorem dL_law_1278 : decode cL_law 1278 = .ok (.iload 4, 2) := by decide +kernel
theorem dL_law_1280 : decode cL_law 1280 = .ok (.iconst 1, 1) := by decide +kernel
theorem dL_law_1281 : decode cL_law 1281 = .ok (.iadd, 1) := by decide +kernel
theorem dL_law_1282 : decode cL_law 1282 = .ok (.iaload, 1) := by decide +kernel
theorem dL_law_1283 : decode cL_law 1283 = .ok (.invokevirtual 164, 3) := by decide +kernel
theorem dL_law_1286 : decode cL_law 1286 = .ok (.istore 6, 2) := by decide +kernel
theorem dL_law_1288 : decode cL_law 1288 = .ok (.aload_n 2, 1) := by decide +kernel
theorem dL_law_1289 : decode cL_law 1289 = .ok (.invokevirtual 97, 3) := by decide +kernel
theorem dL_law_1292 : decode cL_law 1292 = .ok (.iload 5, 2) := by decide +kernel
theorem dL_law_1294 : decode cL_law 1294 = .ok (.if_icmp .eq 5, 3) := by decide +kernel
theorem dL_law_1297 : decode cL_law 1297 = .ok (.iconst 0, 1) := by decide +kernel
theorem dL_law_1298 : decode cL_law 1298 = .ok (.ireturn, 1) := by decide +kernel
theorem dL_law_1299 : decode cL_law 1299 = .ok (.iload 5, 2) := by decide +kernel
theorem dL_law_1301 : decode cL_law 1301 = .ok (.ifCond .ne 15, 3) := by decide +kernel
theorem dL_law_1304 : decode cL_law 1304 = .ok (.aload_n 3, 1) := by decide +kernel
theorem dL_law_1305 : decode cL_law 1305 = .ok (.iconst 0, 1) := by decide +kernel
theorem dL_law_1306 : decode cL_law 1306 = .ok (.laload, 1) := by decide +kernel
theorem dL_law_1307 : decode cL_law 1307 = .ok (.iload 6, 2) := by decide +kernel
theorem dL_law_1309 : decode cL_law 1309 = .ok (.i2l, 1) := by decide +kernel
theorem dL_law_1310 : decode cL_law 1310 = .ok (.lcmp, 1) := by decide +kernel
theorem dL_law_1311 : decode cL_law 1311 = .ok (.ifCond .eq 5, 3) := by decide +kernel
theorem dL_law_1314 : decode cL_law 1314 = .ok (.iconst 0, 1) := by decide +kernel
theorem dL_law_1315 : decode cL_law 1315 = .ok (.ireturn, 1) := by decide +kernel
theorem dL_law_1316 : decode cL_law 1316 = .ok (.goto 425, 3) := by decide +kernel
theorem dL_law_1319 : decode cL_law 1319 = .ok (.aload_n 1, 1) := by decide +kernel
theorem dL_law_1320 : decode cL_law 1320 = .ok (.invokevirtual 165, 3) := by decide +kernel
theorem dL_law_1323 : decode cL_law 1323 = .ok (.aload_n 2, 1) := by decide +kernel
theorem dL_law_1324 : decode cL_law 1324 = .ok (.invokevirtual 168, 3) := by decide +kernel
theorem dL_law_1327 : decode cL_law 1327 = .ok (.if_icmp .eq 414, 3) := by decide +kernel
theorem dL_law_1330 : decode cL_law 1330 = .ok (.iconst 0, 1) := by decide +kernel
theorem dL_law_1331 : decode cL_law 1331 = .ok (.ireturn, 1) := by decide +kernel
theorem dL_law_1332 : decode cL_law 1332 = .ok (.aload_n 1, 1) := by decide +kernel
theorem dL_law_1333 : decode cL_law 1333 = .ok (.aload_n 0, 1) := by decide +kernel
theorem dL_law_1334 : decode cL_law 1334 = .ok (.iload 4, 2) := by decide +kernel
theorem dL_law_1336 : decode cL_law 1336 = .ok (.iconst 1, 1) := by decide +kernel
theorem dL_law_1337 : decode cL_law 1337 = .ok (.iadd, 1) := by decide +kernel
theorem dL_law_1338 : decode cL_law 1338 = .ok (.iaload, 1) := by decide +kernel
theorem dL_law_1339 : decode cL_law 1339 = .ok (.aload_n 0, 1) := by decide +kernel
theorem dL_law_1340 : decode cL_law 1340 = .ok (.iload 4, 2) := by decide +kernel
theorem dL_law_1342 : decode cL_law 1342 = .ok (.iconst 2, 1) := by decide +kernel
theorem dL_law_1343 : decode cL_law 1343 = .ok (.iadd, 1) := by decide +kernel
theorem dL_law_1344 : decode cL_law 1344 = .ok (.iaload, 1) := by decide +kernel
theorem dL_law_1345 : decode cL_law 1345 = .ok (.ifCond .eq 7, 3) := by decide +kernel
theorem dL_law_1348 : decode cL_law 1348 = .ok (.iconst 1, 1) := by decide +kernel
theorem dL_law_1349 : decode cL_law 1349 = .ok (.goto 4, 3) := by decide +kernel
theorem dL_law_1352 : decode cL_law 1352 = .ok (.iconst 0, 1) := by decide +kernel
theorem dL_law_1353 : decode cL_law 1353 = .ok (.aload_n 3, 1) := by decide +kernel
theorem dL_law_1354 : decode cL_law 1354 = .ok (.invokestatic 169, 3) := by decide +kernel
theorem dL_law_1357 : decode cL_law 1357 = .ok (.istore 5, 2) := by decide +kernel
theorem dL_law_1359 : decode cL_law 1359 = .ok (.aload_n 2, 1) := by decide +kernel
theorem dL_law_1360 : decode cL_law 1360 = .ok (.aload_n 0, 1) := by decide +kernel
theorem dL_law_1361 : decode cL_law 1361 = .ok (.iload 4, 2) := by decide +kernel
theorem dL_law_1363 : decode cL_law 1363 = .ok (.iconst 1, 1) := by decide +kernel
theorem dL_law_1364 : decode cL_law 1364 = .ok (.iadd, 1) := by decide +kernel
theorem dL_law_1365 : decode cL_law 1365 = .ok (.iaload, 1) := by decide +kernel
theorem dL_law_1366 : decode cL_law 1366 = .ok (.aload_n 0, 1) := by decide +kernel
theorem dL_law_1367 : decode cL_law 1367 = .ok (.iload 4, 2) := by decide +kernel
theorem dL_law_1369 : decode cL_law 1369 = .ok (.iconst 2, 1) := by decide +kernel
theorem dL_law_1370 : decode cL_law 1370 = .ok (.iadd, 1) := by decide +kernel
theorem dL_law_1371 : decode cL_law 1371 = .ok (.iaload, 1) := by decide +kernel
theorem dL_law_1372 : decode cL_law 1372 = .ok (.ifCond .eq 7, 3) := by decide +kernel
theorem dL_law_1375 : decode cL_law 1375 = .ok (.iconst 1, 1) := by decide +kernel
theorem dL_law_1376 : decode cL_law 1376 = .ok (.goto 4, 3) := by decide +kernel
theorem dL_law_1379 : decode cL_law 1379 = .ok (.iconst 0, 1) := by decide +kernel
theorem dL_law_1380 : decode cL_law 1380 = .ok (.invokevirtual 172, 3) := by decide +kernel
theorem dL_law_1383 : decode cL_law 1383 = .ok (.istore 6, 2) := by decide +kernel
theorem dL_law_1385 : decode cL_law 1385 = .ok (.aload_n 2, 1) := by decide +kernel
theorem dL_law_1386 : decode cL_law 1386 = .ok (.invokevirtual 97, 3) := by decide +kernel
theorem dL_law_1389 : decode cL_law 1389 = .ok (.iload 5, 2) := by decide +kernel
theorem dL_law_1391 : decode cL_law 1391 = .ok (.if_icmp .eq 5, 3) := by decide +kernel
theorem dL_law_1394 : decode cL_law 1394 = .ok (.iconst 0, 1) := by decide +kernel
theorem dL_law_1395 : decode cL_law 1395 = .ok (.ireturn, 1) := by decide +kernel
theorem dL_law_1396 : decode cL_law 1396 = .ok (.iload 5, 2) := by decide +kernel
theorem dL_law_1398 : decode cL_law 1398 = .ok (.ifCond .ne 15, 3) := by decide +kernel
theorem dL_law_1401 : decode cL_law 1401 = .ok (.aload_n 3, 1) := by decide +kernel
theorem dL_law_1402 : decode cL_law 1402 = .ok (.iconst 0, 1) := by decide +kernel
theorem dL_law_1403 : decode cL_law 1403 = .ok (.laload, 1) := by decide +kernel
theorem dL_law_1404 : decode cL_law 1404 = .ok (.iload 6, 2) := by decide +kernel
theorem dL_law_1406 : decode cL_law 1406 = .ok (.i2l, 1) := by decide +kernel
theorem dL_law_1407 : decode cL_law 1407 = .ok (.lcmp, 1) := by decide +kernel
theorem dL_law_1408 : decode cL_law 1408 = .ok (.ifCond .eq 5, 3) := by decide +kernel
theorem dL_law_1411 : decode cL_law 1411 = .ok (.iconst 0, 1) := by decide +kernel
theorem dL_law_1412 : decode cL_law 1412 = .ok (.ireturn, 1) := by decide +kernel
theorem dL_law_1413 : decode cL_law 1413 = .ok (.goto 328, 3) := by decide +kernel
theorem dL_law_1416 : decode cL_law 1416 = .ok (.aload_n 1, 1) := by decide +kernel
theorem dL_law_1417 : decode cL_law 1417 = .ok (.invokevirtual 173, 3) := by decide +kernel
theorem dL_law_1420 : decode cL_law 1420 = .ok (.aload_n 2, 1) := by decide +kernel
theorem dL_law_1421 : decode cL_law 1421 = .ok (.invokevirtual 176, 3) := by decide +kernel
theorem dL_law_1424 : decode cL_law 1424 = .ok (.if_icmp .eq 317, 3) := by decide +kernel
theorem dL_law_1427 : decode cL_law 1427 = .ok (.iconst 0, 1) := by decide +kernel
theorem dL_law_1428 : decode cL_law 1428 = .ok (.ireturn, 1) := by decide +kernel
theorem dL_law_1429 : decode cL_law 1429 = .ok (.aload_n 1, 1) := by decide +kernel
theorem dL_law_1430 : decode cL_law 1430 = .ok (.aload_n 0, 1) := by decide +kernel
theorem dL_law_1431 : decode cL_law 1431 = .ok (.iload 4, 2) := by decide +kernel
theorem dL_law_1433 : decode cL_law 1433 = .ok (.iconst 1, 1) := by decide +kernel
theorem dL_law_1434 : decode cL_law 1434 = .ok (.iadd, 1) := by decide +kernel
theorem dL_law_1435 : decode cL_law 1435 = .ok (.iaload, 1) := by decide +kernel
theorem dL_law_1436 : decode cL_law 1436 = .ok (.aload_n 0, 1) := by decide +kernel
theorem dL_law_1437 : decode cL_law 1437 = .ok (.iload 4, 2) := by decide +kernel
theorem dL_law_1439 : decode cL_law 1439 = .ok (.iconst 2, 1) := by decide +kernel
theorem dL_law_1440 : decode cL_law 1440 = .ok (.iadd, 1) := by decide +kernel
theorem dL_law_1441 : decode cL_law 1441 = .ok (.iaload, 1) := by decide +kernel
theorem dL_law_1442 : decode cL_law 1442 = .ok (.i2l, 1) := by decide +kernel
theorem dL_law_1443 : decode cL_law 1443 = .ok (.bipush 32, 2) := by decide +kernel
theorem dL_law_1445 : decode cL_law 1445 = .ok (.lshl, 1) := by decide +kernel
theorem dL_law_1446 : decode cL_law 1446 = .ok (.aload_n 0, 1) := by decide +kernel
theorem dL_law_1447 : decode cL_law 1447 = .ok (.iload 4, 2) := by decide +kernel
theorem dL_law_1449 : decode cL_law 1449 = .ok (.iconst 3, 1) := by decide +kernel
theorem dL_law_1450 : decode cL_law 1450 = .ok (.iadd, 1) := by decide +kernel
theorem dL_law_1451 : decode cL_law 1451 = .ok (.iaload, 1) := by decide +kernel
theorem dL_law_1452 : decode cL_law 1452 = .ok (.i2l, 1) := by decide +kernel
theorem dL_law_1453 : decode cL_law 1453 = .ok (.ldc2_w 177, 3) := by decide +kernel
theorem dL_law_1456 : decode cL_law 1456 = .ok (.land, 1) := by decide +kernel
theorem dL_law_1457 : decode cL_law 1457 = .ok (.lor, 1) := by decide +kernel
theorem dL_law_1458 : decode cL_law 1458 = .ok (.aload_n 3, 1) := by decide +kernel
theorem dL_law_1459 : decode cL_law 1459 = .ok (.invokestatic 179, 3) := by decide +kernel
theorem dL_law_1462 : decode cL_law 1462 = .ok (.istore 5, 2) := by decide +kernel
theorem dL_law_1464 : decode cL_law 1464 = .ok (.aload_n 2, 1) := by decide +kernel
theorem dL_law_1465 : decode cL_law 1465 = .ok (.aload_n 0, 1) := by decide +kernel
theorem dL_law_1466 : decode cL_law 1466 = .ok (.iload 4, 2) := by decide +kernel
theorem dL_law_1468 : decode cL_law 1468 = .ok (.iconst 1, 1) := by decide +kernel
theorem dL_law_1469 : decode cL_law 1469 = .ok (.iadd, 1) := by decide +kernel
theorem dL_law_1470 : decode cL_law 1470 = .ok (.iaload, 1) := by decide +kernel
theorem dL_law_1471 : decode cL_law 1471 = .ok (.aload_n 0, 1) := by decide +kernel
theorem dL_law_1472 : decode cL_law 1472 = .ok (.iload 4, 2) := by decide +kernel
theorem dL_law_1474 : decode cL_law 1474 = .ok (.iconst 2, 1) := by decide +kernel
theorem dL_law_1475 : decode cL_law 1475 = .ok (.iadd, 1) := by decide +kernel
theorem dL_law_1476 : decode cL_law 1476 = .ok (.iaload, 1) := by decide +kernel
theorem dL_law_1477 : decode cL_law 1477 = .ok (.i2l, 1) := by decide +kernel
theorem dL_law_1478 : decode cL_law 1478 = .ok (.bipush 32, 2) := by decide +kernel
theorem dL_law_1480 : decode cL_law 1480 = .ok (.lshl, 1) := by decide +kernel
theorem dL_law_1481 : decode cL_law 1481 = .ok (.aload_n 0, 1) := by decide +kernel
theorem dL_law_1482 : decode cL_law 1482 = .ok (.iload 4, 2) := by decide +kernel
theorem dL_law_1484 : decode cL_law 1484 = .ok (.iconst 3, 1) := by decide +kernel
theorem dL_law_1485 : decode cL_law 1485 = .ok (.iadd, 1) := by decide +kernel
theorem dL_law_1486 : decode cL_law 1486 = .ok (.iaload, 1) := by decide +kernel
theorem dL_law_1487 : decode cL_law 1487 = .ok (.i2l, 1) := by decide +kernel
theorem dL_law_1488 : decode cL_law 1488 = .ok (.ldc2_w 177, 3) := by decide +kernel
theorem dL_law_1491 : decode cL_law 1491 = .ok (.land, 1) := by decide +kernel
