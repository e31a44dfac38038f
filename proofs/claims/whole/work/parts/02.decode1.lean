theorem dX0_movedCorner_0 : decode cX0_movedCorner 0 = .ok (.aload_n 0, 1) := by decide +kernel
theorem dX0_movedCorner_1 : decode cX0_movedCorner 1 = .ok (.iload_n 1, 1) := by decide +kernel
theorem dX0_movedCorner_2 : decode cX0_movedCorner 2 = .ok (.iload_n 2, 1) := by decide +kernel
theorem dX0_movedCorner_3 : decode cX0_movedCorner 3 = .ok (.invokevirtual 9, 3) := by decide +kernel
theorem dX0_movedCorner_6 : decode cX0_movedCorner 6 = .ok (.ifCond .ne 5, 3) := by decide +kernel
theorem dX0_movedCorner_9 : decode cX0_movedCorner 9 = .ok (.iconst 0, 1) := by decide +kernel
theorem dX0_movedCorner_10 : decode cX0_movedCorner 10 = .ok (.ireturn, 1) := by decide +kernel
theorem dX0_movedCorner_11 : decode cX0_movedCorner 11 = .ok (.aload_n 0, 1) := by decide +kernel
theorem dX0_movedCorner_12 : decode cX0_movedCorner 12 = .ok (.aload_n 0, 1) := by decide +kernel
theorem dX0_movedCorner_13 : decode cX0_movedCorner 13 = .ok (.iload_n 1, 1) := by decide +kernel
theorem dX0_movedCorner_14 : decode cX0_movedCorner 14 = .ok (.iload_n 2, 1) := by decide +kernel
theorem dX0_movedCorner_15 : decode cX0_movedCorner 15 = .ok (.invokevirtual 15, 3) := by decide +kernel
theorem dX0_movedCorner_18 : decode cX0_movedCorner 18 = .ok (.iload_n 3, 1) := by decide +kernel
theorem dX0_movedCorner_19 : decode cX0_movedCorner 19 = .ok (.iload 4, 2) := by decide +kernel
theorem dX0_movedCorner_21 : decode cX0_movedCorner 21 = .ok (.invokevirtual 19, 3) := by decide +kernel
theorem dX0_movedCorner_24 : decode cX0_movedCorner 24 = .ok (.aload_n 0, 1) := by decide +kernel
theorem dX0_movedCorner_25 : decode cX0_movedCorner 25 = .ok (.invokestatic 23, 3) := by decide +kernel
theorem dX0_movedCorner_28 : decode cX0_movedCorner 28 = .ok (.ifCond .ne 7, 3) := by decide +kernel
theorem dX0_movedCorner_31 : decode cX0_movedCorner 31 = .ok (.iconst 1, 1) := by decide +kernel
theorem dX0_movedCorner_32 : decode cX0_movedCorner 32 = .ok (.goto 4, 3) := by decide +kernel
theorem dX0_movedCorner_35 : decode cX0_movedCorner 35 = .ok (.iconst 0, 1) := by decide +kernel
theorem dX0_movedCorner_36 : decode cX0_movedCorner 36 = .ok (.ireturn, 1) := by decide +kernel
theorem dX0_addedCorner_0 : decode cX0_addedCorner 0 = .ok (.aload_n 0, 1) := by decide +kernel
theorem dX0_addedCorner_1 : decode cX0_addedCorner 1 = .ok (.iload_n 1, 1) := by decide +kernel
theorem dX0_addedCorner_2 : decode cX0_addedCorner 2 = .ok (.iload_n 2, 1) := by decide +kernel
theorem dX0_addedCorner_3 : decode cX0_addedCorner 3 = .ok (.invokevirtual 9, 3) := by decide +kernel
theorem dX0_addedCorner_6 : decode cX0_addedCorner 6 = .ok (.ifCond .eq 13, 3) := by decide +kernel
theorem dX0_addedCorner_9 : decode cX0_addedCorner 9 = .ok (.aload_n 0, 1) := by decide +kernel
theorem dX0_addedCorner_10 : decode cX0_addedCorner 10 = .ok (.iload_n 1, 1) := by decide +kernel
theorem dX0_addedCorner_11 : decode cX0_addedCorner 11 = .ok (.invokevirtual 29, 3) := by decide +kernel
theorem dX0_addedCorner_14 : decode cX0_addedCorner 14 = .ok (.bipush 10, 2) := by decide +kernel
theorem dX0_addedCorner_16 : decode cX0_addedCorner 16 = .ok (.if_icmp .lt 5, 3) := by decide +kernel
theorem dX0_addedCorner_19 : decode cX0_addedCorner 19 = .ok (.iconst 0, 1) := by decide +kernel
theorem dX0_addedCorner_20 : decode cX0_addedCorner 20 = .ok (.ireturn, 1) := by decide +kernel
theorem dX0_addedCorner_21 : decode cX0_addedCorner 21 = .ok (.aload_n 0, 1) := by decide +kernel
theorem dX0_addedCorner_22 : decode cX0_addedCorner 22 = .ok (.iload_n 1, 1) := by decide +kernel
theorem dX0_addedCorner_23 : decode cX0_addedCorner 23 = .ok (.iload_n 2, 1) := by decide +kernel
theorem dX0_addedCorner_24 : decode cX0_addedCorner 24 = .ok (.iconst 1, 1) := by decide +kernel
theorem dX0_addedCorner_25 : decode cX0_addedCorner 25 = .ok (.iadd, 1) := by decide +kernel
theorem dX0_addedCorner_26 : decode cX0_addedCorner 26 = .ok (.iload_n 3, 1) := by decide +kernel
theorem dX0_addedCorner_27 : decode cX0_addedCorner 27 = .ok (.iload 4, 2) := by decide +kernel
theorem dX0_addedCorner_29 : decode cX0_addedCorner 29 = .ok (.invokevirtual 33, 3) := by decide +kernel
theorem dX0_addedCorner_32 : decode cX0_addedCorner 32 = .ok (.aload_n 0, 1) := by decide +kernel
theorem dX0_addedCorner_33 : decode cX0_addedCorner 33 = .ok (.invokestatic 23, 3) := by decide +kernel
theorem dX0_addedCorner_36 : decode cX0_addedCorner 36 = .ok (.ifCond .ne 7, 3) := by decide +kernel
theorem dX0_addedCorner_39 : decode cX0_addedCorner 39 = .ok (.iconst 1, 1) := by decide +kernel
theorem dX0_addedCorner_40 : decode cX0_addedCorner 40 = .ok (.goto 4, 3) := by decide +kernel
theorem dX0_addedCorner_43 : decode cX0_addedCorner 43 = .ok (.iconst 0, 1) := by decide +kernel
theorem dX0_addedCorner_44 : decode cX0_addedCorner 44 = .ok (.ireturn, 1) := by decide +kernel
theorem dX0_lostCorner_0 : decode cX0_lostCorner 0 = .ok (.aload_n 0, 1) := by decide +kernel
theorem dX0_lostCorner_1 : decode cX0_lostCorner 1 = .ok (.iload_n 1, 1) := by decide +kernel
theorem dX0_lostCorner_2 : decode cX0_lostCorner 2 = .ok (.iload_n 2, 1) := by decide +kernel
theorem dX0_lostCorner_3 : decode cX0_lostCorner 3 = .ok (.invokevirtual 9, 3) := by decide +kernel
theorem dX0_lostCorner_6 : decode cX0_lostCorner 6 = .ok (.ifCond .eq 12, 3) := by decide +kernel
theorem dX0_lostCorner_9 : decode cX0_lostCorner 9 = .ok (.aload_n 0, 1) := by decide +kernel
theorem dX0_lostCorner_10 : decode cX0_lostCorner 10 = .ok (.iload_n 1, 1) := by decide +kernel
theorem dX0_lostCorner_11 : decode cX0_lostCorner 11 = .ok (.invokevirtual 29, 3) := by decide +kernel
theorem dX0_lostCorner_14 : decode cX0_lostCorner 14 = .ok (.iconst 3, 1) := by decide +kernel
theorem dX0_lostCorner_15 : decode cX0_lostCorner 15 = .ok (.if_icmp .gt 5, 3) := by decide +kernel
theorem dX0_lostCorner_18 : decode cX0_lostCorner 18 = .ok (.iconst 0, 1) := by decide +kernel
theorem dX0_lostCorner_19 : decode cX0_lostCorner 19 = .ok (.ireturn, 1) := by decide +kernel
theorem dX0_lostCorner_20 : decode cX0_lostCorner 20 = .ok (.aload_n 0, 1) := by decide +kernel
theorem dX0_lostCorner_21 : decode cX0_lostCorner 21 = .ok (.iload_n 1, 1) := by decide +kernel
theorem dX0_lostCorner_22 : decode cX0_lostCorner 22 = .ok (.iload_n 2, 1) := by decide +kernel
theorem dX0_lostCorner_23 : decode cX0_lostCorner 23 = .ok (.invokevirtual 37, 3) := by decide +kernel
theorem dX0_lostCorner_26 : decode cX0_lostCorner 26 = .ok (.aload_n 0, 1) := by decide +kernel
theorem dX0_lostCorner_27 : decode cX0_lostCorner 27 = .ok (.invokestatic 23, 3) := by decide +kernel
theorem dX0_lostCorner_30 : decode cX0_lostCorner 30 = .ok (.ifCond .ne 7, 3) := by decide +kernel
theorem dX0_lostCorner_33 : decode cX0_lostCorner 33 = .ok (.iconst 1, 1) := by decide +kernel
theorem dX0_lostCorner_34 : decode cX0_lostCorner 34 = .ok (.goto 4, 3) := by decide +kernel
theorem dX0_lostCorner_37 : decode cX0_lostCorner 37 = .ok (.iconst 0, 1) := by decide +kernel
theorem dX0_lostCorner_38 : decode cX0_lostCorner 38 = .ok (.ireturn, 1) := by decide +kernel
theorem dX0_addedHole_0 : decode cX0_addedHole 0 = .ok (.aload_n 0, 1) := by decide +kernel
theorem dX0_addedHole_1 : decode cX0_addedHole 1 = .ok (.getfield 41, 3) := by decide +kernel
theorem dX0_addedHole_4 : decode cX0_addedHole 4 = .ok (.iconst 4, 1) := by decide +kernel
theorem dX0_addedHole_5 : decode cX0_addedHole 5 = .ok (.if_icmp .ge 23, 3) := by decide +kernel
theorem dX0_addedHole_8 : decode cX0_addedHole 8 = .ok (.iload_n 1, 1) := by decide +kernel
theorem dX0_addedHole_9 : decode cX0_addedHole 9 = .ok (.iconst 0, 1) := by decide +kernel
theorem dX0_addedHole_10 : decode cX0_addedHole 10 = .ok (.bipush 14, 2) := by decide +kernel
theorem dX0_addedHole_12 : decode cX0_addedHole 12 = .ok (.invokestatic 45, 3) := by decide +kernel
theorem dX0_addedHole_15 : decode cX0_addedHole 15 = .ok (.ifCond .eq 13, 3) := by decide +kernel
theorem dX0_addedHole_18 : decode cX0_addedHole 18 = .ok (.iload_n 2, 1) := by decide +kernel
theorem dX0_addedHole_19 : decode cX0_addedHole 19 = .ok (.iconst 0, 1) := by decide +kernel
theorem dX0_addedHole_20 : decode cX0_addedHole 20 = .ok (.bipush 14, 2) := by decide +kernel
theorem dX0_addedHole_22 : decode cX0_addedHole 22 = .ok (.invokestatic 45, 3) := by decide +kernel
theorem dX0_addedHole_25 : decode cX0_addedHole 25 = .ok (.ifCond .ne 5, 3) := by decide +kernel
theorem dX0_addedHole_28 : decode cX0_addedHole 28 = .ok (.iconst 0, 1) := by decide +kernel
theorem dX0_addedHole_29 : decode cX0_addedHole 29 = .ok (.ireturn, 1) := by decide +kernel
theorem dX0_addedHole_30 : decode cX0_addedHole 30 = .ok (.aload_n 0, 1) := by decide +kernel
theorem dX0_addedHole_31 : decode cX0_addedHole 31 = .ok (.invokevirtual 49, 3) := by decide +kernel
theorem dX0_addedHole_34 : decode cX0_addedHole 34 = .ok (.aload_n 0, 1) := by decide +kernel
theorem dX0_addedHole_35 : decode cX0_addedHole 35 = .ok (.iload_n 1, 1) := by decide +kernel
theorem dX0_addedHole_36 : decode cX0_addedHole 36 = .ok (.iload_n 2, 1) := by decide +kernel
theorem dX0_addedHole_37 : decode cX0_addedHole 37 = .ok (.invokevirtual 52, 3) := by decide +kernel
theorem dX0_addedHole_40 : decode cX0_addedHole 40 = .ok (.aload_n 0, 1) := by decide +kernel
theorem dX0_addedHole_41 : decode cX0_addedHole 41 = .ok (.iload_n 1, 1) := by decide +kernel
theorem dX0_addedHole_42 : decode cX0_addedHole 42 = .ok (.iconst 1, 1) := by decide +kernel
theorem dX0_addedHole_43 : decode cX0_addedHole 43 = .ok (.iadd, 1) := by decide +kernel
theorem dX0_addedHole_44 : decode cX0_addedHole 44 = .ok (.iload_n 2, 1) := by decide +kernel
theorem dX0_addedHole_45 : decode cX0_addedHole 45 = .ok (.invokevirtual 52, 3) := by decide +kernel
theorem dX0_addedHole_48 : decode cX0_addedHole 48 = .ok (.aload_n 0, 1) := by decide +kernel
theorem dX0_addedHole_49 : decode cX0_addedHole 49 = .ok (.iload_n 1, 1) := by decide +kernel
theorem dX0_addedHole_50 : decode cX0_addedHole 50 = .ok (.iload_n 2, 1) := by decide +kernel
theorem dX0_addedHole_51 : decode cX0_addedHole 51 = .ok (.iconst 1, 1) := by decide +kernel
theorem dX0_addedHole_52 : decode cX0_addedHole 52 = .ok (.iadd, 1) := by decide +kernel
theorem dX0_addedHole_53 : decode cX0_addedHole 53 = .ok (.invokevirtual 52, 3) := by decide +kernel
theorem dX0_addedHole_56 : decode cX0_addedHole 56 = .ok (.aload_n 0, 1) := by decide +kernel
theorem dX0_addedHole_57 : decode cX0_addedHole 57 = .ok (.invokestatic 23, 3) := by decide +kernel
theorem dX0_addedHole_60 : decode cX0_addedHole 60 = .ok (.ifCond .ne 7, 3) := by decide +kernel
theorem dX0_addedHole_63 : decode cX0_addedHole 63 = .ok (.iconst 1, 1) := by decide +kernel
theorem dX0_addedHole_64 : decode cX0_addedHole 64 = .ok (.goto 4, 3) := by decide +kernel
theorem dX0_addedHole_67 : decode cX0_addedHole 67 = .ok (.iconst 0, 1) := by decide +kernel
theorem dX0_addedHole_68 : decode cX0_addedHole 68 = .ok (.ireturn, 1) := by decide +kernel
theorem dX0_shifted_0 : decode cX0_shifted 0 = .ok (.iload_n 1, 1) := by decide +kernel
theorem dX0_shifted_1 : decode cX0_shifted 1 = .ok (.bipush (-15), 2) := by decide +kernel
theorem dX0_shifted_3 : decode cX0_shifted 3 = .ok (.bipush 15, 2) := by decide +kernel
theorem dX0_shifted_5 : decode cX0_shifted 5 = .ok (.invokestatic 45, 3) := by decide +kernel
theorem dX0_shifted_8 : decode cX0_shifted 8 = .ok (.ifCond .eq 14, 3) := by decide +kernel
theorem dX0_shifted_11 : decode cX0_shifted 11 = .ok (.iload_n 2, 1) := by decide +kernel
theorem dX0_shifted_12 : decode cX0_shifted 12 = .ok (.bipush (-15), 2) := by decide +kernel
theorem dX0_shifted_14 : decode cX0_shifted 14 = .ok (.bipush 15, 2) := by decide +kernel
theorem dX0_shifted_16 : decode cX0_shifted 16 = .ok (.invokestatic 45, 3) := by decide +kernel
theorem dX0_shifted_19 : decode cX0_shifted 19 = .ok (.ifCond .ne 5, 3) := by decide +kernel
theorem dX0_shifted_22 : decode cX0_shifted 22 = .ok (.iconst 0, 1) := by decide +kernel
theorem dX0_shifted_23 : decode cX0_shifted 23 = .ok (.ireturn, 1) := by decide +kernel
theorem dX0_shifted_24 : decode cX0_shifted 24 = .ok (.aload_n 0, 1) := by decide +kernel
theorem dX0_shifted_25 : decode cX0_shifted 25 = .ok (.iload_n 1, 1) := by decide +kernel
theorem dX0_shifted_26 : decode cX0_shifted 26 = .ok (.iload_n 2, 1) := by decide +kernel
theorem dX0_shifted_27 : decode cX0_shifted 27 = .ok (.invokevirtual 55, 3) := by decide +kernel
theorem dX0_shifted_30 : decode cX0_shifted 30 = .ok (.aload_n 0, 1) := by decide +kernel
theorem dX0_shifted_31 : decode cX0_shifted 31 = .ok (.invokestatic 58, 3) := by decide +kernel
theorem dX0_shifted_34 : decode cX0_shifted 34 = .ok (.ifCond .ne 7, 3) := by decide +kernel
theorem dX0_shifted_37 : decode cX0_shifted 37 = .ok (.iconst 1, 1) := by decide +kernel
theorem dX0_shifted_38 : decode cX0_shifted 38 = .ok (.goto 4, 3) := by decide +kernel
theorem dX0_shifted_41 : decode cX0_shifted 41 = .ok (.iconst 0, 1) := by decide +kernel
theorem dX0_shifted_42 : decode cX0_shifted 42 = .ok (.ireturn, 1) := by decide +kernel
theorem dX0_nudged_0 : decode cX0_nudged 0 = .ok (.aload_n 0, 1) := by decide +kernel
theorem dX0_nudged_1 : decode cX0_nudged 1 = .ok (.iload_n 1, 1) := by decide +kernel
theorem dX0_nudged_2 : decode cX0_nudged 2 = .ok (.invokevirtual 62, 3) := by decide +kernel
theorem dX0_nudged_5 : decode cX0_nudged 5 = .ok (.istore_n 3, 1) := by decide +kernel
theorem dX0_nudged_6 : decode cX0_nudged 6 = .ok (.aload_n 0, 1) := by decide +kernel
theorem dX0_nudged_7 : decode cX0_nudged 7 = .ok (.iload_n 1, 1) := by decide +kernel
theorem dX0_nudged_8 : decode cX0_nudged 8 = .ok (.invokevirtual 65, 3) := by decide +kernel
theorem dX0_nudged_11 : decode cX0_nudged 11 = .ok (.istore 4, 2) := by decide +kernel
theorem dX0_nudged_13 : decode cX0_nudged 13 = .ok (.iload_n 2, 1) := by decide +kernel
theorem dX0_nudged_14 : decode cX0_nudged 14 = .ok (.ifCond .ne 7, 3) := by decide +kernel
theorem dX0_nudged_17 : decode cX0_nudged 17 = .ok (.iconst 1, 1) := by decide +kernel
theorem dX0_nudged_18 : decode cX0_nudged 18 = .ok (.goto 13, 3) := by decide +kernel
theorem dX0_nudged_21 : decode cX0_nudged 21 = .ok (.iload_n 2, 1) := by decide +kernel
theorem dX0_nudged_22 : decode cX0_nudged 22 = .ok (.iconst 2, 1) := by decide +kernel
theorem dX0_nudged_23 : decode cX0_nudged 23 = .ok (.if_icmp .ne 7, 3) := by decide +kernel
theorem dX0_nudged_26 : decode cX0_nudged 26 = .ok (.iconst (-1), 1) := by decide +kernel
theorem dX0_nudged_27 : decode cX0_nudged 27 = .ok (.goto 4, 3) := by decide +kernel
theorem dX0_nudged_30 : decode cX0_nudged 30 = .ok (.iconst 0, 1) := by decide +kernel
theorem dX0_nudged_31 : decode cX0_nudged 31 = .ok (.istore 5, 2) := by decide +kernel
theorem dX0_nudged_33 : decode cX0_nudged 33 = .ok (.iload_n 2, 1) := by decide +kernel
theorem dX0_nudged_34 : decode cX0_nudged 34 = .ok (.iconst 1, 1) := by decide +kernel
theorem dX0_nudged_35 : decode cX0_nudged 35 = .ok (.if_icmp .ne 7, 3) := by decide +kernel
theorem dX0_nudged_38 : decode cX0_nudged 38 = .ok (.iconst 1, 1) := by decide +kernel
theorem dX0_nudged_39 : decode cX0_nudged 39 = .ok (.goto 13, 3) := by decide +kernel
theorem dX0_nudged_42 : decode cX0_nudged 42 = .ok (.iload_n 2, 1) := by decide +kernel
theorem dX0_nudged_43 : decode cX0_nudged 43 = .ok (.iconst 3, 1) := by decide +kernel
theorem dX0_nudged_44 : decode cX0_nudged 44 = .ok (.if_icmp .ne 7, 3) := by decide +kernel
theorem dX0_nudged_47 : decode cX0_nudged 47 = .ok (.iconst (-1), 1) := by decide +kernel
theorem dX0_nudged_48 : decode cX0_nudged 48 = .ok (.goto 4, 3) := by decide +kernel
theorem dX0_nudged_51 : decode cX0_nudged 51 = .ok (.iconst 0, 1) := by decide +kernel
theorem dX0_nudged_52 : decode cX0_nudged 52 = .ok (.istore 6, 2) := by decide +kernel
theorem dX0_nudged_54 : decode cX0_nudged 54 = .ok (.aload_n 0, 1) := by decide +kernel
theorem dX0_nudged_55 : decode cX0_nudged 55 = .ok (.iconst 0, 1) := by decide +kernel
theorem dX0_nudged_56 : decode cX0_nudged 56 = .ok (.iload_n 1, 1) := by decide +kernel
theorem dX0_nudged_57 : decode cX0_nudged 57 = .ok (.iload_n 3, 1) := by decide +kernel
theorem dX0_nudged_58 : decode cX0_nudged 58 = .ok (.iload 5, 2) := by decide +kernel
theorem dX0_nudged_60 : decode cX0_nudged 60 = .ok (.iadd, 1) := by decide +kernel
theorem dX0_nudged_61 : decode cX0_nudged 61 = .ok (.iload 4, 2) := by decide +kernel
theorem dX0_nudged_63 : decode cX0_nudged 63 = .ok (.iload 6, 2) := by decide +kernel
theorem dX0_nudged_65 : decode cX0_nudged 65 = .ok (.iadd, 1) := by decide +kernel
theorem dX0_nudged_66 : decode cX0_nudged 66 = .ok (.invokestatic 68, 3) := by decide +kernel
theorem dX0_nudged_69 : decode cX0_nudged 69 = .ok (.ifCond .eq 5, 3) := by decide +kernel
theorem dX0_nudged_72 : decode cX0_nudged 72 = .ok (.iconst 1, 1) := by decide +kernel
theorem dX0_nudged_73 : decode cX0_nudged 73 = .ok (.ireturn, 1) := by decide +kernel
theorem dX0_nudged_74 : decode cX0_nudged 74 = .ok (.aload_n 0, 1) := by decide +kernel
theorem dX0_nudged_75 : decode cX0_nudged 75 = .ok (.iload_n 1, 1) := by decide +kernel
theorem dX0_nudged_76 : decode cX0_nudged 76 = .ok (.iload_n 3, 1) := by decide +kernel
theorem dX0_nudged_77 : decode cX0_nudged 77 = .ok (.iload 4, 2) := by decide +kernel
theorem dX0_nudged_79 : decode cX0_nudged 79 = .ok (.invokevirtual 19, 3) := by decide +kernel
theorem dX0_nudged_82 : decode cX0_nudged 82 = .ok (.iconst 0, 1) := by decide +kernel
theorem dX0_nudged_83 : decode cX0_nudged 83 = .ok (.ireturn, 1) := by decide +kernel
theorem dX1_init_0 : decode cX1_init 0 = .ok (.aload_n 0, 1) := by decide +kernel
theorem dX1_init_1 : decode cX1_init 1 = .ok (.invokespecial 3, 3) := by decide +kernel
theorem dX1_init_4 : decode cX1_init 4 = .ok (.aload_n 0, 1) := by decide +kernel
theorem dX1_init_5 : decode cX1_init 5 = .ok (.iconst 4, 1) := by decide +kernel
theorem dX1_init_6 : decode cX1_init 6 = .ok (.newarray .int, 2) := by decide +kernel
theorem dX1_init_8 : decode cX1_init 8 = .ok (.putfield 9, 3) := by decide +kernel
theorem dX1_init_11 : decode cX1_init 11 = .ok (.aload_n 0, 1) := by decide +kernel
theorem dX1_init_12 : decode cX1_init 12 = .ok (.bipush 40, 2) := by decide +kernel
theorem dX1_init_14 : decode cX1_init 14 = .ok (.newarray .int, 2) := by decide +kernel
theorem dX1_init_16 : decode cX1_init 16 = .ok (.putfield 15, 3) := by decide +kernel
theorem dX1_init_19 : decode cX1_init 19 = .ok (.aload_n 0, 1) := by decide +kernel
theorem dX1_init_20 : decode cX1_init 20 = .ok (.bipush 40, 2) := by decide +kernel
theorem dX1_init_22 : decode cX1_init 22 = .ok (.newarray .int, 2) := by decide +kernel
theorem dX1_init_24 : decode cX1_init 24 = .ok (.putfield 18, 3) := by decide +kernel
theorem dX1_init_27 : decode cX1_init 27 = .ok (.aload_n 0, 1) := by decide +kernel
theorem dX1_init_28 : decode cX1_init 28 = .ok (.bipush 40, 2) := by decide +kernel
theorem dX1_init_30 : decode cX1_init 30 = .ok (.newarray .int, 2) := by decide +kernel
theorem dX1_init_32 : decode cX1_init 32 = .ok (.putfield 21, 3) := by decide +kernel
theorem dX1_init_35 : decode cX1_init 35 = .ok (.return_, 1) := by decide +kernel
theorem dX1_copyFrom_0 : decode cX1_copyFrom 0 = .ok (.aload_n 0, 1) := by decide +kernel
theorem dX1_copyFrom_1 : decode cX1_copyFrom 1 = .ok (.aload_n 1, 1) := by decide +kernel
theorem dX1_copyFrom_2 : decode cX1_copyFrom 2 = .ok (.getfield 24, 3) := by decide +kernel
theorem dX1_copyFrom_5 : decode cX1_copyFrom 5 = .ok (.putfield 24, 3) := by decide +kernel
theorem dX1_copyFrom_8 : decode cX1_copyFrom 8 = .ok (.aload_n 0, 1) := by decide +kernel
theorem dX1_copyFrom_9 : decode cX1_copyFrom 9 = .ok (.aload_n 1, 1) := by decide +kernel
theorem dX1_copyFrom_10 : decode cX1_copyFrom 10 = .ok (.getfield 28, 3) := by decide +kernel
theorem dX1_copyFrom_13 : decode cX1_copyFrom 13 = .ok (.putfield 28, 3) := by decide +kernel
theorem dX1_copyFrom_16 : decode cX1_copyFrom 16 = .ok (.aload_n 1, 1) := by decide +kernel
theorem dX1_copyFrom_17 : decode cX1_copyFrom 17 = .ok (.getfield 9, 3) := by decide +kernel
theorem dX1_copyFrom_20 : decode cX1_copyFrom 20 = .ok (.iconst 0, 1) := by decide +kernel
theorem dX1_copyFrom_21 : decode cX1_copyFrom 21 = .ok (.aload_n 0, 1) := by decide +kernel
theorem dX1_copyFrom_22 : decode cX1_copyFrom 22 = .ok (.getfield 9, 3) := by decide +kernel
theorem dX1_copyFrom_25 : decode cX1_copyFrom 25 = .ok (.iconst 0, 1) := by decide +kernel
theorem dX1_copyFrom_26 : decode cX1_copyFrom 26 = .ok (.iconst 4, 1) := by decide +kernel
theorem dX1_copyFrom_27 : decode cX1_copyFrom 27 = .ok (.invokestatic 31, 3) := by decide +kernel
theorem dX1_copyFrom_30 : decode cX1_copyFrom 30 = .ok (.aload_n 1, 1) := by decide +kernel
theorem dX1_copyFrom_31 : decode cX1_copyFrom 31 = .ok (.getfield 15, 3) := by decide +kernel
theorem dX1_copyFrom_34 : decode cX1_copyFrom 34 = .ok (.iconst 0, 1) := by decide +kernel
theorem dX1_copyFrom_35 : decode cX1_copyFrom 35 = .ok (.aload_n 0, 1) := by decide +kernel
theorem dX1_copyFrom_36 : decode cX1_copyFrom 36 = .ok (.getfield 15, 3) := by decide +kernel
theorem dX1_copyFrom_39 : decode cX1_copyFrom 39 = .ok (.iconst 0, 1) := by decide +kernel
theorem dX1_copyFrom_40 : decode cX1_copyFrom 40 = .ok (.bipush 40, 2) := by decide +kernel
theorem dX1_copyFrom_42 : decode cX1_copyFrom 42 = .ok (.invokestatic 31, 3) := by decide +kernel
theorem dX1_copyFrom_45 : decode cX1_copyFrom 45 = .ok (.aload_n 1, 1) := by decide +kernel
theorem dX1_copyFrom_46 : decode cX1_copyFrom 46 = .ok (.getfield 18, 3) := by decide +kernel
theorem dX1_copyFrom_49 : decode cX1_copyFrom 49 = .ok (.iconst 0, 1) := by decide +kernel
theorem dX1_copyFrom_50 : decode cX1_copyFrom 50 = .ok (.aload_n 0, 1) := by decide +kernel
theorem dX1_copyFrom_51 : decode cX1_copyFrom 51 = .ok (.getfield 18, 3) := by decide +kernel
theorem dX1_copyFrom_54 : decode cX1_copyFrom 54 = .ok (.iconst 0, 1) := by decide +kernel
theorem dX1_copyFrom_55 : decode cX1_copyFrom 55 = .ok (.bipush 40, 2) := by decide +kernel
theorem dX1_copyFrom_57 : decode cX1_copyFrom 57 = .ok (.invokestatic 31, 3) := by decide +kernel
theorem dX1_copyFrom_60 : decode cX1_copyFrom 60 = .ok (.aload_n 1, 1) := by decide +kernel
theorem dX1_copyFrom_61 : decode cX1_copyFrom 61 = .ok (.getfield 21, 3) := by decide +kernel
theorem dX1_copyFrom_64 : decode cX1_copyFrom 64 = .ok (.iconst 0, 1) := by decide +kernel
theorem dX1_copyFrom_65 : decode cX1_copyFrom 65 = .ok (.aload_n 0, 1) := by decide +kernel
theorem dX1_copyFrom_66 : decode cX1_copyFrom 66 = .ok (.getfield 21, 3) := by decide +kernel
theorem dX1_copyFrom_69 : decode cX1_copyFrom 69 = .ok (.iconst 0, 1) := by decide +kernel
theorem dX1_copyFrom_70 : decode cX1_copyFrom 70 = .ok (.bipush 40, 2) := by decide +kernel
theorem dX1_copyFrom_72 : decode cX1_copyFrom 72 = .ok (.invokestatic 31, 3) := by decide +kernel
theorem dX1_copyFrom_75 : decode cX1_copyFrom 75 = .ok (.return_, 1) := by decide +kernel
theorem dX1_hasRing_0 : decode cX1_hasRing 0 = .ok (.iload_n 1, 1) := by decide +kernel
theorem dX1_hasRing_1 : decode cX1_hasRing 1 = .ok (.ifCond .lt 15, 3) := by decide +kernel
theorem dX1_hasRing_4 : decode cX1_hasRing 4 = .ok (.iload_n 1, 1) := by decide +kernel
theorem dX1_hasRing_5 : decode cX1_hasRing 5 = .ok (.aload_n 0, 1) := by decide +kernel
theorem dX1_hasRing_6 : decode cX1_hasRing 6 = .ok (.getfield 24, 3) := by decide +kernel
theorem dX1_hasRing_9 : decode cX1_hasRing 9 = .ok (.if_icmp .ge 7, 3) := by decide +kernel
theorem dX1_hasRing_12 : decode cX1_hasRing 12 = .ok (.iconst 1, 1) := by decide +kernel
theorem dX1_hasRing_13 : decode cX1_hasRing 13 = .ok (.goto 4, 3) := by decide +kernel
theorem dX1_hasRing_16 : decode cX1_hasRing 16 = .ok (.iconst 0, 1) := by decide +kernel
theorem dX1_hasRing_17 : decode cX1_hasRing 17 = .ok (.ireturn, 1) := by decide +kernel
theorem dX1_hasCorner_0 : decode cX1_hasCorner 0 = .ok (.aload_n 0, 1) := by decide +kernel
theorem dX1_hasCorner_1 : decode cX1_hasCorner 1 = .ok (.iload_n 1, 1) := by decide +kernel
theorem dX1_hasCorner_2 : decode cX1_hasCorner 2 = .ok (.invokevirtual 37, 3) := by decide +kernel
theorem dX1_hasCorner_5 : decode cX1_hasCorner 5 = .ok (.ifCond .eq 21, 3) := by decide +kernel
theorem dX1_hasCorner_8 : decode cX1_hasCorner 8 = .ok (.iload_n 2, 1) := by decide +kernel
theorem dX1_hasCorner_9 : decode cX1_hasCorner 9 = .ok (.ifCond .lt 17, 3) := by decide +kernel
theorem dX1_hasCorner_12 : decode cX1_hasCorner 12 = .ok (.iload_n 2, 1) := by decide +kernel
theorem dX1_hasCorner_13 : decode cX1_hasCorner 13 = .ok (.aload_n 0, 1) := by decide +kernel
theorem dX1_hasCorner_14 : decode cX1_hasCorner 14 = .ok (.getfield 9, 3) := by decide +kernel
theorem dX1_hasCorner_17 : decode cX1_hasCorner 17 = .ok (.iload_n 1, 1) := by decide +kernel
theorem dX1_hasCorner_18 : decode cX1_hasCorner 18 = .ok (.iaload, 1) := by decide +kernel
theorem dX1_hasCorner_19 : decode cX1_hasCorner 19 = .ok (.if_icmp .ge 7, 3) := by decide +kernel
theorem dX1_hasCorner_22 : decode cX1_hasCorner 22 = .ok (.iconst 1, 1) := by decide +kernel
theorem dX1_hasCorner_23 : decode cX1_hasCorner 23 = .ok (.goto 4, 3) := by decide +kernel
theorem dX1_hasCorner_26 : decode cX1_hasCorner 26 = .ok (.iconst 0, 1) := by decide +kernel
theorem dX1_hasCorner_27 : decode cX1_hasCorner 27 = .ok (.ireturn, 1) := by decide +kernel
theorem dX1_sizeOf_0 : decode cX1_sizeOf 0 = .ok (.iload_n 1, 1) := by decide +kernel
theorem dX1_sizeOf_1 : decode cX1_sizeOf 1 = .ok (.ifCond .lt 20, 3) := by decide +kernel
theorem dX1_sizeOf_4 : decode cX1_sizeOf 4 = .ok (.iload_n 1, 1) := by decide +kernel
theorem dX1_sizeOf_5 : decode cX1_sizeOf 5 = .ok (.aload_n 0, 1) := by decide +kernel
theorem dX1_sizeOf_6 : decode cX1_sizeOf 6 = .ok (.getfield 24, 3) := by decide +kernel
theorem dX1_sizeOf_9 : decode cX1_sizeOf 9 = .ok (.if_icmp .ge 12, 3) := by decide +kernel
theorem dX1_sizeOf_12 : decode cX1_sizeOf 12 = .ok (.aload_n 0, 1) := by decide +kernel
theorem dX1_sizeOf_13 : decode cX1_sizeOf 13 = .ok (.getfield 9, 3) := by decide +kernel
theorem dX1_sizeOf_16 : decode cX1_sizeOf 16 = .ok (.iload_n 1, 1) := by decide +kernel
theorem dX1_sizeOf_17 : decode cX1_sizeOf 17 = .ok (.iaload, 1) := by decide +kernel
theorem dX1_sizeOf_18 : decode cX1_sizeOf 18 = .ok (.goto 4, 3) := by decide +kernel
theorem dX1_sizeOf_21 : decode cX1_sizeOf 21 = .ok (.iconst 0, 1) := by decide +kernel
theorem dX1_sizeOf_22 : decode cX1_sizeOf 22 = .ok (.ireturn, 1) := by decide +kernel
theorem dX1_firstOf_0 : decode cX1_firstOf 0 = .ok (.iconst 0, 1) := by decide +kernel
theorem dX1_firstOf_1 : decode cX1_firstOf 1 = .ok (.istore_n 2, 1) := by decide +kernel
theorem dX1_firstOf_2 : decode cX1_firstOf 2 = .ok (.iconst 0, 1) := by decide +kernel
theorem dX1_firstOf_3 : decode cX1_firstOf 3 = .ok (.istore_n 3, 1) := by decide +kernel
theorem dX1_firstOf_4 : decode cX1_firstOf 4 = .ok (.iload_n 3, 1) := by decide +kernel
theorem dX1_firstOf_5 : decode cX1_firstOf 5 = .ok (.iload_n 1, 1) := by decide +kernel
theorem dX1_firstOf_6 : decode cX1_firstOf 6 = .ok (.if_icmp .ge 26, 3) := by decide +kernel
theorem dX1_firstOf_9 : decode cX1_firstOf 9 = .ok (.iload_n 3, 1) := by decide +kernel
theorem dX1_firstOf_10 : decode cX1_firstOf 10 = .ok (.aload_n 0, 1) := by decide +kernel
theorem dX1_firstOf_11 : decode cX1_firstOf 11 = .ok (.getfield 24, 3) := by decide +kernel
theorem dX1_firstOf_14 : decode cX1_firstOf 14 = .ok (.if_icmp .ge 18, 3) := by decide +kernel
theorem dX1_firstOf_17 : decode cX1_firstOf 17 = .ok (.iload_n 2, 1) := by decide +kernel
theorem dX1_firstOf_18 : decode cX1_firstOf 18 = .ok (.aload_n 0, 1) := by decide +kernel
theorem dX1_firstOf_19 : decode cX1_firstOf 19 = .ok (.getfield 9, 3) := by decide +kernel
theorem dX1_firstOf_22 : decode cX1_firstOf 22 = .ok (.iload_n 3, 1) := by decide +kernel
theorem dX1_firstOf_23 : decode cX1_firstOf 23 = .ok (.iaload, 1) := by decide +kernel
theorem dX1_firstOf_24 : decode cX1_firstOf 24 = .ok (.iadd, 1) := by decide +kernel
theorem dX1_firstOf_25 : decode cX1_firstOf 25 = .ok (.istore_n 2, 1) := by decide +kernel
theorem dX1_firstOf_26 : decode cX1_firstOf 26 = .ok (.iinc 3 1, 3) := by decide +kernel
theorem dX1_firstOf_29 : decode cX1_firstOf 29 = .ok (.goto (-25), 3) := by decide +kernel
theorem dX1_firstOf_32 : decode cX1_firstOf 32 = .ok (.iload_n 2, 1) := by decide +kernel
theorem dX1_firstOf_33 : decode cX1_firstOf 33 = .ok (.ireturn, 1) := by decide +kernel
theorem dX1_at_0 : decode cX1_at 0 = .ok (.aload_n 0, 1) := by decide +kernel
theorem dX1_at_1 : decode cX1_at 1 = .ok (.iload_n 1, 1) := by decide +kernel
theorem dX1_at_2 : decode cX1_at 2 = .ok (.invokevirtual 41, 3) := by decide +kernel
theorem dX1_at_5 : decode cX1_at 5 = .ok (.iload_n 2, 1) := by decide +kernel
theorem dX1_at_6 : decode cX1_at 6 = .ok (.iadd, 1) := by decide +kernel
theorem dX1_at_7 : decode cX1_at 7 = .ok (.ireturn, 1) := by decide +kernel
theorem dX1_xOf_0 : decode cX1_xOf 0 = .ok (.iload_n 1, 1) := by decide +kernel
theorem dX1_xOf_1 : decode cX1_xOf 1 = .ok (.ifCond .lt 20, 3) := by decide +kernel
theorem dX1_xOf_4 : decode cX1_xOf 4 = .ok (.iload_n 1, 1) := by decide +kernel
theorem dX1_xOf_5 : decode cX1_xOf 5 = .ok (.aload_n 0, 1) := by decide +kernel
theorem dX1_xOf_6 : decode cX1_xOf 6 = .ok (.getfield 28, 3) := by decide +kernel
theorem dX1_xOf_9 : decode cX1_xOf 9 = .ok (.if_icmp .ge 12, 3) := by decide +kernel
theorem dX1_xOf_12 : decode cX1_xOf 12 = .ok (.aload_n 0, 1) := by decide +kernel
theorem dX1_xOf_13 : decode cX1_xOf 13 = .ok (.getfield 15, 3) := by decide +kernel
theorem dX1_xOf_16 : decode cX1_xOf 16 = .ok (.iload_n 1, 1) := by decide +kernel
theorem dX1_xOf_17 : decode cX1_xOf 17 = .ok (.iaload, 1) := by decide +kernel
theorem dX1_xOf_18 : decode cX1_xOf 18 = .ok (.goto 4, 3) := by decide +kernel
theorem dX1_xOf_21 : decode cX1_xOf 21 = .ok (.iconst 0, 1) := by decide +kernel
theorem dX1_xOf_22 : decode cX1_xOf 22 = .ok (.ireturn, 1) := by decide +kernel
theorem dX1_yOf_0 : decode cX1_yOf 0 = .ok (.iload_n 1, 1) := by decide +kernel
theorem dX1_yOf_1 : decode cX1_yOf 1 = .ok (.ifCond .lt 20, 3) := by decide +kernel
theorem dX1_yOf_4 : decode cX1_yOf 4 = .ok (.iload_n 1, 1) := by decide +kernel
theorem dX1_yOf_5 : decode cX1_yOf 5 = .ok (.aload_n 0, 1) := by decide +kernel
theorem dX1_yOf_6 : decode cX1_yOf 6 = .ok (.getfield 28, 3) := by decide +kernel
theorem dX1_yOf_9 : decode cX1_yOf 9 = .ok (.if_icmp .ge 12, 3) := by decide +kernel
theorem dX1_yOf_12 : decode cX1_yOf 12 = .ok (.aload_n 0, 1) := by decide +kernel
theorem dX1_yOf_13 : decode cX1_yOf 13 = .ok (.getfield 18, 3) := by decide +kernel
theorem dX1_yOf_16 : decode cX1_yOf 16 = .ok (.iload_n 1, 1) := by decide +kernel
theorem dX1_yOf_17 : decode cX1_yOf 17 = .ok (.iaload, 1) := by decide +kernel
theorem dX1_yOf_18 : decode cX1_yOf 18 = .ok (.goto 4, 3) := by decide +kernel
theorem dX1_yOf_21 : decode cX1_yOf 21 = .ok (.iconst 0, 1) := by decide +kernel
theorem dX1_yOf_22 : decode cX1_yOf 22 = .ok (.ireturn, 1) := by decide +kernel
theorem dX1_nextOf_0 : decode cX1_nextOf 0 = .ok (.iload_n 1, 1) := by decide +kernel
theorem dX1_nextOf_1 : decode cX1_nextOf 1 = .ok (.ifCond .lt 20, 3) := by decide +kernel
theorem dX1_nextOf_4 : decode cX1_nextOf 4 = .ok (.iload_n 1, 1) := by decide +kernel
theorem dX1_nextOf_5 : decode cX1_nextOf 5 = .ok (.aload_n 0, 1) := by decide +kernel
theorem dX1_nextOf_6 : decode cX1_nextOf 6 = .ok (.getfield 28, 3) := by decide +kernel
theorem dX1_nextOf_9 : decode cX1_nextOf 9 = .ok (.if_icmp .ge 12, 3) := by decide +kernel
theorem dX1_nextOf_12 : decode cX1_nextOf 12 = .ok (.aload_n 0, 1) := by decide +kernel
theorem dX1_nextOf_13 : decode cX1_nextOf 13 = .ok (.getfield 21, 3) := by decide +kernel
theorem dX1_nextOf_16 : decode cX1_nextOf 16 = .ok (.iload_n 1, 1) := by decide +kernel
theorem dX1_nextOf_17 : decode cX1_nextOf 17 = .ok (.iaload, 1) := by decide +kernel
theorem dX1_nextOf_18 : decode cX1_nextOf 18 = .ok (.goto 4, 3) := by decide +kernel
theorem dX1_nextOf_21 : decode cX1_nextOf 21 = .ok (.iconst 0, 1) := by decide +kernel
theorem dX1_nextOf_22 : decode cX1_nextOf 22 = .ok (.ireturn, 1) := by decide +kernel
theorem dX1_priorOf_0 : decode cX1_priorOf 0 = .ok (.aload_n 0, 1) := by decide +kernel
theorem dX1_priorOf_1 : decode cX1_priorOf 1 = .ok (.iload_n 1, 1) := by decide +kernel
theorem dX1_priorOf_2 : decode cX1_priorOf 2 = .ok (.invokevirtual 41, 3) := by decide +kernel
theorem dX1_priorOf_5 : decode cX1_priorOf 5 = .ok (.iload_n 2, 1) := by decide +kernel
theorem dX1_priorOf_6 : decode cX1_priorOf 6 = .ok (.ifCond .le 7, 3) := by decide +kernel
theorem dX1_priorOf_9 : decode cX1_priorOf 9 = .ok (.iload_n 2, 1) := by decide +kernel
theorem dX1_priorOf_10 : decode cX1_priorOf 10 = .ok (.goto 8, 3) := by decide +kernel
theorem dX1_priorOf_13 : decode cX1_priorOf 13 = .ok (.aload_n 0, 1) := by decide +kernel
theorem dX1_priorOf_14 : decode cX1_priorOf 14 = .ok (.iload_n 1, 1) := by decide +kernel
theorem dX1_priorOf_15 : decode cX1_priorOf 15 = .ok (.invokevirtual 45, 3) := by decide +kernel
theorem dX1_priorOf_18 : decode cX1_priorOf 18 = .ok (.iadd, 1) := by decide +kernel
theorem dX1_priorOf_19 : decode cX1_priorOf 19 = .ok (.iconst 1, 1) := by decide +kernel
theorem dX1_priorOf_20 : decode cX1_priorOf 20 = .ok (.isub, 1) := by decide +kernel
theorem dX1_priorOf_21 : decode cX1_priorOf 21 = .ok (.ireturn, 1) := by decide +kernel
theorem dX1_clear_0 : decode cX1_clear 0 = .ok (.aload_n 0, 1) := by decide +kernel
theorem dX1_clear_1 : decode cX1_clear 1 = .ok (.iconst 0, 1) := by decide +kernel
theorem dX1_clear_2 : decode cX1_clear 2 = .ok (.putfield 24, 3) := by decide +kernel
theorem dX1_clear_5 : decode cX1_clear 5 = .ok (.aload_n 0, 1) := by decide +kernel
theorem dX1_clear_6 : decode cX1_clear 6 = .ok (.iconst 0, 1) := by decide +kernel
theorem dX1_clear_7 : decode cX1_clear 7 = .ok (.putfield 28, 3) := by decide +kernel
theorem dX1_clear_10 : decode cX1_clear 10 = .ok (.return_, 1) := by decide +kernel
theorem dX1_openRing_0 : decode cX1_openRing 0 = .ok (.aload_n 0, 1) := by decide +kernel
theorem dX1_openRing_1 : decode cX1_openRing 1 = .ok (.getfield 24, 3) := by decide +kernel
theorem dX1_openRing_4 : decode cX1_openRing 4 = .ok (.iconst 4, 1) := by decide +kernel
theorem dX1_openRing_5 : decode cX1_openRing 5 = .ok (.if_icmp .ge 23, 3) := by decide +kernel
theorem dX1_openRing_8 : decode cX1_openRing 8 = .ok (.aload_n 0, 1) := by decide +kernel
theorem dX1_openRing_9 : decode cX1_openRing 9 = .ok (.getfield 9, 3) := by decide +kernel
theorem dX1_openRing_12 : decode cX1_openRing 12 = .ok (.aload_n 0, 1) := by decide +kernel
theorem dX1_openRing_13 : decode cX1_openRing 13 = .ok (.getfield 24, 3) := by decide +kernel
theorem dX1_openRing_16 : decode cX1_openRing 16 = .ok (.iconst 0, 1) := by decide +kernel
theorem dX1_openRing_17 : decode cX1_openRing 17 = .ok (.iastore, 1) := by decide +kernel
theorem dX1_openRing_18 : decode cX1_openRing 18 = .ok (.aload_n 0, 1) := by decide +kernel
theorem dX1_openRing_19 : decode cX1_openRing 19 = .ok (.dup, 1) := by decide +kernel
theorem dX1_openRing_20 : decode cX1_openRing 20 = .ok (.getfield 24, 3) := by decide +kernel
theorem dX1_openRing_23 : decode cX1_openRing 23 = .ok (.iconst 1, 1) := by decide +kernel
theorem dX1_openRing_24 : decode cX1_openRing 24 = .ok (.iadd, 1) := by decide +kernel
theorem dX1_openRing_25 : decode cX1_openRing 25 = .ok (.putfield 24, 3) := by decide +kernel
theorem dX1_openRing_28 : decode cX1_openRing 28 = .ok (.return_, 1) := by decide +kernel
theorem dX1_addCorner_0 : decode cX1_addCorner 0 = .ok (.aload_n 0, 1) := by decide +kernel
theorem dX1_addCorner_1 : decode cX1_addCorner 1 = .ok (.aload_n 0, 1) := by decide +kernel
theorem dX1_addCorner_2 : decode cX1_addCorner 2 = .ok (.getfield 24, 3) := by decide +kernel
theorem dX1_addCorner_5 : decode cX1_addCorner 5 = .ok (.iconst 1, 1) := by decide +kernel
theorem dX1_addCorner_6 : decode cX1_addCorner 6 = .ok (.isub, 1) := by decide +kernel
theorem dX1_addCorner_7 : decode cX1_addCorner 7 = .ok (.aload_n 0, 1) := by decide +kernel
theorem dX1_addCorner_8 : decode cX1_addCorner 8 = .ok (.aload_n 0, 1) := by decide +kernel
theorem dX1_addCorner_9 : decode cX1_addCorner 9 = .ok (.getfield 24, 3) := by decide +kernel
theorem dX1_addCorner_12 : decode cX1_addCorner 12 = .ok (.iconst 1, 1) := by decide +kernel
theorem dX1_addCorner_13 : decode cX1_addCorner 13 = .ok (.isub, 1) := by decide +kernel
theorem dX1_addCorner_14 : decode cX1_addCorner 14 = .ok (.invokevirtual 45, 3) := by decide +kernel
theorem dX1_addCorner_17 : decode cX1_addCorner 17 = .ok (.iload_n 1, 1) := by decide +kernel
theorem dX1_addCorner_18 : decode cX1_addCorner 18 = .ok (.iload_n 2, 1) := by decide +kernel
theorem dX1_addCorner_19 : decode cX1_addCorner 19 = .ok (.invokevirtual 48, 3) := by decide +kernel
theorem dX1_addCorner_22 : decode cX1_addCorner 22 = .ok (.return_, 1) := by decide +kernel
theorem dX1_place_0 : decode cX1_place 0 = .ok (.iload_n 1, 1) := by decide +kernel
theorem dX1_place_1 : decode cX1_place 1 = .ok (.ifCond .lt 25, 3) := by decide +kernel
theorem dX1_place_4 : decode cX1_place 4 = .ok (.iload_n 1, 1) := by decide +kernel
theorem dX1_place_5 : decode cX1_place 5 = .ok (.aload_n 0, 1) := by decide +kernel
theorem dX1_place_6 : decode cX1_place 6 = .ok (.getfield 28, 3) := by decide +kernel
theorem dX1_place_9 : decode cX1_place 9 = .ok (.if_icmp .ge 17, 3) := by decide +kernel
theorem dX1_place_12 : decode cX1_place 12 = .ok (.aload_n 0, 1) := by decide +kernel
theorem dX1_place_13 : decode cX1_place 13 = .ok (.getfield 15, 3) := by decide +kernel
theorem dX1_place_16 : decode cX1_place 16 = .ok (.iload_n 1, 1) := by decide +kernel
theorem dX1_place_17 : decode cX1_place 17 = .ok (.iload_n 2, 1) := by decide +kernel
theorem dX1_place_18 : decode cX1_place 18 = .ok (.iastore, 1) := by decide +kernel
theorem dX1_place_19 : decode cX1_place 19 = .ok (.aload_n 0, 1) := by decide +kernel
theorem dX1_place_20 : decode cX1_place 20 = .ok (.getfield 18, 3) := by decide +kernel
theorem dX1_place_23 : decode cX1_place 23 = .ok (.iload_n 1, 1) := by decide +kernel
theorem dX1_place_24 : decode cX1_place 24 = .ok (.iload_n 3, 1) := by decide +kernel
theorem dX1_place_25 : decode cX1_place 25 = .ok (.iastore, 1) := by decide +kernel
theorem dX1_place_26 : decode cX1_place 26 = .ok (.return_, 1) := by decide +kernel
theorem dX1_putIn_0 : decode cX1_putIn 0 = .ok (.aload_n 0, 1) := by decide +kernel
theorem dX1_putIn_1 : decode cX1_putIn 1 = .ok (.iload_n 1, 1) := by decide +kernel
theorem dX1_putIn_2 : decode cX1_putIn 2 = .ok (.invokevirtual 37, 3) := by decide +kernel
theorem dX1_putIn_5 : decode cX1_putIn 5 = .ok (.ifCond .eq 37, 3) := by decide +kernel
theorem dX1_putIn_8 : decode cX1_putIn 8 = .ok (.iload_n 2, 1) := by decide +kernel
theorem dX1_putIn_9 : decode cX1_putIn 9 = .ok (.ifCond .lt 33, 3) := by decide +kernel
theorem dX1_putIn_12 : decode cX1_putIn 12 = .ok (.iload_n 2, 1) := by decide +kernel
theorem dX1_putIn_13 : decode cX1_putIn 13 = .ok (.aload_n 0, 1) := by decide +kernel
theorem dX1_putIn_14 : decode cX1_putIn 14 = .ok (.getfield 9, 3) := by decide +kernel
theorem dX1_putIn_17 : decode cX1_putIn 17 = .ok (.iload_n 1, 1) := by decide +kernel
theorem dX1_putIn_18 : decode cX1_putIn 18 = .ok (.iaload, 1) := by decide +kernel
theorem dX1_putIn_19 : decode cX1_putIn 19 = .ok (.if_icmp .gt 23, 3) := by decide +kernel
theorem dX1_putIn_22 : decode cX1_putIn 22 = .ok (.aload_n 0, 1) := by decide +kernel
theorem dX1_putIn_23 : decode cX1_putIn 23 = .ok (.getfield 9, 3) := by decide +kernel
theorem dX1_putIn_26 : decode cX1_putIn 26 = .ok (.iload_n 1, 1) := by decide +kernel
theorem dX1_putIn_27 : decode cX1_putIn 27 = .ok (.iaload, 1) := by decide +kernel
theorem dX1_putIn_28 : decode cX1_putIn 28 = .ok (.bipush 10, 2) := by decide +kernel
theorem dX1_putIn_30 : decode cX1_putIn 30 = .ok (.if_icmp .ge 12, 3) := by decide +kernel
theorem dX1_putIn_33 : decode cX1_putIn 33 = .ok (.aload_n 0, 1) := by decide +kernel
theorem dX1_putIn_34 : decode cX1_putIn 34 = .ok (.getfield 28, 3) := by decide +kernel
theorem dX1_putIn_37 : decode cX1_putIn 37 = .ok (.bipush 40, 2) := by decide +kernel
theorem dX1_putIn_39 : decode cX1_putIn 39 = .ok (.if_icmp .lt 4, 3) := by decide +kernel
theorem dX1_putIn_42 : decode cX1_putIn 42 = .ok (.return_, 1) := by decide +kernel
theorem dX1_putIn_43 : decode cX1_putIn 43 = .ok (.aload_n 0, 1) := by decide +kernel
theorem dX1_putIn_44 : decode cX1_putIn 44 = .ok (.iload_n 1, 1) := by decide +kernel
theorem dX1_putIn_45 : decode cX1_putIn 45 = .ok (.iload_n 2, 1) := by decide +kernel
theorem dX1_putIn_46 : decode cX1_putIn 46 = .ok (.invokevirtual 52, 3) := by decide +kernel
theorem dX1_putIn_49 : decode cX1_putIn 49 = .ok (.istore 5, 2) := by decide +kernel
theorem dX1_putIn_51 : decode cX1_putIn 51 = .ok (.aload_n 0, 1) := by decide +kernel
theorem dX1_putIn_52 : decode cX1_putIn 52 = .ok (.getfield 28, 3) := by decide +kernel
theorem dX1_putIn_55 : decode cX1_putIn 55 = .ok (.istore 6, 2) := by decide +kernel
theorem dX1_putIn_57 : decode cX1_putIn 57 = .ok (.iload 6, 2) := by decide +kernel
theorem dX1_putIn_59 : decode cX1_putIn 59 = .ok (.iload 5, 2) := by decide +kernel
theorem dX1_putIn_61 : decode cX1_putIn 61 = .ok (.if_icmp .le 41, 3) := by decide +kernel
theorem dX1_putIn_64 : decode cX1_putIn 64 = .ok (.aload_n 0, 1) := by decide +kernel
theorem dX1_putIn_65 : decode cX1_putIn 65 = .ok (.getfield 15, 3) := by decide +kernel
theorem dX1_putIn_68 : decode cX1_putIn 68 = .ok (.iload 6, 2) := by decide +kernel
theorem dX1_putIn_70 : decode cX1_putIn 70 = .ok (.aload_n 0, 1) := by decide +kernel
theorem dX1_putIn_71 : decode cX1_putIn 71 = .ok (.getfield 15, 3) := by decide +kernel
theorem dX1_putIn_74 : decode cX1_putIn 74 = .ok (.iload 6, 2) := by decide +kernel
theorem dX1_putIn_76 : decode cX1_putIn 76 = .ok (.iconst 1, 1) := by decide +kernel
theorem dX1_putIn_77 : decode cX1_putIn 77 = .ok (.isub, 1) := by decide +kernel
theorem dX1_putIn_78 : decode cX1_putIn 78 = .ok (.iaload, 1) := by decide +kernel
theorem dX1_putIn_79 : decode cX1_putIn 79 = .ok (.iastore, 1) := by decide +kernel
theorem dX1_putIn_80 : decode cX1_putIn 80 = .ok (.aload_n 0, 1) := by decide +kernel
theorem dX1_putIn_81 : decode cX1_putIn 81 = .ok (.getfield 18, 3) := by decide +kernel
theorem dX1_putIn_84 : decode cX1_putIn 84 = .ok (.iload 6, 2) := by decide +kernel
theorem dX1_putIn_86 : decode cX1_putIn 86 = .ok (.aload_n 0, 1) := by decide +kernel
theorem dX1_putIn_87 : decode cX1_putIn 87 = .ok (.getfield 18, 3) := by decide +kernel
theorem dX1_putIn_90 : decode cX1_putIn 90 = .ok (.iload 6, 2) := by decide +kernel
theorem dX1_putIn_92 : decode cX1_putIn 92 = .ok (.iconst 1, 1) := by decide +kernel
theorem dX1_putIn_93 : decode cX1_putIn 93 = .ok (.isub, 1) := by decide +kernel
theorem dX1_putIn_94 : decode cX1_putIn 94 = .ok (.iaload, 1) := by decide +kernel
theorem dX1_putIn_95 : decode cX1_putIn 95 = .ok (.iastore, 1) := by decide +kernel
theorem dX1_putIn_96 : decode cX1_putIn 96 = .ok (.iinc 6 (-1), 3) := by decide +kernel
theorem dX1_putIn_99 : decode cX1_putIn 99 = .ok (.goto (-42), 3) := by decide +kernel
theorem dX1_putIn_102 : decode cX1_putIn 102 = .ok (.aload_n 0, 1) := by decide +kernel
theorem dX1_putIn_103 : decode cX1_putIn 103 = .ok (.getfield 9, 3) := by decide +kernel
theorem dX1_putIn_106 : decode cX1_putIn 106 = .ok (.iload_n 1, 1) := by decide +kernel
theorem dX1_putIn_107 : decode cX1_putIn 107 = .ok (.dup2, 1) := by decide +kernel
theorem dX1_putIn_108 : decode cX1_putIn 108 = .ok (.iaload, 1) := by decide +kernel
theorem dX1_putIn_109 : decode cX1_putIn 109 = .ok (.iconst 1, 1) := by decide +kernel
theorem dX1_putIn_110 : decode cX1_putIn 110 = .ok (.iadd, 1) := by decide +kernel
theorem dX1_putIn_111 : decode cX1_putIn 111 = .ok (.iastore, 1) := by decide +kernel
theorem dX1_putIn_112 : decode cX1_putIn 112 = .ok (.aload_n 0, 1) := by decide +kernel
theorem dX1_putIn_113 : decode cX1_putIn 113 = .ok (.dup, 1) := by decide +kernel
theorem dX1_putIn_114 : decode cX1_putIn 114 = .ok (.getfield 28, 3) := by decide +kernel
theorem dX1_putIn_117 : decode cX1_putIn 117 = .ok (.iconst 1, 1) := by decide +kernel
theorem dX1_putIn_118 : decode cX1_putIn 118 = .ok (.iadd, 1) := by decide +kernel
theorem dX1_putIn_119 : decode cX1_putIn 119 = .ok (.putfield 28, 3) := by decide +kernel
theorem dX1_putIn_122 : decode cX1_putIn 122 = .ok (.aload_n 0, 1) := by decide +kernel
theorem dX1_putIn_123 : decode cX1_putIn 123 = .ok (.iload 5, 2) := by decide +kernel
theorem dX1_putIn_125 : decode cX1_putIn 125 = .ok (.iload_n 3, 1) := by decide +kernel
theorem dX1_putIn_126 : decode cX1_putIn 126 = .ok (.iload 4, 2) := by decide +kernel
theorem dX1_putIn_128 : decode cX1_putIn 128 = .ok (.invokevirtual 56, 3) := by decide +kernel
theorem dX1_putIn_131 : decode cX1_putIn 131 = .ok (.aload_n 0, 1) := by decide +kernel
theorem dX1_putIn_132 : decode cX1_putIn 132 = .ok (.invokevirtual 60, 3) := by decide +kernel
theorem dX1_putIn_135 : decode cX1_putIn 135 = .ok (.return_, 1) := by decide +kernel
theorem dX1_takeOut_0 : decode cX1_takeOut 0 = .ok (.aload_n 0, 1) := by decide +kernel
theorem dX1_takeOut_1 : decode cX1_takeOut 1 = .ok (.iload_n 1, 1) := by decide +kernel
theorem dX1_takeOut_2 : decode cX1_takeOut 2 = .ok (.iload_n 2, 1) := by decide +kernel
theorem dX1_takeOut_3 : decode cX1_takeOut 3 = .ok (.invokevirtual 63, 3) := by decide +kernel
theorem dX1_takeOut_6 : decode cX1_takeOut 6 = .ok (.ifCond .ne 4, 3) := by decide +kernel
theorem dX1_takeOut_9 : decode cX1_takeOut 9 = .ok (.return_, 1) := by decide +kernel
theorem dX1_takeOut_10 : decode cX1_takeOut 10 = .ok (.aload_n 0, 1) := by decide +kernel
theorem dX1_takeOut_11 : decode cX1_takeOut 11 = .ok (.aload_n 0, 1) := by decide +kernel
theorem dX1_takeOut_12 : decode cX1_takeOut 12 = .ok (.iload_n 1, 1) := by decide +kernel
theorem dX1_takeOut_13 : decode cX1_takeOut 13 = .ok (.iload_n 2, 1) := by decide +kernel
theorem dX1_takeOut_14 : decode cX1_takeOut 14 = .ok (.invokevirtual 52, 3) := by decide +kernel
theorem dX1_takeOut_17 : decode cX1_takeOut 17 = .ok (.iconst 1, 1) := by decide +kernel
theorem dX1_takeOut_18 : decode cX1_takeOut 18 = .ok (.invokevirtual 67, 3) := by decide +kernel
theorem dX1_takeOut_21 : decode cX1_takeOut 21 = .ok (.aload_n 0, 1) := by decide +kernel
theorem dX1_takeOut_22 : decode cX1_takeOut 22 = .ok (.getfield 9, 3) := by decide +kernel
theorem dX1_takeOut_25 : decode cX1_takeOut 25 = .ok (.iload_n 1, 1) := by decide +kernel
theorem dX1_takeOut_26 : decode cX1_takeOut 26 = .ok (.dup2, 1) := by decide +kernel
theorem dX1_takeOut_27 : decode cX1_takeOut 27 = .ok (.iaload, 1) := by decide +kernel
theorem dX1_takeOut_28 : decode cX1_takeOut 28 = .ok (.iconst 1, 1) := by decide +kernel
theorem dX1_takeOut_29 : decode cX1_takeOut 29 = .ok (.isub, 1) := by decide +kernel
theorem dX1_takeOut_30 : decode cX1_takeOut 30 = .ok (.iastore, 1) := by decide +kernel
theorem dX1_takeOut_31 : decode cX1_takeOut 31 = .ok (.aload_n 0, 1) := by decide +kernel
theorem dX1_takeOut_32 : decode cX1_takeOut 32 = .ok (.invokevirtual 60, 3) := by decide +kernel
theorem dX1_takeOut_35 : decode cX1_takeOut 35 = .ok (.return_, 1) := by decide +kernel
theorem dX1_dropRing_0 : decode cX1_dropRing 0 = .ok (.aload_n 0, 1) := by decide +kernel
theorem dX1_dropRing_1 : decode cX1_dropRing 1 = .ok (.iload_n 1, 1) := by decide +kernel
theorem dX1_dropRing_2 : decode cX1_dropRing 2 = .ok (.invokevirtual 37, 3) := by decide +kernel
theorem dX1_dropRing_5 : decode cX1_dropRing 5 = .ok (.ifCond .ne 4, 3) := by decide +kernel
theorem dX1_dropRing_8 : decode cX1_dropRing 8 = .ok (.return_, 1) := by decide +kernel
theorem dX1_dropRing_9 : decode cX1_dropRing 9 = .ok (.aload_n 0, 1) := by decide +kernel
theorem dX1_dropRing_10 : decode cX1_dropRing 10 = .ok (.aload_n 0, 1) := by decide +kernel
theorem dX1_dropRing_11 : decode cX1_dropRing 11 = .ok (.iload_n 1, 1) := by decide +kernel
theorem dX1_dropRing_12 : decode cX1_dropRing 12 = .ok (.invokevirtual 41, 3) := by decide +kernel
theorem dX1_dropRing_15 : decode cX1_dropRing 15 = .ok (.aload_n 0, 1) := by decide +kernel
theorem dX1_dropRing_16 : decode cX1_dropRing 16 = .ok (.getfield 9, 3) := by decide +kernel
theorem dX1_dropRing_19 : decode cX1_dropRing 19 = .ok (.iload_n 1, 1) := by decide +kernel
theorem dX1_dropRing_20 : decode cX1_dropRing 20 = .ok (.iaload, 1) := by decide +kernel
theorem dX1_dropRing_21 : decode cX1_dropRing 21 = .ok (.invokevirtual 67, 3) := by decide +kernel
theorem dX1_dropRing_24 : decode cX1_dropRing 24 = .ok (.iload_n 1, 1) := by decide +kernel
theorem dX1_dropRing_25 : decode cX1_dropRing 25 = .ok (.istore_n 2, 1) := by decide +kernel
theorem dX1_dropRing_26 : decode cX1_dropRing 26 = .ok (.iload_n 2, 1) := by decide +kernel
theorem dX1_dropRing_27 : decode cX1_dropRing 27 = .ok (.iconst 1, 1) := by decide +kernel
theorem dX1_dropRing_28 : decode cX1_dropRing 28 = .ok (.iadd, 1) := by decide +kernel
theorem dX1_dropRing_29 : decode cX1_dropRing 29 = .ok (.aload_n 0, 1) := by decide +kernel
theorem dX1_dropRing_30 : decode cX1_dropRing 30 = .ok (.getfield 24, 3) := by decide +kernel
theorem dX1_dropRing_33 : decode cX1_dropRing 33 = .ok (.if_icmp .ge 23, 3) := by decide +kernel
theorem dX1_dropRing_36 : decode cX1_dropRing 36 = .ok (.aload_n 0, 1) := by decide +kernel
theorem dX1_dropRing_37 : decode cX1_dropRing 37 = .ok (.getfield 9, 3) := by decide +kernel
theorem dX1_dropRing_40 : decode cX1_dropRing 40 = .ok (.iload_n 2, 1) := by decide +kernel
theorem dX1_dropRing_41 : decode cX1_dropRing 41 = .ok (.aload_n 0, 1) := by decide +kernel
theorem dX1_dropRing_42 : decode cX1_dropRing 42 = .ok (.getfield 9, 3) := by decide +kernel
theorem dX1_dropRing_45 : decode cX1_dropRing 45 = .ok (.iload_n 2, 1) := by decide +kernel
theorem dX1_dropRing_46 : decode cX1_dropRing 46 = .ok (.iconst 1, 1) := by decide +kernel
theorem dX1_dropRing_47 : decode cX1_dropRing 47 = .ok (.iadd, 1) := by decide +kernel
theorem dX1_dropRing_48 : decode cX1_dropRing 48 = .ok (.iaload, 1) := by decide +kernel
theorem dX1_dropRing_49 : decode cX1_dropRing 49 = .ok (.iastore, 1) := by decide +kernel
theorem dX1_dropRing_50 : decode cX1_dropRing 50 = .ok (.iinc 2 1, 3) := by decide +kernel
theorem dX1_dropRing_53 : decode cX1_dropRing 53 = .ok (.goto (-27), 3) := by decide +kernel
theorem dX1_dropRing_56 : decode cX1_dropRing 56 = .ok (.aload_n 0, 1) := by decide +kernel
theorem dX1_dropRing_57 : decode cX1_dropRing 57 = .ok (.dup, 1) := by decide +kernel
theorem dX1_dropRing_58 : decode cX1_dropRing 58 = .ok (.getfield 24, 3) := by decide +kernel
theorem dX1_dropRing_61 : decode cX1_dropRing 61 = .ok (.iconst 1, 1) := by decide +kernel
theorem dX1_dropRing_62 : decode cX1_dropRing 62 = .ok (.isub, 1) := by decide +kernel
theorem dX1_dropRing_63 : decode cX1_dropRing 63 = .ok (.putfield 24, 3) := by decide +kernel
theorem dX1_dropRing_66 : decode cX1_dropRing 66 = .ok (.aload_n 0, 1) := by decide +kernel
theorem dX1_dropRing_67 : decode cX1_dropRing 67 = .ok (.invokevirtual 60, 3) := by decide +kernel
theorem dX1_dropRing_70 : decode cX1_dropRing 70 = .ok (.return_, 1) := by decide +kernel
theorem dX1_closeGap_0 : decode cX1_closeGap 0 = .ok (.iload_n 1, 1) := by decide +kernel
theorem dX1_closeGap_1 : decode cX1_closeGap 1 = .ok (.istore_n 3, 1) := by decide +kernel
theorem dX1_closeGap_2 : decode cX1_closeGap 2 = .ok (.iload_n 3, 1) := by decide +kernel
theorem dX1_closeGap_3 : decode cX1_closeGap 3 = .ok (.iload_n 2, 1) := by decide +kernel
theorem dX1_closeGap_4 : decode cX1_closeGap 4 = .ok (.iadd, 1) := by decide +kernel
theorem dX1_closeGap_5 : decode cX1_closeGap 5 = .ok (.aload_n 0, 1) := by decide +kernel
theorem dX1_closeGap_6 : decode cX1_closeGap 6 = .ok (.getfield 28, 3) := by decide +kernel
theorem dX1_closeGap_9 : decode cX1_closeGap 9 = .ok (.if_icmp .ge 37, 3) := by decide +kernel
theorem dX1_closeGap_12 : decode cX1_closeGap 12 = .ok (.aload_n 0, 1) := by decide +kernel
theorem dX1_closeGap_13 : decode cX1_closeGap 13 = .ok (.getfield 15, 3) := by decide +kernel
theorem dX1_closeGap_16 : decode cX1_closeGap 16 = .ok (.iload_n 3, 1) := by decide +kernel
theorem dX1_closeGap_17 : decode cX1_closeGap 17 = .ok (.aload_n 0, 1) := by decide +kernel
theorem dX1_closeGap_18 : decode cX1_closeGap 18 = .ok (.getfield 15, 3) := by decide +kernel
theorem dX1_closeGap_21 : decode cX1_closeGap 21 = .ok (.iload_n 3, 1) := by decide +kernel
theorem dX1_closeGap_22 : decode cX1_closeGap 22 = .ok (.iload_n 2, 1) := by decide +kernel
theorem dX1_closeGap_23 : decode cX1_closeGap 23 = .ok (.iadd, 1) := by decide +kernel
theorem dX1_closeGap_24 : decode cX1_closeGap 24 = .ok (.iaload, 1) := by decide +kernel
theorem dX1_closeGap_25 : decode cX1_closeGap 25 = .ok (.iastore, 1) := by decide +kernel
theorem dX1_closeGap_26 : decode cX1_closeGap 26 = .ok (.aload_n 0, 1) := by decide +kernel
theorem dX1_closeGap_27 : decode cX1_closeGap 27 = .ok (.getfield 18, 3) := by decide +kernel
theorem dX1_closeGap_30 : decode cX1_closeGap 30 = .ok (.iload_n 3, 1) := by decide +kernel
theorem dX1_closeGap_31 : decode cX1_closeGap 31 = .ok (.aload_n 0, 1) := by decide +kernel
theorem dX1_closeGap_32 : decode cX1_closeGap 32 = .ok (.getfield 18, 3) := by decide +kernel
theorem dX1_closeGap_35 : decode cX1_closeGap 35 = .ok (.iload_n 3, 1) := by decide +kernel
theorem dX1_closeGap_36 : decode cX1_closeGap 36 = .ok (.iload_n 2, 1) := by decide +kernel
theorem dX1_closeGap_37 : decode cX1_closeGap 37 = .ok (.iadd, 1) := by decide +kernel
theorem dX1_closeGap_38 : decode cX1_closeGap 38 = .ok (.iaload, 1) := by decide +kernel
theorem dX1_closeGap_39 : decode cX1_closeGap 39 = .ok (.iastore, 1) := by decide +kernel
theorem dX1_closeGap_40 : decode cX1_closeGap 40 = .ok (.iinc 3 1, 3) := by decide +kernel
theorem dX1_closeGap_43 : decode cX1_closeGap 43 = .ok (.goto (-41), 3) := by decide +kernel
theorem dX1_closeGap_46 : decode cX1_closeGap 46 = .ok (.aload_n 0, 1) := by decide +kernel
theorem dX1_closeGap_47 : decode cX1_closeGap 47 = .ok (.dup, 1) := by decide +kernel
theorem dX1_closeGap_48 : decode cX1_closeGap 48 = .ok (.getfield 28, 3) := by decide +kernel
theorem dX1_closeGap_51 : decode cX1_closeGap 51 = .ok (.iload_n 2, 1) := by decide +kernel
theorem dX1_closeGap_52 : decode cX1_closeGap 52 = .ok (.isub, 1) := by decide +kernel
theorem dX1_closeGap_53 : decode cX1_closeGap 53 = .ok (.putfield 28, 3) := by decide +kernel
theorem dX1_closeGap_56 : decode cX1_closeGap 56 = .ok (.return_, 1) := by decide +kernel
theorem dX1_relink_0 : decode cX1_relink 0 = .ok (.iconst 0, 1) := by decide +kernel
theorem dX1_relink_1 : decode cX1_relink 1 = .ok (.istore_n 1, 1) := by decide +kernel
theorem dX1_relink_2 : decode cX1_relink 2 = .ok (.iconst 0, 1) := by decide +kernel
theorem dX1_relink_3 : decode cX1_relink 3 = .ok (.istore_n 2, 1) := by decide +kernel
theorem dX1_relink_4 : decode cX1_relink 4 = .ok (.iload_n 2, 1) := by decide +kernel
theorem dX1_relink_5 : decode cX1_relink 5 = .ok (.aload_n 0, 1) := by decide +kernel
theorem dX1_relink_6 : decode cX1_relink 6 = .ok (.getfield 24, 3) := by decide +kernel
theorem dX1_relink_9 : decode cX1_relink 9 = .ok (.if_icmp .ge 58, 3) := by decide +kernel
theorem dX1_relink_12 : decode cX1_relink 12 = .ok (.iload_n 1, 1) := by decide +kernel
theorem dX1_relink_13 : decode cX1_relink 13 = .ok (.aload_n 0, 1) := by decide +kernel
theorem dX1_relink_14 : decode cX1_relink 14 = .ok (.getfield 9, 3) := by decide +kernel
theorem dX1_relink_17 : decode cX1_relink 17 = .ok (.iload_n 2, 1) := by decide +kernel
theorem dX1_relink_18 : decode cX1_relink 18 = .ok (.iaload, 1) := by decide +kernel
theorem dX1_relink_19 : decode cX1_relink 19 = .ok (.iadd, 1) := by decide +kernel
theorem dX1_relink_20 : decode cX1_relink 20 = .ok (.istore_n 3, 1) := by decide +kernel
theorem dX1_relink_21 : decode cX1_relink 21 = .ok (.iload_n 1, 1) := by decide +kernel
theorem dX1_relink_22 : decode cX1_relink 22 = .ok (.istore 4, 2) := by decide +kernel
theorem dX1_relink_24 : decode cX1_relink 24 = .ok (.iload 4, 2) := by decide +kernel
theorem dX1_relink_26 : decode cX1_relink 26 = .ok (.iload_n 3, 1) := by decide +kernel
theorem dX1_relink_27 : decode cX1_relink 27 = .ok (.if_icmp .ge 32, 3) := by decide +kernel
theorem dX1_relink_30 : decode cX1_relink 30 = .ok (.aload_n 0, 1) := by decide +kernel
theorem dX1_relink_31 : decode cX1_relink 31 = .ok (.getfield 21, 3) := by decide +kernel
theorem dX1_relink_34 : decode cX1_relink 34 = .ok (.iload 4, 2) := by decide +kernel
theorem dX1_relink_36 : decode cX1_relink 36 = .ok (.iload 4, 2) := by decide +kernel
theorem dX1_relink_38 : decode cX1_relink 38 = .ok (.iconst 1, 1) := by decide +kernel
theorem dX1_relink_39 : decode cX1_relink 39 = .ok (.iadd, 1) := by decide +kernel
theorem dX1_relink_40 : decode cX1_relink 40 = .ok (.iload_n 3, 1) := by decide +kernel
theorem dX1_relink_41 : decode cX1_relink 41 = .ok (.if_icmp .ge 10, 3) := by decide +kernel
theorem dX1_relink_44 : decode cX1_relink 44 = .ok (.iload 4, 2) := by decide +kernel
theorem dX1_relink_46 : decode cX1_relink 46 = .ok (.iconst 1, 1) := by decide +kernel
theorem dX1_relink_47 : decode cX1_relink 47 = .ok (.iadd, 1) := by decide +kernel
theorem dX1_relink_48 : decode cX1_relink 48 = .ok (.goto 4, 3) := by decide +kernel
theorem dX1_relink_51 : decode cX1_relink 51 = .ok (.iload_n 1, 1) := by decide +kernel
theorem dX1_relink_52 : decode cX1_relink 52 = .ok (.iastore, 1) := by decide +kernel
theorem dX1_relink_53 : decode cX1_relink 53 = .ok (.iinc 4 1, 3) := by decide +kernel
theorem dX1_relink_56 : decode cX1_relink 56 = .ok (.goto (-32), 3) := by decide +kernel
theorem dX1_relink_59 : decode cX1_relink 59 = .ok (.iload_n 3, 1) := by decide +kernel
theorem dX1_relink_60 : decode cX1_relink 60 = .ok (.istore_n 1, 1) := by decide +kernel
theorem dX1_relink_61 : decode cX1_relink 61 = .ok (.iinc 2 1, 3) := by decide +kernel
theorem dX1_relink_64 : decode cX1_relink 64 = .ok (.goto (-60), 3) := by decide +kernel
theorem dX1_relink_67 : decode cX1_relink 67 = .ok (.return_, 1) := by decide +kernel
theorem dX1_shiftAll_0 : decode cX1_shiftAll 0 = .ok (.iconst 0, 1) := by decide +kernel
theorem dX1_shiftAll_1 : decode cX1_shiftAll 1 = .ok (.istore_n 3, 1) := by decide +kernel
theorem dX1_shiftAll_2 : decode cX1_shiftAll 2 = .ok (.iload_n 3, 1) := by decide +kernel
theorem dX1_shiftAll_3 : decode cX1_shiftAll 3 = .ok (.aload_n 0, 1) := by decide +kernel
theorem dX1_shiftAll_4 : decode cX1_shiftAll 4 = .ok (.getfield 28, 3) := by decide +kernel
theorem dX1_shiftAll_7 : decode cX1_shiftAll 7 = .ok (.if_icmp .ge 29, 3) := by decide +kernel
theorem dX1_shiftAll_10 : decode cX1_shiftAll 10 = .ok (.aload_n 0, 1) := by decide +kernel
theorem dX1_shiftAll_11 : decode cX1_shiftAll 11 = .ok (.getfield 15, 3) := by decide +kernel
theorem dX1_shiftAll_14 : decode cX1_shiftAll 14 = .ok (.iload_n 3, 1) := by decide +kernel
theorem dX1_shiftAll_15 : decode cX1_shiftAll 15 = .ok (.dup2, 1) := by decide +kernel
theorem dX1_shiftAll_16 : decode cX1_shiftAll 16 = .ok (.iaload, 1) := by decide +kernel
theorem dX1_shiftAll_17 : decode cX1_shiftAll 17 = .ok (.iload_n 1, 1) := by decide +kernel
theorem dX1_shiftAll_18 : decode cX1_shiftAll 18 = .ok (.iadd, 1) := by decide +kernel
theorem dX1_shiftAll_19 : decode cX1_shiftAll 19 = .ok (.iastore, 1) := by decide +kernel
theorem dX1_shiftAll_20 : decode cX1_shiftAll 20 = .ok (.aload_n 0, 1) := by decide +kernel
theorem dX1_shiftAll_21 : decode cX1_shiftAll 21 = .ok (.getfield 18, 3) := by decide +kernel
theorem dX1_shiftAll_24 : decode cX1_shiftAll 24 = .ok (.iload_n 3, 1) := by decide +kernel
theorem dX1_shiftAll_25 : decode cX1_shiftAll 25 = .ok (.dup2, 1) := by decide +kernel
theorem dX1_shiftAll_26 : decode cX1_shiftAll 26 = .ok (.iaload, 1) := by decide +kernel
theorem dX1_shiftAll_27 : decode cX1_shiftAll 27 = .ok (.iload_n 2, 1) := by decide +kernel
theorem dX1_shiftAll_28 : decode cX1_shiftAll 28 = .ok (.iadd, 1) := by decide +kernel
theorem dX1_shiftAll_29 : decode cX1_shiftAll 29 = .ok (.iastore, 1) := by decide +kernel
theorem dX1_shiftAll_30 : decode cX1_shiftAll 30 = .ok (.iinc 3 1, 3) := by decide +kernel
theorem dX1_shiftAll_33 : decode cX1_shiftAll 33 = .ok (.goto (-31), 3) := by decide +kernel
theorem dX1_shiftAll_36 : decode cX1_shiftAll 36 = .ok (.return_, 1) := by decide +kernel
theorem dX1_turnQuarter_0 : decode cX1_turnQuarter 0 = .ok (.iconst 0, 1) := by decide +kernel
theorem dX1_turnQuarter_1 : decode cX1_turnQuarter 1 = .ok (.istore_n 1, 1) := by decide +kernel
theorem dX1_turnQuarter_2 : decode cX1_turnQuarter 2 = .ok (.iload_n 1, 1) := by decide +kernel
theorem dX1_turnQuarter_3 : decode cX1_turnQuarter 3 = .ok (.aload_n 0, 1) := by decide +kernel
theorem dX1_turnQuarter_4 : decode cX1_turnQuarter 4 = .ok (.getfield 28, 3) := by decide +kernel
theorem dX1_turnQuarter_7 : decode cX1_turnQuarter 7 = .ok (.if_icmp .ge 38, 3) := by decide +kernel
theorem dX1_turnQuarter_10 : decode cX1_turnQuarter 10 = .ok (.aload_n 0, 1) := by decide +kernel
theorem dX1_turnQuarter_11 : decode cX1_turnQuarter 11 = .ok (.getfield 15, 3) := by decide +kernel
theorem dX1_turnQuarter_14 : decode cX1_turnQuarter 14 = .ok (.iload_n 1, 1) := by decide +kernel
theorem dX1_turnQuarter_15 : decode cX1_turnQuarter 15 = .ok (.iaload, 1) := by decide +kernel
theorem dX1_turnQuarter_16 : decode cX1_turnQuarter 16 = .ok (.istore_n 2, 1) := by decide +kernel
theorem dX1_turnQuarter_17 : decode cX1_turnQuarter 17 = .ok (.aload_n 0, 1) := by decide +kernel
theorem dX1_turnQuarter_18 : decode cX1_turnQuarter 18 = .ok (.getfield 15, 3) := by decide +kernel
theorem dX1_turnQuarter_21 : decode cX1_turnQuarter 21 = .ok (.iload_n 1, 1) := by decide +kernel
theorem dX1_turnQuarter_22 : decode cX1_turnQuarter 22 = .ok (.bipush 15, 2) := by decide +kernel
theorem dX1_turnQuarter_24 : decode cX1_turnQuarter 24 = .ok (.aload_n 0, 1) := by decide +kernel
theorem dX1_turnQuarter_25 : decode cX1_turnQuarter 25 = .ok (.getfield 18, 3) := by decide +kernel
theorem dX1_turnQuarter_28 : decode cX1_turnQuarter 28 = .ok (.iload_n 1, 1) := by decide +kernel
theorem dX1_turnQuarter_29 : decode cX1_turnQuarter 29 = .ok (.iaload, 1) := by decide +kernel
theorem dX1_turnQuarter_30 : decode cX1_turnQuarter 30 = .ok (.isub, 1) := by decide +kernel
theorem dX1_turnQuarter_31 : decode cX1_turnQuarter 31 = .ok (.iastore, 1) := by decide +kernel
theorem dX1_turnQuarter_32 : decode cX1_turnQuarter 32 = .ok (.aload_n 0, 1) := by decide +kernel
theorem dX1_turnQuarter_33 : decode cX1_turnQuarter 33 = .ok (.getfield 18, 3) := by decide +kernel
theorem dX1_turnQuarter_36 : decode cX1_turnQuarter 36 = .ok (.iload_n 1, 1) := by decide +kernel
theorem dX1_turnQuarter_37 : decode cX1_turnQuarter 37 = .ok (.iload_n 2, 1) := by decide +kernel
theorem dX1_turnQuarter_38 : decode cX1_turnQuarter 38 = .ok (.iastore, 1) := by decide +kernel
theorem dX1_turnQuarter_39 : decode cX1_turnQuarter 39 = .ok (.iinc 1 1, 3) := by decide +kernel
theorem dX1_turnQuarter_42 : decode cX1_turnQuarter 42 = .ok (.goto (-40), 3) := by decide +kernel
theorem dX1_turnQuarter_45 : decode cX1_turnQuarter 45 = .ok (.return_, 1) := by decide +kernel
theorem dX1_mirrorAll_0 : decode cX1_mirrorAll 0 = .ok (.iconst 0, 1) := by decide +kernel
theorem dX1_mirrorAll_1 : decode cX1_mirrorAll 1 = .ok (.istore_n 1, 1) := by decide +kernel
theorem dX1_mirrorAll_2 : decode cX1_mirrorAll 2 = .ok (.iload_n 1, 1) := by decide +kernel
theorem dX1_mirrorAll_3 : decode cX1_mirrorAll 3 = .ok (.aload_n 0, 1) := by decide +kernel
theorem dX1_mirrorAll_4 : decode cX1_mirrorAll 4 = .ok (.getfield 28, 3) := by decide +kernel
theorem dX1_mirrorAll_7 : decode cX1_mirrorAll 7 = .ok (.if_icmp .ge 24, 3) := by decide +kernel
theorem dX1_mirrorAll_10 : decode cX1_mirrorAll 10 = .ok (.aload_n 0, 1) := by decide +kernel
theorem dX1_mirrorAll_11 : decode cX1_mirrorAll 11 = .ok (.getfield 15, 3) := by decide +kernel
theorem dX1_mirrorAll_14 : decode cX1_mirrorAll 14 = .ok (.iload_n 1, 1) := by decide +kernel
theorem dX1_mirrorAll_15 : decode cX1_mirrorAll 15 = .ok (.bipush 15, 2) := by decide +kernel
theorem dX1_mirrorAll_17 : decode cX1_mirrorAll 17 = .ok (.aload_n 0, 1) := by decide +kernel
theorem dX1_mirrorAll_18 : decode cX1_mirrorAll 18 = .ok (.getfield 15, 3) := by decide +kernel
theorem dX1_mirrorAll_21 : decode cX1_mirrorAll 21 = .ok (.iload_n 1, 1) := by decide +kernel
theorem dX1_mirrorAll_22 : decode cX1_mirrorAll 22 = .ok (.iaload, 1) := by decide +kernel
theorem dX1_mirrorAll_23 : decode cX1_mirrorAll 23 = .ok (.isub, 1) := by decide +kernel
theorem dX1_mirrorAll_24 : decode cX1_mirrorAll 24 = .ok (.iastore, 1) := by decide +kernel
theorem dX1_mirrorAll_25 : decode cX1_mirrorAll 25 = .ok (.iinc 1 1, 3) := by decide +kernel
theorem dX1_mirrorAll_28 : decode cX1_mirrorAll 28 = .ok (.goto (-26), 3) := by decide +kernel
theorem dX1_mirrorAll_31 : decode cX1_mirrorAll 31 = .ok (.return_, 1) := by decide +kernel
theorem dX1_bend_0 : decode cX1_bend 0 = .ok (.iload_n 1, 1) := by decide +kernel
theorem dX1_bend_1 : decode cX1_bend 1 = .ok (.ifCond .lt 35, 3) := by decide +kernel
theorem dX1_bend_4 : decode cX1_bend 4 = .ok (.iload_n 2, 1) := by decide +kernel
theorem dX1_bend_5 : decode cX1_bend 5 = .ok (.ifCond .lt 31, 3) := by decide +kernel
theorem dX1_bend_8 : decode cX1_bend 8 = .ok (.iload_n 3, 1) := by decide +kernel
theorem dX1_bend_9 : decode cX1_bend 9 = .ok (.ifCond .lt 27, 3) := by decide +kernel
theorem dX1_bend_12 : decode cX1_bend 12 = .ok (.iload_n 1, 1) := by decide +kernel
theorem dX1_bend_13 : decode cX1_bend 13 = .ok (.aload_n 0, 1) := by decide +kernel
theorem dX1_bend_14 : decode cX1_bend 14 = .ok (.getfield 28, 3) := by decide +kernel
theorem dX1_bend_17 : decode cX1_bend 17 = .ok (.if_icmp .ge 19, 3) := by decide +kernel
theorem dX1_bend_20 : decode cX1_bend 20 = .ok (.iload_n 2, 1) := by decide +kernel
theorem dX1_bend_21 : decode cX1_bend 21 = .ok (.aload_n 0, 1) := by decide +kernel
theorem dX1_bend_22 : decode cX1_bend 22 = .ok (.getfield 28, 3) := by decide +kernel
theorem dX1_bend_25 : decode cX1_bend 25 = .ok (.if_icmp .ge 11, 3) := by decide +kernel
theorem dX1_bend_28 : decode cX1_bend 28 = .ok (.iload_n 3, 1) := by decide +kernel
theorem dX1_bend_29 : decode cX1_bend 29 = .ok (.aload_n 0, 1) := by decide +kernel
theorem dX1_bend_30 : decode cX1_bend 30 = .ok (.getfield 28, 3) := by decide +kernel
theorem dX1_bend_33 : decode cX1_bend 33 = .ok (.if_icmp .lt 5, 3) := by decide +kernel
theorem dX1_bend_36 : decode cX1_bend 36 = .ok (.iconst 0, 1) := by decide +kernel
theorem dX1_bend_37 : decode cX1_bend 37 = .ok (.ireturn, 1) := by decide +kernel
theorem dX1_bend_38 : decode cX1_bend 38 = .ok (.aload_n 0, 1) := by decide +kernel
theorem dX1_bend_39 : decode cX1_bend 39 = .ok (.getfield 15, 3) := by decide +kernel
theorem dX1_bend_42 : decode cX1_bend 42 = .ok (.iload_n 2, 1) := by decide +kernel
theorem dX1_bend_43 : decode cX1_bend 43 = .ok (.iaload, 1) := by decide +kernel
theorem dX1_bend_44 : decode cX1_bend 44 = .ok (.aload_n 0, 1) := by decide +kernel
theorem dX1_bend_45 : decode cX1_bend 45 = .ok (.getfield 15, 3) := by decide +kernel
theorem dX1_bend_48 : decode cX1_bend 48 = .ok (.iload_n 1, 1) := by decide +kernel
theorem dX1_bend_49 : decode cX1_bend 49 = .ok (.iaload, 1) := by decide +kernel
theorem dX1_bend_50 : decode cX1_bend 50 = .ok (.isub, 1) := by decide +kernel
theorem dX1_bend_51 : decode cX1_bend 51 = .ok (.aload_n 0, 1) := by decide +kernel
theorem dX1_bend_52 : decode cX1_bend 52 = .ok (.getfield 18, 3) := by decide +kernel
theorem dX1_bend_55 : decode cX1_bend 55 = .ok (.iload_n 3, 1) := by decide +kernel
theorem dX1_bend_56 : decode cX1_bend 56 = .ok (.iaload, 1) := by decide +kernel
theorem dX1_bend_57 : decode cX1_bend 57 = .ok (.aload_n 0, 1) := by decide +kernel
theorem dX1_bend_58 : decode cX1_bend 58 = .ok (.getfield 18, 3) := by decide +kernel
theorem dX1_bend_61 : decode cX1_bend 61 = .ok (.iload_n 2, 1) := by decide +kernel
theorem dX1_bend_62 : decode cX1_bend 62 = .ok (.iaload, 1) := by decide +kernel
theorem dX1_bend_63 : decode cX1_bend 63 = .ok (.isub, 1) := by decide +kernel
theorem dX1_bend_64 : decode cX1_bend 64 = .ok (.imul, 1) := by decide +kernel
theorem dX1_bend_65 : decode cX1_bend 65 = .ok (.aload_n 0, 1) := by decide +kernel
theorem dX1_bend_66 : decode cX1_bend 66 = .ok (.getfield 18, 3) := by decide +kernel
theorem dX1_bend_69 : decode cX1_bend 69 = .ok (.iload_n 2, 1) := by decide +kernel
theorem dX1_bend_70 : decode cX1_bend 70 = .ok (.iaload, 1) := by decide +kernel
theorem dX1_bend_71 : decode cX1_bend 71 = .ok (.aload_n 0, 1) := by decide +kernel
theorem dX1_bend_72 : decode cX1_bend 72 = .ok (.getfield 18, 3) := by decide +kernel
theorem dX1_bend_75 : decode cX1_bend 75 = .ok (.iload_n 1, 1) := by decide +kernel
theorem dX1_bend_76 : decode cX1_bend 76 = .ok (.iaload, 1) := by decide +kernel
theorem dX1_bend_77 : decode cX1_bend 77 = .ok (.isub, 1) := by decide +kernel
theorem dX1_bend_78 : decode cX1_bend 78 = .ok (.aload_n 0, 1) := by decide +kernel
theorem dX1_bend_79 : decode cX1_bend 79 = .ok (.getfield 15, 3) := by decide +kernel
theorem dX1_bend_82 : decode cX1_bend 82 = .ok (.iload_n 3, 1) := by decide +kernel
theorem dX1_bend_83 : decode cX1_bend 83 = .ok (.iaload, 1) := by decide +kernel
theorem dX1_bend_84 : decode cX1_bend 84 = .ok (.aload_n 0, 1) := by decide +kernel
theorem dX1_bend_85 : decode cX1_bend 85 = .ok (.getfield 15, 3) := by decide +kernel
theorem dX1_bend_88 : decode cX1_bend 88 = .ok (.iload_n 2, 1) := by decide +kernel
theorem dX1_bend_89 : decode cX1_bend 89 = .ok (.iaload, 1) := by decide +kernel
theorem dX1_bend_90 : decode cX1_bend 90 = .ok (.isub, 1) := by decide +kernel
theorem dX1_bend_91 : decode cX1_bend 91 = .ok (.imul, 1) := by decide +kernel
theorem dX1_bend_92 : decode cX1_bend 92 = .ok (.isub, 1) := by decide +kernel
theorem dX1_bend_93 : decode cX1_bend 93 = .ok (.ireturn, 1) := by decide +kernel
theorem dX1_bendAt_0 : decode cX1_bendAt 0 = .ok (.aload_n 0, 1) := by decide +kernel
theorem dX1_bendAt_1 : decode cX1_bendAt 1 = .ok (.iload_n 1, 1) := by decide +kernel
theorem dX1_bendAt_2 : decode cX1_bendAt 2 = .ok (.iload_n 2, 1) := by decide +kernel
theorem dX1_bendAt_3 : decode cX1_bendAt 3 = .ok (.invokevirtual 52, 3) := by decide +kernel
theorem dX1_bendAt_6 : decode cX1_bendAt 6 = .ok (.istore_n 3, 1) := by decide +kernel
theorem dX1_bendAt_7 : decode cX1_bendAt 7 = .ok (.aload_n 0, 1) := by decide +kernel
theorem dX1_bendAt_8 : decode cX1_bendAt 8 = .ok (.aload_n 0, 1) := by decide +kernel
theorem dX1_bendAt_9 : decode cX1_bendAt 9 = .ok (.iload_n 1, 1) := by decide +kernel
theorem dX1_bendAt_10 : decode cX1_bendAt 10 = .ok (.iload_n 2, 1) := by decide +kernel
theorem dX1_bendAt_11 : decode cX1_bendAt 11 = .ok (.invokevirtual 71, 3) := by decide +kernel
theorem dX1_bendAt_14 : decode cX1_bendAt 14 = .ok (.iload_n 3, 1) := by decide +kernel
theorem dX1_bendAt_15 : decode cX1_bendAt 15 = .ok (.aload_n 0, 1) := by decide +kernel
theorem dX1_bendAt_16 : decode cX1_bendAt 16 = .ok (.iload_n 3, 1) := by decide +kernel
theorem dX1_bendAt_17 : decode cX1_bendAt 17 = .ok (.invokevirtual 74, 3) := by decide +kernel
theorem dX1_bendAt_20 : decode cX1_bendAt 20 = .ok (.invokevirtual 77, 3) := by decide +kernel
theorem dX1_bendAt_23 : decode cX1_bendAt 23 = .ok (.ireturn, 1) := by decide +kernel
theorem dX1_linesCross_0 : decode cX1_linesCross 0 = .ok (.aload_n 0, 1) := by decide +kernel
theorem dX1_linesCross_1 : decode cX1_linesCross 1 = .ok (.iload_n 1, 1) := by decide +kernel
theorem dX1_linesCross_2 : decode cX1_linesCross 2 = .ok (.iload_n 2, 1) := by decide +kernel
theorem dX1_linesCross_3 : decode cX1_linesCross 3 = .ok (.iload_n 3, 1) := by decide +kernel
theorem dX1_linesCross_4 : decode cX1_linesCross 4 = .ok (.invokevirtual 77, 3) := by decide +kernel
theorem dX1_linesCross_7 : decode cX1_linesCross 7 = .ok (.aload_n 0, 1) := by decide +kernel
theorem dX1_linesCross_8 : decode cX1_linesCross 8 = .ok (.iload_n 1, 1) := by decide +kernel
theorem dX1_linesCross_9 : decode cX1_linesCross 9 = .ok (.iload_n 2, 1) := by decide +kernel
theorem dX1_linesCross_10 : decode cX1_linesCross 10 = .ok (.iload 4, 2) := by decide +kernel
theorem dX1_linesCross_12 : decode cX1_linesCross 12 = .ok (.invokevirtual 77, 3) := by decide +kernel
theorem dX1_linesCross_15 : decode cX1_linesCross 15 = .ok (.imul, 1) := by decide +kernel
theorem dX1_linesCross_16 : decode cX1_linesCross 16 = .ok (.ifCond .ge 27, 3) := by decide +kernel
theorem dX1_linesCross_19 : decode cX1_linesCross 19 = .ok (.aload_n 0, 1) := by decide +kernel
theorem dX1_linesCross_20 : decode cX1_linesCross 20 = .ok (.iload_n 3, 1) := by decide +kernel
theorem dX1_linesCross_21 : decode cX1_linesCross 21 = .ok (.iload 4, 2) := by decide +kernel
theorem dX1_linesCross_23 : decode cX1_linesCross 23 = .ok (.iload_n 1, 1) := by decide +kernel
theorem dX1_linesCross_24 : decode cX1_linesCross 24 = .ok (.invokevirtual 77, 3) := by decide +kernel
theorem dX1_linesCross_27 : decode cX1_linesCross 27 = .ok (.aload_n 0, 1) := by decide +kernel
theorem dX1_linesCross_28 : decode cX1_linesCross 28 = .ok (.iload_n 3, 1) := by decide +kernel
theorem dX1_linesCross_29 : decode cX1_linesCross 29 = .ok (.iload 4, 2) := by decide +kernel
theorem dX1_linesCross_31 : decode cX1_linesCross 31 = .ok (.iload_n 2, 1) := by decide +kernel
theorem dX1_linesCross_32 : decode cX1_linesCross 32 = .ok (.invokevirtual 77, 3) := by decide +kernel
theorem dX1_linesCross_35 : decode cX1_linesCross 35 = .ok (.imul, 1) := by decide +kernel
theorem dX1_linesCross_36 : decode cX1_linesCross 36 = .ok (.ifCond .ge 7, 3) := by decide +kernel
theorem dX1_linesCross_39 : decode cX1_linesCross 39 = .ok (.iconst 1, 1) := by decide +kernel
theorem dX1_linesCross_40 : decode cX1_linesCross 40 = .ok (.goto 4, 3) := by decide +kernel
theorem dX1_linesCross_43 : decode cX1_linesCross 43 = .ok (.iconst 0, 1) := by decide +kernel
theorem dX1_linesCross_44 : decode cX1_linesCross 44 = .ok (.ireturn, 1) := by decide +kernel
theorem dX1_onLine_0 : decode cX1_onLine 0 = .ok (.iload_n 3, 1) := by decide +kernel
theorem dX1_onLine_1 : decode cX1_onLine 1 = .ok (.ifCond .lt 25, 3) := by decide +kernel
theorem dX1_onLine_4 : decode cX1_onLine 4 = .ok (.iload 4, 2) := by decide +kernel
theorem dX1_onLine_6 : decode cX1_onLine 6 = .ok (.ifCond .lt 20, 3) := by decide +kernel
theorem dX1_onLine_9 : decode cX1_onLine 9 = .ok (.iload_n 3, 1) := by decide +kernel
theorem dX1_onLine_10 : decode cX1_onLine 10 = .ok (.aload_n 0, 1) := by decide +kernel
theorem dX1_onLine_11 : decode cX1_onLine 11 = .ok (.getfield 28, 3) := by decide +kernel
theorem dX1_onLine_14 : decode cX1_onLine 14 = .ok (.if_icmp .ge 12, 3) := by decide +kernel
theorem dX1_onLine_17 : decode cX1_onLine 17 = .ok (.iload 4, 2) := by decide +kernel
theorem dX1_onLine_19 : decode cX1_onLine 19 = .ok (.aload_n 0, 1) := by decide +kernel
theorem dX1_onLine_20 : decode cX1_onLine 20 = .ok (.getfield 28, 3) := by decide +kernel
theorem dX1_onLine_23 : decode cX1_onLine 23 = .ok (.if_icmp .lt 5, 3) := by decide +kernel
theorem dX1_onLine_26 : decode cX1_onLine 26 = .ok (.iconst 0, 1) := by decide +kernel
theorem dX1_onLine_27 : decode cX1_onLine 27 = .ok (.ireturn, 1) := by decide +kernel
theorem dX1_onLine_28 : decode cX1_onLine 28 = .ok (.aload_n 0, 1) := by decide +kernel
theorem dX1_onLine_29 : decode cX1_onLine 29 = .ok (.getfield 15, 3) := by decide +kernel
theorem dX1_onLine_32 : decode cX1_onLine 32 = .ok (.iload 4, 2) := by decide +kernel
theorem dX1_onLine_34 : decode cX1_onLine 34 = .ok (.iaload, 1) := by decide +kernel
theorem dX1_onLine_35 : decode cX1_onLine 35 = .ok (.aload_n 0, 1) := by decide +kernel
theorem dX1_onLine_36 : decode cX1_onLine 36 = .ok (.getfield 15, 3) := by decide +kernel
theorem dX1_onLine_39 : decode cX1_onLine 39 = .ok (.iload_n 3, 1) := by decide +kernel
theorem dX1_onLine_40 : decode cX1_onLine 40 = .ok (.iaload, 1) := by decide +kernel
theorem dX1_onLine_41 : decode cX1_onLine 41 = .ok (.isub, 1) := by decide +kernel
theorem dX1_onLine_42 : decode cX1_onLine 42 = .ok (.iload_n 2, 1) := by decide +kernel
theorem dX1_onLine_43 : decode cX1_onLine 43 = .ok (.aload_n 0, 1) := by decide +kernel
theorem dX1_onLine_44 : decode cX1_onLine 44 = .ok (.getfield 18, 3) := by decide +kernel
theorem dX1_onLine_47 : decode cX1_onLine 47 = .ok (.iload_n 3, 1) := by decide +kernel
theorem dX1_onLine_48 : decode cX1_onLine 48 = .ok (.iaload, 1) := by decide +kernel
theorem dX1_onLine_49 : decode cX1_onLine 49 = .ok (.isub, 1) := by decide +kernel
theorem dX1_onLine_50 : decode cX1_onLine 50 = .ok (.imul, 1) := by decide +kernel
theorem dX1_onLine_51 : decode cX1_onLine 51 = .ok (.aload_n 0, 1) := by decide +kernel
theorem dX1_onLine_52 : decode cX1_onLine 52 = .ok (.getfield 18, 3) := by decide +kernel
theorem dX1_onLine_55 : decode cX1_onLine 55 = .ok (.iload 4, 2) := by decide +kernel
theorem dX1_onLine_57 : decode cX1_onLine 57 = .ok (.iaload, 1) := by decide +kernel
theorem dX1_onLine_58 : decode cX1_onLine 58 = .ok (.aload_n 0, 1) := by decide +kernel
theorem dX1_onLine_59 : decode cX1_onLine 59 = .ok (.getfield 18, 3) := by decide +kernel
theorem dX1_onLine_62 : decode cX1_onLine 62 = .ok (.iload_n 3, 1) := by decide +kernel
theorem dX1_onLine_63 : decode cX1_onLine 63 = .ok (.iaload, 1) := by decide +kernel
theorem dX1_onLine_64 : decode cX1_onLine 64 = .ok (.isub, 1) := by decide +kernel
theorem dX1_onLine_65 : decode cX1_onLine 65 = .ok (.iload_n 1, 1) := by decide +kernel
theorem dX1_onLine_66 : decode cX1_onLine 66 = .ok (.aload_n 0, 1) := by decide +kernel
theorem dX1_onLine_67 : decode cX1_onLine 67 = .ok (.getfield 15, 3) := by decide +kernel
theorem dX1_onLine_70 : decode cX1_onLine 70 = .ok (.iload_n 3, 1) := by decide +kernel
theorem dX1_onLine_71 : decode cX1_onLine 71 = .ok (.iaload, 1) := by decide +kernel
theorem dX1_onLine_72 : decode cX1_onLine 72 = .ok (.isub, 1) := by decide +kernel
theorem dX1_onLine_73 : decode cX1_onLine 73 = .ok (.imul, 1) := by decide +kernel
theorem dX1_onLine_74 : decode cX1_onLine 74 = .ok (.if_icmp .eq 5, 3) := by decide +kernel
theorem dX1_onLine_77 : decode cX1_onLine 77 = .ok (.iconst 0, 1) := by decide +kernel
theorem dX1_onLine_78 : decode cX1_onLine 78 = .ok (.ireturn, 1) := by decide +kernel
theorem dX1_onLine_79 : decode cX1_onLine 79 = .ok (.aload_n 0, 1) := by decide +kernel
theorem dX1_onLine_80 : decode cX1_onLine 80 = .ok (.getfield 15, 3) := by decide +kernel
theorem dX1_onLine_83 : decode cX1_onLine 83 = .ok (.iload_n 3, 1) := by decide +kernel
theorem dX1_onLine_84 : decode cX1_onLine 84 = .ok (.iaload, 1) := by decide +kernel
theorem dX1_onLine_85 : decode cX1_onLine 85 = .ok (.aload_n 0, 1) := by decide +kernel
theorem dX1_onLine_86 : decode cX1_onLine 86 = .ok (.getfield 15, 3) := by decide +kernel
theorem dX1_onLine_89 : decode cX1_onLine 89 = .ok (.iload 4, 2) := by decide +kernel
theorem dX1_onLine_91 : decode cX1_onLine 91 = .ok (.iaload, 1) := by decide +kernel
theorem dX1_onLine_92 : decode cX1_onLine 92 = .ok (.invokestatic 81, 3) := by decide +kernel
theorem dX1_onLine_95 : decode cX1_onLine 95 = .ok (.iload_n 1, 1) := by decide +kernel
theorem dX1_onLine_96 : decode cX1_onLine 96 = .ok (.if_icmp .gt 67, 3) := by decide +kernel
theorem dX1_onLine_99 : decode cX1_onLine 99 = .ok (.iload_n 1, 1) := by decide +kernel
theorem dX1_onLine_100 : decode cX1_onLine 100 = .ok (.aload_n 0, 1) := by decide +kernel
theorem dX1_onLine_101 : decode cX1_onLine 101 = .ok (.getfield 15, 3) := by decide +kernel
theorem dX1_onLine_104 : decode cX1_onLine 104 = .ok (.iload_n 3, 1) := by decide +kernel
theorem dX1_onLine_105 : decode cX1_onLine 105 = .ok (.iaload, 1) := by decide +kernel
theorem dX1_onLine_106 : decode cX1_onLine 106 = .ok (.aload_n 0, 1) := by decide +kernel
theorem dX1_onLine_107 : decode cX1_onLine 107 = .ok (.getfield 15, 3) := by decide +kernel
theorem dX1_onLine_110 : decode cX1_onLine 110 = .ok (.iload 4, 2) := by decide +kernel
theorem dX1_onLine_112 : decode cX1_onLine 112 = .ok (.iaload, 1) := by decide +kernel
theorem dX1_onLine_113 : decode cX1_onLine 113 = .ok (.invokestatic 86, 3) := by decide +kernel
theorem dX1_onLine_116 : decode cX1_onLine 116 = .ok (.if_icmp .gt 47, 3) := by decide +kernel
theorem dX1_onLine_119 : decode cX1_onLine 119 = .ok (.aload_n 0, 1) := by decide +kernel
theorem dX1_onLine_120 : decode cX1_onLine 120 = .ok (.getfield 18, 3) := by decide +kernel
theorem dX1_onLine_123 : decode cX1_onLine 123 = .ok (.iload_n 3, 1) := by decide +kernel
theorem dX1_onLine_124 : decode cX1_onLine 124 = .ok (.iaload, 1) := by decide +kernel
theorem dX1_onLine_125 : decode cX1_onLine 125 = .ok (.aload_n 0, 1) := by decide +kernel
theorem dX1_onLine_126 : decode cX1_onLine 126 = .ok (.getfield 18, 3) := by decide +kernel
theorem dX1_onLine_129 : decode cX1_onLine 129 = .ok (.iload 4, 2) := by decide +kernel
theorem dX1_onLine_131 : decode cX1_onLine 131 = .ok (.iaload, 1) := by decide +kernel
theorem dX1_onLine_132 : decode cX1_onLine 132 = .ok (.invokestatic 81, 3) := by decide +kernel
theorem dX1_onLine_135 : decode cX1_onLine 135 = .ok (.iload_n 2, 1) := by decide +kernel
theorem dX1_onLine_136 : decode cX1_onLine 136 = .ok (.if_icmp .gt 27, 3) := by decide +kernel
theorem dX1_onLine_139 : decode cX1_onLine 139 = .ok (.iload_n 2, 1) := by decide +kernel
theorem dX1_onLine_140 : decode cX1_onLine 140 = .ok (.aload_n 0, 1) := by decide +kernel
theorem dX1_onLine_141 : decode cX1_onLine 141 = .ok (.getfield 18, 3) := by decide +kernel
theorem dX1_onLine_144 : decode cX1_onLine 144 = .ok (.iload_n 3, 1) := by decide +kernel
theorem dX1_onLine_145 : decode cX1_onLine 145 = .ok (.iaload, 1) := by decide +kernel
theorem dX1_onLine_146 : decode cX1_onLine 146 = .ok (.aload_n 0, 1) := by decide +kernel
theorem dX1_onLine_147 : decode cX1_onLine 147 = .ok (.getfield 18, 3) := by decide +kernel
theorem dX1_onLine_150 : decode cX1_onLine 150 = .ok (.iload 4, 2) := by decide +kernel
theorem dX1_onLine_152 : decode cX1_onLine 152 = .ok (.iaload, 1) := by decide +kernel
theorem dX1_onLine_153 : decode cX1_onLine 153 = .ok (.invokestatic 86, 3) := by decide +kernel
theorem dX1_onLine_156 : decode cX1_onLine 156 = .ok (.if_icmp .gt 7, 3) := by decide +kernel
theorem dX1_onLine_159 : decode cX1_onLine 159 = .ok (.iconst 1, 1) := by decide +kernel
theorem dX1_onLine_160 : decode cX1_onLine 160 = .ok (.goto 4, 3) := by decide +kernel
theorem dX1_onLine_163 : decode cX1_onLine 163 = .ok (.iconst 0, 1) := by decide +kernel
theorem dX1_onLine_164 : decode cX1_onLine 164 = .ok (.ireturn, 1) := by decide +kernel
theorem dX1_cornerOnLine_0 : decode cX1_cornerOnLine 0 = .ok (.iload_n 1, 1) := by decide +kernel
theorem dX1_cornerOnLine_1 : decode cX1_cornerOnLine 1 = .ok (.iload_n 2, 1) := by decide +kernel
theorem dX1_cornerOnLine_2 : decode cX1_cornerOnLine 2 = .ok (.if_icmp .eq 31, 3) := by decide +kernel
theorem dX1_cornerOnLine_5 : decode cX1_cornerOnLine 5 = .ok (.iload_n 1, 1) := by decide +kernel
theorem dX1_cornerOnLine_6 : decode cX1_cornerOnLine 6 = .ok (.iload_n 3, 1) := by decide +kernel
theorem dX1_cornerOnLine_7 : decode cX1_cornerOnLine 7 = .ok (.if_icmp .eq 26, 3) := by decide +kernel
theorem dX1_cornerOnLine_10 : decode cX1_cornerOnLine 10 = .ok (.aload_n 0, 1) := by decide +kernel
theorem dX1_cornerOnLine_11 : decode cX1_cornerOnLine 11 = .ok (.aload_n 0, 1) := by decide +kernel
theorem dX1_cornerOnLine_12 : decode cX1_cornerOnLine 12 = .ok (.iload_n 1, 1) := by decide +kernel
theorem dX1_cornerOnLine_13 : decode cX1_cornerOnLine 13 = .ok (.invokevirtual 89, 3) := by decide +kernel
theorem dX1_cornerOnLine_16 : decode cX1_cornerOnLine 16 = .ok (.aload_n 0, 1) := by decide +kernel
theorem dX1_cornerOnLine_17 : decode cX1_cornerOnLine 17 = .ok (.iload_n 1, 1) := by decide +kernel
theorem dX1_cornerOnLine_18 : decode cX1_cornerOnLine 18 = .ok (.invokevirtual 92, 3) := by decide +kernel
theorem dX1_cornerOnLine_21 : decode cX1_cornerOnLine 21 = .ok (.iload_n 2, 1) := by decide +kernel
theorem dX1_cornerOnLine_22 : decode cX1_cornerOnLine 22 = .ok (.iload_n 3, 1) := by decide +kernel
theorem dX1_cornerOnLine_23 : decode cX1_cornerOnLine 23 = .ok (.invokevirtual 95, 3) := by decide +kernel
theorem dX1_cornerOnLine_26 : decode cX1_cornerOnLine 26 = .ok (.ifCond .eq 7, 3) := by decide +kernel
theorem dX1_cornerOnLine_29 : decode cX1_cornerOnLine 29 = .ok (.iconst 1, 1) := by decide +kernel
theorem dX1_cornerOnLine_30 : decode cX1_cornerOnLine 30 = .ok (.goto 4, 3) := by decide +kernel
theorem dX1_cornerOnLine_33 : decode cX1_cornerOnLine 33 = .ok (.iconst 0, 1) := by decide +kernel
theorem dX1_cornerOnLine_34 : decode cX1_cornerOnLine 34 = .ok (.ireturn, 1) := by decide +kernel
theorem dX1_surrounds_0 : decode cX1_surrounds 0 = .ok (.iconst 0, 1) := by decide +kernel
theorem dX1_surrounds_1 : decode cX1_surrounds 1 = .ok (.istore 4, 2) := by decide +kernel
theorem dX1_surrounds_3 : decode cX1_surrounds 3 = .ok (.aload_n 0, 1) := by decide +kernel
theorem dX1_surrounds_4 : decode cX1_surrounds 4 = .ok (.iload_n 1, 1) := by decide +kernel
theorem dX1_surrounds_5 : decode cX1_surrounds 5 = .ok (.invokevirtual 41, 3) := by decide +kernel
theorem dX1_surrounds_8 : decode cX1_surrounds 8 = .ok (.istore 5, 2) := by decide +kernel
theorem dX1_surrounds_10 : decode cX1_surrounds 10 = .ok (.iload 5, 2) := by decide +kernel
theorem dX1_surrounds_12 : decode cX1_surrounds 12 = .ok (.aload_n 0, 1) := by decide +kernel
theorem dX1_surrounds_13 : decode cX1_surrounds 13 = .ok (.iload_n 1, 1) := by decide +kernel
theorem dX1_surrounds_14 : decode cX1_surrounds 14 = .ok (.invokevirtual 45, 3) := by decide +kernel
theorem dX1_surrounds_17 : decode cX1_surrounds 17 = .ok (.iadd, 1) := by decide +kernel
theorem dX1_surrounds_18 : decode cX1_surrounds 18 = .ok (.istore 6, 2) := by decide +kernel
theorem dX1_surrounds_20 : decode cX1_surrounds 20 = .ok (.iload 5, 2) := by decide +kernel
theorem dX1_surrounds_22 : decode cX1_surrounds 22 = .ok (.istore 7, 2) := by decide +kernel
theorem dX1_surrounds_24 : decode cX1_surrounds 24 = .ok (.iload 7, 2) := by decide +kernel
theorem dX1_surrounds_26 : decode cX1_surrounds 26 = .ok (.iload 6, 2) := by decide +kernel
theorem dX1_surrounds_28 : decode cX1_surrounds 28 = .ok (.if_icmp .ge 32, 3) := by decide +kernel
theorem dX1_surrounds_31 : decode cX1_surrounds 31 = .ok (.aload_n 0, 1) := by decide +kernel
theorem dX1_surrounds_32 : decode cX1_surrounds 32 = .ok (.iload 7, 2) := by decide +kernel
theorem dX1_surrounds_34 : decode cX1_surrounds 34 = .ok (.iload_n 2, 1) := by decide +kernel
theorem dX1_surrounds_35 : decode cX1_surrounds 35 = .ok (.iload_n 3, 1) := by decide +kernel
theorem dX1_surrounds_36 : decode cX1_surrounds 36 = .ok (.invokevirtual 99, 3) := by decide +kernel
theorem dX1_surrounds_39 : decode cX1_surrounds 39 = .ok (.ifCond .eq 15, 3) := by decide +kernel
theorem dX1_surrounds_42 : decode cX1_surrounds 42 = .ok (.iload 4, 2) := by decide +kernel
theorem dX1_surrounds_44 : decode cX1_surrounds 44 = .ok (.ifCond .ne 7, 3) := by decide +kernel
theorem dX1_surrounds_47 : decode cX1_surrounds 47 = .ok (.iconst 1, 1) := by decide +kernel
theorem dX1_surrounds_48 : decode cX1_surrounds 48 = .ok (.goto 4, 3) := by decide +kernel
theorem dX1_surrounds_51 : decode cX1_surrounds 51 = .ok (.iconst 0, 1) := by decide +kernel
theorem dX1_surrounds_52 : decode cX1_surrounds 52 = .ok (.istore 4, 2) := by decide +kernel
theorem dX1_surrounds_54 : decode cX1_surrounds 54 = .ok (.iinc 7 1, 3) := by decide +kernel
theorem dX1_surrounds_57 : decode cX1_surrounds 57 = .ok (.goto (-33), 3) := by decide +kernel
theorem dX1_surrounds_60 : decode cX1_surrounds 60 = .ok (.iload 4, 2) := by decide +kernel
theorem dX1_surrounds_62 : decode cX1_surrounds 62 = .ok (.ireturn, 1) := by decide +kernel
theorem dX1_passesRightOf_0 : decode cX1_passesRightOf 0 = .ok (.iload_n 1, 1) := by decide +kernel
theorem dX1_passesRightOf_1 : decode cX1_passesRightOf 1 = .ok (.ifCond .lt 33, 3) := by decide +kernel
theorem dX1_passesRightOf_4 : decode cX1_passesRightOf 4 = .ok (.iload_n 1, 1) := by decide +kernel
theorem dX1_passesRightOf_5 : decode cX1_passesRightOf 5 = .ok (.aload_n 0, 1) := by decide +kernel
theorem dX1_passesRightOf_6 : decode cX1_passesRightOf 6 = .ok (.getfield 28, 3) := by decide +kernel
theorem dX1_passesRightOf_9 : decode cX1_passesRightOf 9 = .ok (.if_icmp .ge 25, 3) := by decide +kernel
theorem dX1_passesRightOf_12 : decode cX1_passesRightOf 12 = .ok (.aload_n 0, 1) := by decide +kernel
theorem dX1_passesRightOf_13 : decode cX1_passesRightOf 13 = .ok (.getfield 21, 3) := by decide +kernel
theorem dX1_passesRightOf_16 : decode cX1_passesRightOf 16 = .ok (.iload_n 1, 1) := by decide +kernel
theorem dX1_passesRightOf_17 : decode cX1_passesRightOf 17 = .ok (.iaload, 1) := by decide +kernel
theorem dX1_passesRightOf_18 : decode cX1_passesRightOf 18 = .ok (.ifCond .lt 16, 3) := by decide +kernel
theorem dX1_passesRightOf_21 : decode cX1_passesRightOf 21 = .ok (.aload_n 0, 1) := by decide +kernel
theorem dX1_passesRightOf_22 : decode cX1_passesRightOf 22 = .ok (.getfield 21, 3) := by decide +kernel
theorem dX1_passesRightOf_25 : decode cX1_passesRightOf 25 = .ok (.iload_n 1, 1) := by decide +kernel
theorem dX1_passesRightOf_26 : decode cX1_passesRightOf 26 = .ok (.iaload, 1) := by decide +kernel
theorem dX1_passesRightOf_27 : decode cX1_passesRightOf 27 = .ok (.aload_n 0, 1) := by decide +kernel
theorem dX1_passesRightOf_28 : decode cX1_passesRightOf 28 = .ok (.getfield 28, 3) := by decide +kernel
theorem dX1_passesRightOf_31 : decode cX1_passesRightOf 31 = .ok (.if_icmp .lt 5, 3) := by decide +kernel
theorem dX1_passesRightOf_34 : decode cX1_passesRightOf 34 = .ok (.iconst 0, 1) := by decide +kernel
theorem dX1_passesRightOf_35 : decode cX1_passesRightOf 35 = .ok (.ireturn, 1) := by decide +kernel
theorem dX1_passesRightOf_36 : decode cX1_passesRightOf 36 = .ok (.iconst 2, 1) := by decide +kernel
theorem dX1_passesRightOf_37 : decode cX1_passesRightOf 37 = .ok (.aload_n 0, 1) := by decide +kernel
theorem dX1_passesRightOf_38 : decode cX1_passesRightOf 38 = .ok (.getfield 15, 3) := by decide +kernel
theorem dX1_passesRightOf_41 : decode cX1_passesRightOf 41 = .ok (.iload_n 1, 1) := by decide +kernel
theorem dX1_passesRightOf_42 : decode cX1_passesRightOf 42 = .ok (.iaload, 1) := by decide +kernel
theorem dX1_passesRightOf_43 : decode cX1_passesRightOf 43 = .ok (.imul, 1) := by decide +kernel
theorem dX1_passesRightOf_44 : decode cX1_passesRightOf 44 = .ok (.istore 4, 2) := by decide +kernel
theorem dX1_passesRightOf_46 : decode cX1_passesRightOf 46 = .ok (.iconst 2, 1) := by decide +kernel
theorem dX1_passesRightOf_47 : decode cX1_passesRightOf 47 = .ok (.aload_n 0, 1) := by decide +kernel
theorem dX1_passesRightOf_48 : decode cX1_passesRightOf 48 = .ok (.getfield 18, 3) := by decide +kernel
theorem dX1_passesRightOf_51 : decode cX1_passesRightOf 51 = .ok (.iload_n 1, 1) := by decide +kernel
theorem dX1_passesRightOf_52 : decode cX1_passesRightOf 52 = .ok (.iaload, 1) := by decide +kernel
theorem dX1_passesRightOf_53 : decode cX1_passesRightOf 53 = .ok (.imul, 1) := by decide +kernel
theorem dX1_passesRightOf_54 : decode cX1_passesRightOf 54 = .ok (.istore 5, 2) := by decide +kernel
theorem dX1_passesRightOf_56 : decode cX1_passesRightOf 56 = .ok (.iconst 2, 1) := by decide +kernel
theorem dX1_passesRightOf_57 : decode cX1_passesRightOf 57 = .ok (.aload_n 0, 1) := by decide +kernel
theorem dX1_passesRightOf_58 : decode cX1_passesRightOf 58 = .ok (.getfield 15, 3) := by decide +kernel
theorem dX1_passesRightOf_61 : decode cX1_passesRightOf 61 = .ok (.aload_n 0, 1) := by decide +kernel
theorem dX1_passesRightOf_62 : decode cX1_passesRightOf 62 = .ok (.getfield 21, 3) := by decide +kernel
theorem dX1_passesRightOf_65 : decode cX1_passesRightOf 65 = .ok (.iload_n 1, 1) := by decide +kernel
theorem dX1_passesRightOf_66 : decode cX1_passesRightOf 66 = .ok (.iaload, 1) := by decide +kernel
theorem dX1_passesRightOf_67 : decode cX1_passesRightOf 67 = .ok (.iaload, 1) := by decide +kernel
theorem dX1_passesRightOf_68 : decode cX1_passesRightOf 68 = .ok (.imul, 1) := by decide +kernel
theorem dX1_passesRightOf_69 : decode cX1_passesRightOf 69 = .ok (.istore 6, 2) := by decide +kernel
theorem dX1_passesRightOf_71 : decode cX1_passesRightOf 71 = .ok (.iconst 2, 1) := by decide +kernel
theorem dX1_passesRightOf_72 : decode cX1_passesRightOf 72 = .ok (.aload_n 0, 1) := by decide +kernel
theorem dX1_passesRightOf_73 : decode cX1_passesRightOf 73 = .ok (.getfield 18, 3) := by decide +kernel
theorem dX1_passesRightOf_76 : decode cX1_passesRightOf 76 = .ok (.aload_n 0, 1) := by decide +kernel
theorem dX1_passesRightOf_77 : decode cX1_passesRightOf 77 = .ok (.getfield 21, 3) := by decide +kernel
theorem dX1_passesRightOf_80 : decode cX1_passesRightOf 80 = .ok (.iload_n 1, 1) := by decide +kernel
theorem dX1_passesRightOf_81 : decode cX1_passesRightOf 81 = .ok (.iaload, 1) := by decide +kernel
theorem dX1_passesRightOf_82 : decode cX1_passesRightOf 82 = .ok (.iaload, 1) := by decide +kernel
theorem dX1_passesRightOf_83 : decode cX1_passesRightOf 83 = .ok (.imul, 1) := by decide +kernel
theorem dX1_passesRightOf_84 : decode cX1_passesRightOf 84 = .ok (.istore 7, 2) := by decide +kernel
theorem dX1_passesRightOf_86 : decode cX1_passesRightOf 86 = .ok (.iload 5, 2) := by decide +kernel
theorem dX1_passesRightOf_88 : decode cX1_passesRightOf 88 = .ok (.iload_n 3, 1) := by decide +kernel
theorem dX1_passesRightOf_89 : decode cX1_passesRightOf 89 = .ok (.if_icmp .le 7, 3) := by decide +kernel
theorem dX1_passesRightOf_92 : decode cX1_passesRightOf 92 = .ok (.iconst 1, 1) := by decide +kernel
theorem dX1_passesRightOf_93 : decode cX1_passesRightOf 93 = .ok (.goto 4, 3) := by decide +kernel
theorem dX1_passesRightOf_96 : decode cX1_passesRightOf 96 = .ok (.iconst 0, 1) := by decide +kernel
theorem dX1_passesRightOf_97 : decode cX1_passesRightOf 97 = .ok (.iload 7, 2) := by decide +kernel
theorem dX1_passesRightOf_99 : decode cX1_passesRightOf 99 = .ok (.iload_n 3, 1) := by decide +kernel
theorem dX1_passesRightOf_100 : decode cX1_passesRightOf 100 = .ok (.if_icmp .le 7, 3) := by decide +kernel
theorem dX1_passesRightOf_103 : decode cX1_passesRightOf 103 = .ok (.iconst 1, 1) := by decide +kernel
theorem dX1_passesRightOf_104 : decode cX1_passesRightOf 104 = .ok (.goto 4, 3) := by decide +kernel
theorem dX1_passesRightOf_107 : decode cX1_passesRightOf 107 = .ok (.iconst 0, 1) := by decide +kernel
theorem dX1_passesRightOf_108 : decode cX1_passesRightOf 108 = .ok (.if_icmp .ne 5, 3) := by decide +kernel
theorem dX1_passesRightOf_111 : decode cX1_passesRightOf 111 = .ok (.iconst 0, 1) := by decide +kernel
theorem dX1_passesRightOf_112 : decode cX1_passesRightOf 112 = .ok (.ireturn, 1) := by decide +kernel
theorem dX1_passesRightOf_113 : decode cX1_passesRightOf 113 = .ok (.iload 6, 2) := by decide +kernel
theorem dX1_passesRightOf_115 : decode cX1_passesRightOf 115 = .ok (.iload 4, 2) := by decide +kernel
theorem dX1_passesRightOf_117 : decode cX1_passesRightOf 117 = .ok (.isub, 1) := by decide +kernel
theorem dX1_passesRightOf_118 : decode cX1_passesRightOf 118 = .ok (.iload_n 3, 1) := by decide +kernel
theorem dX1_passesRightOf_119 : decode cX1_passesRightOf 119 = .ok (.iload 5, 2) := by decide +kernel
theorem dX1_passesRightOf_121 : decode cX1_passesRightOf 121 = .ok (.isub, 1) := by decide +kernel
theorem dX1_passesRightOf_122 : decode cX1_passesRightOf 122 = .ok (.imul, 1) := by decide +kernel
theorem dX1_passesRightOf_123 : decode cX1_passesRightOf 123 = .ok (.iload_n 2, 1) := by decide +kernel
theorem dX1_passesRightOf_124 : decode cX1_passesRightOf 124 = .ok (.iload 4, 2) := by decide +kernel
theorem dX1_passesRightOf_126 : decode cX1_passesRightOf 126 = .ok (.isub, 1) := by decide +kernel
theorem dX1_passesRightOf_127 : decode cX1_passesRightOf 127 = .ok (.iload 7, 2) := by decide +kernel
theorem dX1_passesRightOf_129 : decode cX1_passesRightOf 129 = .ok (.iload 5, 2) := by decide +kernel
theorem dX1_passesRightOf_131 : decode cX1_passesRightOf 131 = .ok (.isub, 1) := by decide +kernel
theorem dX1_passesRightOf_132 : decode cX1_passesRightOf 132 = .ok (.imul, 1) := by decide +kernel
theorem dX1_passesRightOf_133 : decode cX1_passesRightOf 133 = .ok (.if_icmp .le 7, 3) := by decide +kernel
theorem dX1_passesRightOf_136 : decode cX1_passesRightOf 136 = .ok (.iconst 1, 1) := by decide +kernel
theorem dX1_passesRightOf_137 : decode cX1_passesRightOf 137 = .ok (.goto 4, 3) := by decide +kernel
theorem dX1_passesRightOf_140 : decode cX1_passesRightOf 140 = .ok (.iconst 0, 1) := by decide +kernel
theorem dX1_passesRightOf_141 : decode cX1_passesRightOf 141 = .ok (.iload 7, 2) := by decide +kernel
theorem dX1_passesRightOf_143 : decode cX1_passesRightOf 143 = .ok (.iload 5, 2) := by decide +kernel
theorem dX1_passesRightOf_145 : decode cX1_passesRightOf 145 = .ok (.if_icmp .le 7, 3) := by decide +kernel
theorem dX1_passesRightOf_148 : decode cX1_passesRightOf 148 = .ok (.iconst 1, 1) := by decide +kernel
theorem dX1_passesRightOf_149 : decode cX1_passesRightOf 149 = .ok (.goto 4, 3) := by decide +kernel
theorem dX1_passesRightOf_152 : decode cX1_passesRightOf 152 = .ok (.iconst 0, 1) := by decide +kernel
theorem dX1_passesRightOf_153 : decode cX1_passesRightOf 153 = .ok (.if_icmp .ne 7, 3) := by decide +kernel
theorem dX1_passesRightOf_156 : decode cX1_passesRightOf 156 = .ok (.iconst 1, 1) := by decide +kernel
theorem dX1_passesRightOf_157 : decode cX1_passesRightOf 157 = .ok (.goto 4, 3) := by decide +kernel
theorem dX1_passesRightOf_160 : decode cX1_passesRightOf 160 = .ok (.iconst 0, 1) := by decide +kernel
theorem dX1_passesRightOf_161 : decode cX1_passesRightOf 161 = .ok (.ireturn, 1) := by decide +kernel
theorem dX1_inSomeHole_0 : decode cX1_inSomeHole 0 = .ok (.iconst 1, 1) := by decide +kernel
theorem dX1_inSomeHole_1 : decode cX1_inSomeHole 1 = .ok (.istore_n 3, 1) := by decide +kernel
theorem dX1_inSomeHole_2 : decode cX1_inSomeHole 2 = .ok (.iload_n 3, 1) := by decide +kernel
theorem dX1_inSomeHole_3 : decode cX1_inSomeHole 3 = .ok (.aload_n 0, 1) := by decide +kernel
theorem dX1_inSomeHole_4 : decode cX1_inSomeHole 4 = .ok (.getfield 24, 3) := by decide +kernel
theorem dX1_inSomeHole_7 : decode cX1_inSomeHole 7 = .ok (.if_icmp .ge 21, 3) := by decide +kernel
theorem dX1_inSomeHole_10 : decode cX1_inSomeHole 10 = .ok (.aload_n 0, 1) := by decide +kernel
theorem dX1_inSomeHole_11 : decode cX1_inSomeHole 11 = .ok (.iload_n 3, 1) := by decide +kernel
theorem dX1_inSomeHole_12 : decode cX1_inSomeHole 12 = .ok (.iload_n 1, 1) := by decide +kernel
theorem dX1_inSomeHole_13 : decode cX1_inSomeHole 13 = .ok (.iload_n 2, 1) := by decide +kernel
theorem dX1_inSomeHole_14 : decode cX1_inSomeHole 14 = .ok (.invokevirtual 103, 3) := by decide +kernel
theorem dX1_inSomeHole_17 : decode cX1_inSomeHole 17 = .ok (.ifCond .eq 5, 3) := by decide +kernel
theorem dX1_inSomeHole_20 : decode cX1_inSomeHole 20 = .ok (.iconst 1, 1) := by decide +kernel
theorem dX1_inSomeHole_21 : decode cX1_inSomeHole 21 = .ok (.ireturn, 1) := by decide +kernel
theorem dX1_inSomeHole_22 : decode cX1_inSomeHole 22 = .ok (.iinc 3 1, 3) := by decide +kernel
theorem dX1_inSomeHole_25 : decode cX1_inSomeHole 25 = .ok (.goto (-23), 3) := by decide +kernel
theorem dX1_inSomeHole_28 : decode cX1_inSomeHole 28 = .ok (.iconst 0, 1) := by decide +kernel
theorem dX1_inSomeHole_29 : decode cX1_inSomeHole 29 = .ok (.ireturn, 1) := by decide +kernel
theorem dX1_placeOf_0 : decode cX1_placeOf 0 = .ok (.iconst 0, 1) := by decide +kernel
theorem dX1_placeOf_1 : decode cX1_placeOf 1 = .ok (.istore_n 3, 1) := by decide +kernel
theorem dX1_placeOf_2 : decode cX1_placeOf 2 = .ok (.iload_n 3, 1) := by decide +kernel
theorem dX1_placeOf_3 : decode cX1_placeOf 3 = .ok (.aload_n 0, 1) := by decide +kernel
theorem dX1_placeOf_4 : decode cX1_placeOf 4 = .ok (.getfield 28, 3) := by decide +kernel
theorem dX1_placeOf_7 : decode cX1_placeOf 7 = .ok (.if_icmp .ge 26, 3) := by decide +kernel
theorem dX1_placeOf_10 : decode cX1_placeOf 10 = .ok (.aload_n 0, 1) := by decide +kernel
theorem dX1_placeOf_11 : decode cX1_placeOf 11 = .ok (.iload_n 1, 1) := by decide +kernel
theorem dX1_placeOf_12 : decode cX1_placeOf 12 = .ok (.iload_n 2, 1) := by decide +kernel
theorem dX1_placeOf_13 : decode cX1_placeOf 13 = .ok (.iload_n 3, 1) := by decide +kernel
theorem dX1_placeOf_14 : decode cX1_placeOf 14 = .ok (.aload_n 0, 1) := by decide +kernel
theorem dX1_placeOf_15 : decode cX1_placeOf 15 = .ok (.iload_n 3, 1) := by decide +kernel
theorem dX1_placeOf_16 : decode cX1_placeOf 16 = .ok (.invokevirtual 74, 3) := by decide +kernel
theorem dX1_placeOf_19 : decode cX1_placeOf 19 = .ok (.invokevirtual 95, 3) := by decide +kernel
theorem dX1_placeOf_22 : decode cX1_placeOf 22 = .ok (.ifCond .eq 5, 3) := by decide +kernel
theorem dX1_placeOf_25 : decode cX1_placeOf 25 = .ok (.iconst 1, 1) := by decide +kernel
theorem dX1_placeOf_26 : decode cX1_placeOf 26 = .ok (.ireturn, 1) := by decide +kernel
theorem dX1_placeOf_27 : decode cX1_placeOf 27 = .ok (.iinc 3 1, 3) := by decide +kernel
theorem dX1_placeOf_30 : decode cX1_placeOf 30 = .ok (.goto (-28), 3) := by decide +kernel
theorem dX1_placeOf_33 : decode cX1_placeOf 33 = .ok (.aload_n 0, 1) := by decide +kernel
theorem dX1_placeOf_34 : decode cX1_placeOf 34 = .ok (.iconst 0, 1) := by decide +kernel
theorem dX1_placeOf_35 : decode cX1_placeOf 35 = .ok (.iconst 2, 1) := by decide +kernel
theorem dX1_placeOf_36 : decode cX1_placeOf 36 = .ok (.iload_n 1, 1) := by decide +kernel
theorem dX1_placeOf_37 : decode cX1_placeOf 37 = .ok (.imul, 1) := by decide +kernel
theorem dX1_placeOf_38 : decode cX1_placeOf 38 = .ok (.iconst 2, 1) := by decide +kernel
theorem dX1_placeOf_39 : decode cX1_placeOf 39 = .ok (.iload_n 2, 1) := by decide +kernel
theorem dX1_placeOf_40 : decode cX1_placeOf 40 = .ok (.imul, 1) := by decide +kernel
theorem dX1_placeOf_41 : decode cX1_placeOf 41 = .ok (.invokevirtual 103, 3) := by decide +kernel
theorem dX1_placeOf_44 : decode cX1_placeOf 44 = .ok (.ifCond .ne 5, 3) := by decide +kernel
theorem dX1_placeOf_47 : decode cX1_placeOf 47 = .ok (.iconst 0, 1) := by decide +kernel
theorem dX1_placeOf_48 : decode cX1_placeOf 48 = .ok (.ireturn, 1) := by decide +kernel
theorem dX1_placeOf_49 : decode cX1_placeOf 49 = .ok (.aload_n 0, 1) := by decide +kernel
theorem dX1_placeOf_50 : decode cX1_placeOf 50 = .ok (.iconst 2, 1) := by decide +kernel
theorem dX1_placeOf_51 : decode cX1_placeOf 51 = .ok (.iload_n 1, 1) := by decide +kernel
theorem dX1_placeOf_52 : decode cX1_placeOf 52 = .ok (.imul, 1) := by decide +kernel
theorem dX1_placeOf_53 : decode cX1_placeOf 53 = .ok (.iconst 2, 1) := by decide +kernel
theorem dX1_placeOf_54 : decode cX1_placeOf 54 = .ok (.iload_n 2, 1) := by decide +kernel
theorem dX1_placeOf_55 : decode cX1_placeOf 55 = .ok (.imul, 1) := by decide +kernel
theorem dX1_placeOf_56 : decode cX1_placeOf 56 = .ok (.invokevirtual 106, 3) := by decide +kernel
theorem dX1_placeOf_59 : decode cX1_placeOf 59 = .ok (.ifCond .eq 7, 3) := by decide +kernel
theorem dX1_placeOf_62 : decode cX1_placeOf 62 = .ok (.iconst 3, 1) := by decide +kernel
theorem dX1_placeOf_63 : decode cX1_placeOf 63 = .ok (.goto 4, 3) := by decide +kernel
theorem dX1_placeOf_66 : decode cX1_placeOf 66 = .ok (.iconst 2, 1) := by decide +kernel
theorem dX1_placeOf_67 : decode cX1_placeOf 67 = .ok (.ireturn, 1) := by decide +kernel
theorem dX1_squareOfSide_0 : decode cX1_squareOfSide 0 = .ok (.aload_n 0, 1) := by decide +kernel
theorem dX1_squareOfSide_1 : decode cX1_squareOfSide 1 = .ok (.aload_n 0, 1) := by decide +kernel
theorem dX1_squareOfSide_2 : decode cX1_squareOfSide 2 = .ok (.iload_n 1, 1) := by decide +kernel
theorem dX1_squareOfSide_3 : decode cX1_squareOfSide 3 = .ok (.invokevirtual 74, 3) := by decide +kernel
theorem dX1_squareOfSide_6 : decode cX1_squareOfSide 6 = .ok (.invokevirtual 89, 3) := by decide +kernel
theorem dX1_squareOfSide_9 : decode cX1_squareOfSide 9 = .ok (.aload_n 0, 1) := by decide +kernel
theorem dX1_squareOfSide_10 : decode cX1_squareOfSide 10 = .ok (.iload_n 1, 1) := by decide +kernel
theorem dX1_squareOfSide_11 : decode cX1_squareOfSide 11 = .ok (.invokevirtual 89, 3) := by decide +kernel
theorem dX1_squareOfSide_14 : decode cX1_squareOfSide 14 = .ok (.isub, 1) := by decide +kernel
theorem dX1_squareOfSide_15 : decode cX1_squareOfSide 15 = .ok (.istore_n 2, 1) := by decide +kernel
theorem dX1_squareOfSide_16 : decode cX1_squareOfSide 16 = .ok (.aload_n 0, 1) := by decide +kernel
theorem dX1_squareOfSide_17 : decode cX1_squareOfSide 17 = .ok (.aload_n 0, 1) := by decide +kernel
theorem dX1_squareOfSide_18 : decode cX1_squareOfSide 18 = .ok (.iload_n 1, 1) := by decide +kernel
theorem dX1_squareOfSide_19 : decode cX1_squareOfSide 19 = .ok (.invokevirtual 74, 3) := by decide +kernel
theorem dX1_squareOfSide_22 : decode cX1_squareOfSide 22 = .ok (.invokevirtual 92, 3) := by decide +kernel
theorem dX1_squareOfSide_25 : decode cX1_squareOfSide 25 = .ok (.aload_n 0, 1) := by decide +kernel
theorem dX1_squareOfSide_26 : decode cX1_squareOfSide 26 = .ok (.iload_n 1, 1) := by decide +kernel
theorem dX1_squareOfSide_27 : decode cX1_squareOfSide 27 = .ok (.invokevirtual 92, 3) := by decide +kernel
theorem dX1_squareOfSide_30 : decode cX1_squareOfSide 30 = .ok (.isub, 1) := by decide +kernel
theorem dX1_squareOfSide_31 : decode cX1_squareOfSide 31 = .ok (.istore_n 3, 1) := by decide +kernel
theorem dX1_squareOfSide_32 : decode cX1_squareOfSide 32 = .ok (.iload_n 2, 1) := by decide +kernel
theorem dX1_squareOfSide_33 : decode cX1_squareOfSide 33 = .ok (.iload_n 2, 1) := by decide +kernel
theorem dX1_squareOfSide_34 : decode cX1_squareOfSide 34 = .ok (.imul, 1) := by decide +kernel
theorem dX1_squareOfSide_35 : decode cX1_squareOfSide 35 = .ok (.iload_n 3, 1) := by decide +kernel
theorem dX1_squareOfSide_36 : decode cX1_squareOfSide 36 = .ok (.iload_n 3, 1) := by decide +kernel
theorem dX1_squareOfSide_37 : decode cX1_squareOfSide 37 = .ok (.imul, 1) := by decide +kernel
theorem dX1_squareOfSide_38 : decode cX1_squareOfSide 38 = .ok (.iadd, 1) := by decide +kernel
theorem dX1_squareOfSide_39 : decode cX1_squareOfSide 39 = .ok (.ireturn, 1) := by decide +kernel
theorem dX1_stepsOfSide_0 : decode cX1_stepsOfSide 0 = .ok (.aload_n 0, 1) := by decide +kernel
theorem dX1_stepsOfSide_1 : decode cX1_stepsOfSide 1 = .ok (.aload_n 0, 1) := by decide +kernel
theorem dX1_stepsOfSide_2 : decode cX1_stepsOfSide 2 = .ok (.iload_n 1, 1) := by decide +kernel
theorem dX1_stepsOfSide_3 : decode cX1_stepsOfSide 3 = .ok (.invokevirtual 74, 3) := by decide +kernel
theorem dX1_stepsOfSide_6 : decode cX1_stepsOfSide 6 = .ok (.invokevirtual 89, 3) := by decide +kernel
theorem dX1_stepsOfSide_9 : decode cX1_stepsOfSide 9 = .ok (.aload_n 0, 1) := by decide +kernel
theorem dX1_stepsOfSide_10 : decode cX1_stepsOfSide 10 = .ok (.iload_n 1, 1) := by decide +kernel
theorem dX1_stepsOfSide_11 : decode cX1_stepsOfSide 11 = .ok (.invokevirtual 89, 3) := by decide +kernel
theorem dX1_stepsOfSide_14 : decode cX1_stepsOfSide 14 = .ok (.isub, 1) := by decide +kernel
theorem dX1_stepsOfSide_15 : decode cX1_stepsOfSide 15 = .ok (.istore_n 2, 1) := by decide +kernel
theorem dX1_stepsOfSide_16 : decode cX1_stepsOfSide 16 = .ok (.aload_n 0, 1) := by decide +kernel
theorem dX1_stepsOfSide_17 : decode cX1_stepsOfSide 17 = .ok (.aload_n 0, 1) := by decide +kernel
theorem dX1_stepsOfSide_18 : decode cX1_stepsOfSide 18 = .ok (.iload_n 1, 1) := by decide +kernel
theorem dX1_stepsOfSide_19 : decode cX1_stepsOfSide 19 = .ok (.invokevirtual 74, 3) := by decide +kernel
theorem dX1_stepsOfSide_22 : decode cX1_stepsOfSide 22 = .ok (.invokevirtual 92, 3) := by decide +kernel
theorem dX1_stepsOfSide_25 : decode cX1_stepsOfSide 25 = .ok (.aload_n 0, 1) := by decide +kernel
theorem dX1_stepsOfSide_26 : decode cX1_stepsOfSide 26 = .ok (.iload_n 1, 1) := by decide +kernel
theorem dX1_stepsOfSide_27 : decode cX1_stepsOfSide 27 = .ok (.invokevirtual 92, 3) := by decide +kernel
theorem dX1_stepsOfSide_30 : decode cX1_stepsOfSide 30 = .ok (.isub, 1) := by decide +kernel
theorem dX1_stepsOfSide_31 : decode cX1_stepsOfSide 31 = .ok (.istore_n 3, 1) := by decide +kernel
theorem dX1_stepsOfSide_32 : decode cX1_stepsOfSide 32 = .ok (.bipush 15, 2) := by decide +kernel
theorem dX1_stepsOfSide_34 : decode cX1_stepsOfSide 34 = .ok (.istore 4, 2) := by decide +kernel
theorem dX1_stepsOfSide_36 : decode cX1_stepsOfSide 36 = .ok (.iload 4, 2) := by decide +kernel
theorem dX1_stepsOfSide_38 : decode cX1_stepsOfSide 38 = .ok (.iconst 1, 1) := by decide +kernel
theorem dX1_stepsOfSide_39 : decode cX1_stepsOfSide 39 = .ok (.if_icmp .le 26, 3) := by decide +kernel
theorem dX1_stepsOfSide_42 : decode cX1_stepsOfSide 42 = .ok (.iload_n 2, 1) := by decide +kernel
theorem dX1_stepsOfSide_43 : decode cX1_stepsOfSide 43 = .ok (.iload 4, 2) := by decide +kernel
theorem dX1_stepsOfSide_45 : decode cX1_stepsOfSide 45 = .ok (.irem, 1) := by decide +kernel
theorem dX1_stepsOfSide_46 : decode cX1_stepsOfSide 46 = .ok (.ifCond .ne 13, 3) := by decide +kernel
theorem dX1_stepsOfSide_49 : decode cX1_stepsOfSide 49 = .ok (.iload_n 3, 1) := by decide +kernel
theorem dX1_stepsOfSide_50 : decode cX1_stepsOfSide 50 = .ok (.iload 4, 2) := by decide +kernel
theorem dX1_stepsOfSide_52 : decode cX1_stepsOfSide 52 = .ok (.irem, 1) := by decide +kernel
theorem dX1_stepsOfSide_53 : decode cX1_stepsOfSide 53 = .ok (.ifCond .ne 6, 3) := by decide +kernel
theorem dX1_stepsOfSide_56 : decode cX1_stepsOfSide 56 = .ok (.iload 4, 2) := by decide +kernel
theorem dX1_stepsOfSide_58 : decode cX1_stepsOfSide 58 = .ok (.ireturn, 1) := by decide +kernel
theorem dX1_stepsOfSide_59 : decode cX1_stepsOfSide 59 = .ok (.iinc 4 (-1), 3) := by decide +kernel
theorem dX1_stepsOfSide_62 : decode cX1_stepsOfSide 62 = .ok (.goto (-26), 3) := by decide +kernel
theorem dX1_stepsOfSide_65 : decode cX1_stepsOfSide 65 = .ok (.iconst 1, 1) := by decide +kernel
theorem dX1_stepsOfSide_66 : decode cX1_stepsOfSide 66 = .ok (.ireturn, 1) := by decide +kernel
theorem dX2_ringSum_0 : decode cX2_ringSum 0 = .ok (.iconst 0, 1) := by decide +kernel
theorem dX2_ringSum_1 : decode cX2_ringSum 1 = .ok (.istore_n 2, 1) := by decide +kernel
theorem dX2_ringSum_2 : decode cX2_ringSum 2 = .ok (.aload_n 0, 1) := by decide +kernel
theorem dX2_ringSum_3 : decode cX2_ringSum 3 = .ok (.iload_n 1, 1) := by decide +kernel
theorem dX2_ringSum_4 : decode cX2_ringSum 4 = .ok (.invokevirtual 7, 3) := by decide +kernel
theorem dX2_ringSum_7 : decode cX2_ringSum 7 = .ok (.istore_n 3, 1) := by decide +kernel
theorem dX2_ringSum_8 : decode cX2_ringSum 8 = .ok (.iload_n 3, 1) := by decide +kernel
theorem dX2_ringSum_9 : decode cX2_ringSum 9 = .ok (.istore 4, 2) := by decide +kernel
theorem dX2_ringSum_11 : decode cX2_ringSum 11 = .ok (.iload 4, 2) := by decide +kernel
theorem dX2_ringSum_13 : decode cX2_ringSum 13 = .ok (.iload_n 3, 1) := by decide +kernel
theorem dX2_ringSum_14 : decode cX2_ringSum 14 = .ok (.aload_n 0, 1) := by decide +kernel
theorem dX2_ringSum_15 : decode cX2_ringSum 15 = .ok (.iload_n 1, 1) := by decide +kernel
theorem dX2_ringSum_16 : decode cX2_ringSum 16 = .ok (.invokevirtual 13, 3) := by decide +kernel
theorem dX2_ringSum_19 : decode cX2_ringSum 19 = .ok (.iadd, 1) := by decide +kernel
theorem dX2_ringSum_20 : decode cX2_ringSum 20 = .ok (.if_icmp .ge 24, 3) := by decide +kernel
theorem dX2_ringSum_23 : decode cX2_ringSum 23 = .ok (.iload_n 2, 1) := by decide +kernel
theorem dX2_ringSum_24 : decode cX2_ringSum 24 = .ok (.aload_n 0, 1) := by decide +kernel
theorem dX2_ringSum_25 : decode cX2_ringSum 25 = .ok (.iload 4, 2) := by decide +kernel
theorem dX2_ringSum_27 : decode cX2_ringSum 27 = .ok (.aload_n 0, 1) := by decide +kernel
theorem dX2_ringSum_28 : decode cX2_ringSum 28 = .ok (.iload 4, 2) := by decide +kernel
theorem dX2_ringSum_30 : decode cX2_ringSum 30 = .ok (.invokevirtual 16, 3) := by decide +kernel
theorem dX2_ringSum_33 : decode cX2_ringSum 33 = .ok (.invokestatic 19, 3) := by decide +kernel
theorem dX2_ringSum_36 : decode cX2_ringSum 36 = .ok (.iadd, 1) := by decide +kernel
theorem dX2_ringSum_37 : decode cX2_ringSum 37 = .ok (.istore_n 2, 1) := by decide +kernel
theorem dX2_ringSum_38 : decode cX2_ringSum 38 = .ok (.iinc 4 1, 3) := by decide +kernel
theorem dX2_ringSum_41 : decode cX2_ringSum 41 = .ok (.goto (-30), 3) := by decide +kernel
theorem dX2_ringSum_44 : decode cX2_ringSum 44 = .ok (.iload_n 2, 1) := by decide +kernel
theorem dX2_ringSum_45 : decode cX2_ringSum 45 = .ok (.ireturn, 1) := by decide +kernel
theorem dX2_product_0 : decode cX2_product 0 = .ok (.aload_n 0, 1) := by decide +kernel
theorem dX2_product_1 : decode cX2_product 1 = .ok (.iload_n 1, 1) := by decide +kernel
theorem dX2_product_2 : decode cX2_product 2 = .ok (.invokevirtual 25, 3) := by decide +kernel
theorem dX2_product_5 : decode cX2_product 5 = .ok (.aload_n 0, 1) := by decide +kernel
theorem dX2_product_6 : decode cX2_product 6 = .ok (.iload_n 2, 1) := by decide +kernel
theorem dX2_product_7 : decode cX2_product 7 = .ok (.invokevirtual 28, 3) := by decide +kernel
theorem dX2_product_10 : decode cX2_product 10 = .ok (.imul, 1) := by decide +kernel
theorem dX2_product_11 : decode cX2_product 11 = .ok (.aload_n 0, 1) := by decide +kernel
theorem dX2_product_12 : decode cX2_product 12 = .ok (.iload_n 2, 1) := by decide +kernel
theorem dX2_product_13 : decode cX2_product 13 = .ok (.invokevirtual 25, 3) := by decide +kernel
theorem dX2_product_16 : decode cX2_product 16 = .ok (.aload_n 0, 1) := by decide +kernel
theorem dX2_product_17 : decode cX2_product 17 = .ok (.iload_n 1, 1) := by decide +kernel
theorem dX2_product_18 : decode cX2_product 18 = .ok (.invokevirtual 28, 3) := by decide +kernel
theorem dX2_product_21 : decode cX2_product 21 = .ok (.imul, 1) := by decide +kernel
theorem dX2_product_22 : decode cX2_product 22 = .ok (.isub, 1) := by decide +kernel
theorem dX2_product_23 : decode cX2_product 23 = .ok (.ireturn, 1) := by decide +kernel
theorem dX2_ringArea_0 : decode cX2_ringArea 0 = .ok (.aload_n 0, 1) := by decide +kernel
theorem dX2_ringArea_1 : decode cX2_ringArea 1 = .ok (.iload_n 1, 1) := by decide +kernel
theorem dX2_ringArea_2 : decode cX2_ringArea 2 = .ok (.invokestatic 31, 3) := by decide +kernel
theorem dX2_ringArea_5 : decode cX2_ringArea 5 = .ok (.invokestatic 35, 3) := by decide +kernel
theorem dX2_ringArea_8 : decode cX2_ringArea 8 = .ok (.ireturn, 1) := by decide +kernel
theorem dX2_area_0 : decode cX2_area 0 = .ok (.aload_n 0, 1) := by decide +kernel
theorem dX2_area_1 : decode cX2_area 1 = .ok (.iconst 0, 1) := by decide +kernel
theorem dX2_area_2 : decode cX2_area 2 = .ok (.invokestatic 40, 3) := by decide +kernel
theorem dX2_area_5 : decode cX2_area 5 = .ok (.istore_n 1, 1) := by decide +kernel
theorem dX2_area_6 : decode cX2_area 6 = .ok (.iconst 1, 1) := by decide +kernel
theorem dX2_area_7 : decode cX2_area 7 = .ok (.istore_n 2, 1) := by decide +kernel
theorem dX2_area_8 : decode cX2_area 8 = .ok (.iload_n 2, 1) := by decide +kernel
theorem dX2_area_9 : decode cX2_area 9 = .ok (.aload_n 0, 1) := by decide +kernel
theorem dX2_area_10 : decode cX2_area 10 = .ok (.getfield 43, 3) := by decide +kernel
theorem dX2_area_13 : decode cX2_area 13 = .ok (.if_icmp .ge 17, 3) := by decide +kernel
theorem dX2_area_16 : decode cX2_area 16 = .ok (.iload_n 1, 1) := by decide +kernel
theorem dX2_area_17 : decode cX2_area 17 = .ok (.aload_n 0, 1) := by decide +kernel
theorem dX2_area_18 : decode cX2_area 18 = .ok (.iload_n 2, 1) := by decide +kernel
theorem dX2_area_19 : decode cX2_area 19 = .ok (.invokestatic 40, 3) := by decide +kernel
theorem dX2_area_22 : decode cX2_area 22 = .ok (.isub, 1) := by decide +kernel
theorem dX2_area_23 : decode cX2_area 23 = .ok (.istore_n 1, 1) := by decide +kernel
theorem dX2_area_24 : decode cX2_area 24 = .ok (.iinc 2 1, 3) := by decide +kernel
theorem dX2_area_27 : decode cX2_area 27 = .ok (.goto (-19), 3) := by decide +kernel
theorem dX2_area_30 : decode cX2_area 30 = .ok (.iload_n 1, 1) := by decide +kernel
theorem dX2_area_31 : decode cX2_area 31 = .ok (.ireturn, 1) := by decide +kernel
theorem dX2_ringBorder_0 : decode cX2_ringBorder 0 = .ok (.iconst 0, 1) := by decide +kernel
theorem dX2_ringBorder_1 : decode cX2_ringBorder 1 = .ok (.istore_n 2, 1) := by decide +kernel
theorem dX2_ringBorder_2 : decode cX2_ringBorder 2 = .ok (.aload_n 0, 1) := by decide +kernel
theorem dX2_ringBorder_3 : decode cX2_ringBorder 3 = .ok (.iload_n 1, 1) := by decide +kernel
theorem dX2_ringBorder_4 : decode cX2_ringBorder 4 = .ok (.invokevirtual 7, 3) := by decide +kernel
theorem dX2_ringBorder_7 : decode cX2_ringBorder 7 = .ok (.istore_n 3, 1) := by decide +kernel
theorem dX2_ringBorder_8 : decode cX2_ringBorder 8 = .ok (.iload_n 3, 1) := by decide +kernel
theorem dX2_ringBorder_9 : decode cX2_ringBorder 9 = .ok (.istore 4, 2) := by decide +kernel
theorem dX2_ringBorder_11 : decode cX2_ringBorder 11 = .ok (.iload 4, 2) := by decide +kernel
theorem dX2_ringBorder_13 : decode cX2_ringBorder 13 = .ok (.iload_n 3, 1) := by decide +kernel
theorem dX2_ringBorder_14 : decode cX2_ringBorder 14 = .ok (.aload_n 0, 1) := by decide +kernel
theorem dX2_ringBorder_15 : decode cX2_ringBorder 15 = .ok (.iload_n 1, 1) := by decide +kernel
theorem dX2_ringBorder_16 : decode cX2_ringBorder 16 = .ok (.invokevirtual 13, 3) := by decide +kernel
theorem dX2_ringBorder_19 : decode cX2_ringBorder 19 = .ok (.iadd, 1) := by decide +kernel
theorem dX2_ringBorder_20 : decode cX2_ringBorder 20 = .ok (.if_icmp .ge 18, 3) := by decide +kernel
theorem dX2_ringBorder_23 : decode cX2_ringBorder 23 = .ok (.iload_n 2, 1) := by decide +kernel
theorem dX2_ringBorder_24 : decode cX2_ringBorder 24 = .ok (.aload_n 0, 1) := by decide +kernel
theorem dX2_ringBorder_25 : decode cX2_ringBorder 25 = .ok (.iload 4, 2) := by decide +kernel
theorem dX2_ringBorder_27 : decode cX2_ringBorder 27 = .ok (.invokevirtual 47, 3) := by decide +kernel
theorem dX2_ringBorder_30 : decode cX2_ringBorder 30 = .ok (.iadd, 1) := by decide +kernel
theorem dX2_ringBorder_31 : decode cX2_ringBorder 31 = .ok (.istore_n 2, 1) := by decide +kernel
theorem dX2_ringBorder_32 : decode cX2_ringBorder 32 = .ok (.iinc 4 1, 3) := by decide +kernel
theorem dX2_ringBorder_35 : decode cX2_ringBorder 35 = .ok (.goto (-24), 3) := by decide +kernel
theorem dX2_ringBorder_38 : decode cX2_ringBorder 38 = .ok (.iload_n 2, 1) := by decide +kernel
theorem dX2_ringBorder_39 : decode cX2_ringBorder 39 = .ok (.ireturn, 1) := by decide +kernel
theorem dX2_border_0 : decode cX2_border 0 = .ok (.iconst 0, 1) := by decide +kernel
theorem dX2_border_1 : decode cX2_border 1 = .ok (.istore_n 1, 1) := by decide +kernel
theorem dX2_border_2 : decode cX2_border 2 = .ok (.iconst 0, 1) := by decide +kernel
theorem dX2_border_3 : decode cX2_border 3 = .ok (.istore_n 2, 1) := by decide +kernel
theorem dX2_border_4 : decode cX2_border 4 = .ok (.iload_n 2, 1) := by decide +kernel
theorem dX2_border_5 : decode cX2_border 5 = .ok (.aload_n 0, 1) := by decide +kernel
theorem dX2_border_6 : decode cX2_border 6 = .ok (.getfield 43, 3) := by decide +kernel
theorem dX2_border_9 : decode cX2_border 9 = .ok (.if_icmp .ge 17, 3) := by decide +kernel
theorem dX2_border_12 : decode cX2_border 12 = .ok (.iload_n 1, 1) := by decide +kernel
theorem dX2_border_13 : decode cX2_border 13 = .ok (.aload_n 0, 1) := by decide +kernel
theorem dX2_border_14 : decode cX2_border 14 = .ok (.iload_n 2, 1) := by decide +kernel
theorem dX2_border_15 : decode cX2_border 15 = .ok (.invokestatic 50, 3) := by decide +kernel
theorem dX2_border_18 : decode cX2_border 18 = .ok (.iadd, 1) := by decide +kernel
theorem dX2_border_19 : decode cX2_border 19 = .ok (.istore_n 1, 1) := by decide +kernel
theorem dX2_border_20 : decode cX2_border 20 = .ok (.iinc 2 1, 3) := by decide +kernel
theorem dX2_border_23 : decode cX2_border 23 = .ok (.goto (-19), 3) := by decide +kernel
theorem dX2_border_26 : decode cX2_border 26 = .ok (.iload_n 1, 1) := by decide +kernel
theorem dX2_border_27 : decode cX2_border 27 = .ok (.ireturn, 1) := by decide +kernel
theorem dX2_inside_0 : decode cX2_inside 0 = .ok (.aload_n 0, 1) := by decide +kernel
theorem dX2_inside_1 : decode cX2_inside 1 = .ok (.iconst 0, 1) := by decide +kernel
theorem dX2_inside_2 : decode cX2_inside 2 = .ok (.invokestatic 40, 3) := by decide +kernel
theorem dX2_inside_5 : decode cX2_inside 5 = .ok (.aload_n 0, 1) := by decide +kernel
theorem dX2_inside_6 : decode cX2_inside 6 = .ok (.iconst 0, 1) := by decide +kernel
theorem dX2_inside_7 : decode cX2_inside 7 = .ok (.invokestatic 50, 3) := by decide +kernel
theorem dX2_inside_10 : decode cX2_inside 10 = .ok (.isub, 1) := by decide +kernel
theorem dX2_inside_11 : decode cX2_inside 11 = .ok (.iconst 2, 1) := by decide +kernel
theorem dX2_inside_12 : decode cX2_inside 12 = .ok (.iadd, 1) := by decide +kernel
theorem dX2_inside_13 : decode cX2_inside 13 = .ok (.iconst 2, 1) := by decide +kernel
theorem dX2_inside_14 : decode cX2_inside 14 = .ok (.idiv, 1) := by decide +kernel
theorem dX2_inside_15 : decode cX2_inside 15 = .ok (.istore_n 1, 1) := by decide +kernel
theorem dX2_inside_16 : decode cX2_inside 16 = .ok (.iconst 1, 1) := by decide +kernel
theorem dX2_inside_17 : decode cX2_inside 17 = .ok (.istore_n 2, 1) := by decide +kernel
theorem dX2_inside_18 : decode cX2_inside 18 = .ok (.iload_n 2, 1) := by decide +kernel
theorem dX2_inside_19 : decode cX2_inside 19 = .ok (.aload_n 0, 1) := by decide +kernel
theorem dX2_inside_20 : decode cX2_inside 20 = .ok (.getfield 43, 3) := by decide +kernel
theorem dX2_inside_23 : decode cX2_inside 23 = .ok (.if_icmp .ge 27, 3) := by decide +kernel
theorem dX2_inside_26 : decode cX2_inside 26 = .ok (.iload_n 1, 1) := by decide +kernel
theorem dX2_inside_27 : decode cX2_inside 27 = .ok (.aload_n 0, 1) := by decide +kernel
theorem dX2_inside_28 : decode cX2_inside 28 = .ok (.iload_n 2, 1) := by decide +kernel
theorem dX2_inside_29 : decode cX2_inside 29 = .ok (.invokestatic 40, 3) := by decide +kernel
theorem dX2_inside_32 : decode cX2_inside 32 = .ok (.aload_n 0, 1) := by decide +kernel
theorem dX2_inside_33 : decode cX2_inside 33 = .ok (.iload_n 2, 1) := by decide +kernel
theorem dX2_inside_34 : decode cX2_inside 34 = .ok (.invokestatic 50, 3) := by decide +kernel
theorem dX2_inside_37 : decode cX2_inside 37 = .ok (.iadd, 1) := by decide +kernel
theorem dX2_inside_38 : decode cX2_inside 38 = .ok (.iconst 2, 1) := by decide +kernel
theorem dX2_inside_39 : decode cX2_inside 39 = .ok (.iadd, 1) := by decide +kernel
theorem dX2_inside_40 : decode cX2_inside 40 = .ok (.iconst 2, 1) := by decide +kernel
theorem dX2_inside_41 : decode cX2_inside 41 = .ok (.idiv, 1) := by decide +kernel
theorem dX2_inside_42 : decode cX2_inside 42 = .ok (.isub, 1) := by decide +kernel
theorem dX2_inside_43 : decode cX2_inside 43 = .ok (.istore_n 1, 1) := by decide +kernel
theorem dX2_inside_44 : decode cX2_inside 44 = .ok (.iinc 2 1, 3) := by decide +kernel
theorem dX2_inside_47 : decode cX2_inside 47 = .ok (.goto (-29), 3) := by decide +kernel
theorem dX2_inside_50 : decode cX2_inside 50 = .ok (.iload_n 1, 1) := by decide +kernel
theorem dX2_inside_51 : decode cX2_inside 51 = .ok (.ireturn, 1) := by decide +kernel
theorem dX2_kind_0 : decode cX2_kind 0 = .ok (.aload_n 0, 1) := by decide +kernel
theorem dX2_kind_1 : decode cX2_kind 1 = .ok (.iload_n 1, 1) := by decide +kernel
theorem dX2_kind_2 : decode cX2_kind 2 = .ok (.iload_n 2, 1) := by decide +kernel
theorem dX2_kind_3 : decode cX2_kind 3 = .ok (.invokevirtual 53, 3) := by decide +kernel
theorem dX2_kind_6 : decode cX2_kind 6 = .ok (.istore_n 3, 1) := by decide +kernel
theorem dX2_kind_7 : decode cX2_kind 7 = .ok (.iload_n 3, 1) := by decide +kernel
theorem dX2_kind_8 : decode cX2_kind 8 = .ok (.ifCond .ne 5, 3) := by decide +kernel
theorem dX2_kind_11 : decode cX2_kind 11 = .ok (.iconst 0, 1) := by decide +kernel
theorem dX2_kind_12 : decode cX2_kind 12 = .ok (.ireturn, 1) := by decide +kernel
theorem dX2_kind_13 : decode cX2_kind 13 = .ok (.iload_n 3, 1) := by decide +kernel
theorem dX2_kind_14 : decode cX2_kind 14 = .ok (.ifCond .le 7, 3) := by decide +kernel
theorem dX2_kind_17 : decode cX2_kind 17 = .ok (.iconst 1, 1) := by decide +kernel
theorem dX2_kind_18 : decode cX2_kind 18 = .ok (.goto 4, 3) := by decide +kernel
theorem dX2_kind_21 : decode cX2_kind 21 = .ok (.iconst 0, 1) := by decide +kernel
theorem dX2_kind_22 : decode cX2_kind 22 = .ok (.aload_n 0, 1) := by decide +kernel
theorem dX2_kind_23 : decode cX2_kind 23 = .ok (.iload_n 1, 1) := by decide +kernel
theorem dX2_kind_24 : decode cX2_kind 24 = .ok (.invokestatic 31, 3) := by decide +kernel
theorem dX2_kind_27 : decode cX2_kind 27 = .ok (.ifCond .le 7, 3) := by decide +kernel
theorem dX2_kind_30 : decode cX2_kind 30 = .ok (.iconst 1, 1) := by decide +kernel
theorem dX2_kind_31 : decode cX2_kind 31 = .ok (.goto 4, 3) := by decide +kernel
theorem dX2_kind_34 : decode cX2_kind 34 = .ok (.iconst 0, 1) := by decide +kernel
theorem dX2_kind_35 : decode cX2_kind 35 = .ok (.if_icmp .ne 7, 3) := by decide +kernel
theorem dX2_kind_38 : decode cX2_kind 38 = .ok (.iconst 1, 1) := by decide +kernel
theorem dX2_kind_39 : decode cX2_kind 39 = .ok (.goto 4, 3) := by decide +kernel
theorem dX2_kind_42 : decode cX2_kind 42 = .ok (.iconst (-1), 1) := by decide +kernel
theorem dX2_kind_43 : decode cX2_kind 43 = .ok (.ireturn, 1) := by decide +kernel
theorem dX2_outlineCorners_0 : decode cX2_outlineCorners 0 = .ok (.iconst 0, 1) := by decide +kernel
theorem dX2_outlineCorners_1 : decode cX2_outlineCorners 1 = .ok (.istore_n 2, 1) := by decide +kernel
theorem dX2_outlineCorners_2 : decode cX2_outlineCorners 2 = .ok (.iconst 0, 1) := by decide +kernel
theorem dX2_outlineCorners_3 : decode cX2_outlineCorners 3 = .ok (.istore_n 3, 1) := by decide +kernel
theorem dX2_outlineCorners_4 : decode cX2_outlineCorners 4 = .ok (.iload_n 3, 1) := by decide +kernel
theorem dX2_outlineCorners_5 : decode cX2_outlineCorners 5 = .ok (.aload_n 0, 1) := by decide +kernel
theorem dX2_outlineCorners_6 : decode cX2_outlineCorners 6 = .ok (.iconst 0, 1) := by decide +kernel
theorem dX2_outlineCorners_7 : decode cX2_outlineCorners 7 = .ok (.invokevirtual 13, 3) := by decide +kernel
theorem dX2_outlineCorners_10 : decode cX2_outlineCorners 10 = .ok (.if_icmp .ge 22, 3) := by decide +kernel
theorem dX2_outlineCorners_13 : decode cX2_outlineCorners 13 = .ok (.aload_n 0, 1) := by decide +kernel
theorem dX2_outlineCorners_14 : decode cX2_outlineCorners 14 = .ok (.iconst 0, 1) := by decide +kernel
theorem dX2_outlineCorners_15 : decode cX2_outlineCorners 15 = .ok (.iload_n 3, 1) := by decide +kernel
theorem dX2_outlineCorners_16 : decode cX2_outlineCorners 16 = .ok (.invokestatic 57, 3) := by decide +kernel
theorem dX2_outlineCorners_19 : decode cX2_outlineCorners 19 = .ok (.iload_n 1, 1) := by decide +kernel
theorem dX2_outlineCorners_20 : decode cX2_outlineCorners 20 = .ok (.if_icmp .ne 6, 3) := by decide +kernel
theorem dX2_outlineCorners_23 : decode cX2_outlineCorners 23 = .ok (.iinc 2 1, 3) := by decide +kernel
theorem dX2_outlineCorners_26 : decode cX2_outlineCorners 26 = .ok (.iinc 3 1, 3) := by decide +kernel
theorem dX2_outlineCorners_29 : decode cX2_outlineCorners 29 = .ok (.goto (-25), 3) := by decide +kernel
theorem dX2_outlineCorners_32 : decode cX2_outlineCorners 32 = .ok (.iload_n 2, 1) := by decide +kernel
theorem dX2_outlineCorners_33 : decode cX2_outlineCorners 33 = .ok (.ireturn, 1) := by decide +kernel
theorem dX2_longestSide_0 : decode cX2_longestSide 0 = .ok (.aload_n 0, 1) := by decide +kernel
theorem dX2_longestSide_1 : decode cX2_longestSide 1 = .ok (.iload_n 1, 1) := by decide +kernel
theorem dX2_longestSide_2 : decode cX2_longestSide 2 = .ok (.invokevirtual 7, 3) := by decide +kernel
theorem dX2_longestSide_5 : decode cX2_longestSide 5 = .ok (.istore_n 2, 1) := by decide +kernel
theorem dX2_longestSide_6 : decode cX2_longestSide 6 = .ok (.iload_n 2, 1) := by decide +kernel
theorem dX2_longestSide_7 : decode cX2_longestSide 7 = .ok (.istore_n 3, 1) := by decide +kernel
theorem dX2_longestSide_8 : decode cX2_longestSide 8 = .ok (.iload_n 2, 1) := by decide +kernel
theorem dX2_longestSide_9 : decode cX2_longestSide 9 = .ok (.istore 4, 2) := by decide +kernel
theorem dX2_longestSide_11 : decode cX2_longestSide 11 = .ok (.iload 4, 2) := by decide +kernel
theorem dX2_longestSide_13 : decode cX2_longestSide 13 = .ok (.iload_n 2, 1) := by decide +kernel
theorem dX2_longestSide_14 : decode cX2_longestSide 14 = .ok (.aload_n 0, 1) := by decide +kernel
theorem dX2_longestSide_15 : decode cX2_longestSide 15 = .ok (.iload_n 1, 1) := by decide +kernel
theorem dX2_longestSide_16 : decode cX2_longestSide 16 = .ok (.invokevirtual 13, 3) := by decide +kernel
theorem dX2_longestSide_19 : decode cX2_longestSide 19 = .ok (.iadd, 1) := by decide +kernel
theorem dX2_longestSide_20 : decode cX2_longestSide 20 = .ok (.if_icmp .ge 26, 3) := by decide +kernel
theorem dX2_longestSide_23 : decode cX2_longestSide 23 = .ok (.aload_n 0, 1) := by decide +kernel
theorem dX2_longestSide_24 : decode cX2_longestSide 24 = .ok (.iload 4, 2) := by decide +kernel
theorem dX2_longestSide_26 : decode cX2_longestSide 26 = .ok (.invokevirtual 60, 3) := by decide +kernel
theorem dX2_longestSide_29 : decode cX2_longestSide 29 = .ok (.aload_n 0, 1) := by decide +kernel
theorem dX2_longestSide_30 : decode cX2_longestSide 30 = .ok (.iload_n 3, 1) := by decide +kernel
theorem dX2_longestSide_31 : decode cX2_longestSide 31 = .ok (.invokevirtual 60, 3) := by decide +kernel
theorem dX2_longestSide_34 : decode cX2_longestSide 34 = .ok (.if_icmp .le 6, 3) := by decide +kernel
theorem dX2_longestSide_37 : decode cX2_longestSide 37 = .ok (.iload 4, 2) := by decide +kernel
theorem dX2_longestSide_39 : decode cX2_longestSide 39 = .ok (.istore_n 3, 1) := by decide +kernel
theorem dX2_longestSide_40 : decode cX2_longestSide 40 = .ok (.iinc 4 1, 3) := by decide +kernel
theorem dX2_longestSide_43 : decode cX2_longestSide 43 = .ok (.goto (-32), 3) := by decide +kernel
theorem dX2_longestSide_46 : decode cX2_longestSide 46 = .ok (.iload_n 3, 1) := by decide +kernel
theorem dX2_longestSide_47 : decode cX2_longestSide 47 = .ok (.ireturn, 1) := by decide +kernel
theorem dX2_greatestX_0 : decode cX2_greatestX 0 = .ok (.iconst 0, 1) := by decide +kernel
theorem dX2_greatestX_1 : decode cX2_greatestX 1 = .ok (.istore_n 1, 1) := by decide +kernel
theorem dX2_greatestX_2 : decode cX2_greatestX 2 = .ok (.iconst 0, 1) := by decide +kernel
theorem dX2_greatestX_3 : decode cX2_greatestX 3 = .ok (.istore_n 2, 1) := by decide +kernel
theorem dX2_greatestX_4 : decode cX2_greatestX 4 = .ok (.iload_n 2, 1) := by decide +kernel
theorem dX2_greatestX_5 : decode cX2_greatestX 5 = .ok (.aload_n 0, 1) := by decide +kernel
theorem dX2_greatestX_6 : decode cX2_greatestX 6 = .ok (.getfield 63, 3) := by decide +kernel
theorem dX2_greatestX_9 : decode cX2_greatestX 9 = .ok (.if_icmp .ge 19, 3) := by decide +kernel
theorem dX2_greatestX_12 : decode cX2_greatestX 12 = .ok (.iload_n 1, 1) := by decide +kernel
theorem dX2_greatestX_13 : decode cX2_greatestX 13 = .ok (.aload_n 0, 1) := by decide +kernel
theorem dX2_greatestX_14 : decode cX2_greatestX 14 = .ok (.iload_n 2, 1) := by decide +kernel
theorem dX2_greatestX_15 : decode cX2_greatestX 15 = .ok (.invokevirtual 25, 3) := by decide +kernel
theorem dX2_greatestX_18 : decode cX2_greatestX 18 = .ok (.invokestatic 66, 3) := by decide +kernel
theorem dX2_greatestX_21 : decode cX2_greatestX 21 = .ok (.istore_n 1, 1) := by decide +kernel
theorem dX2_greatestX_22 : decode cX2_greatestX 22 = .ok (.iinc 2 1, 3) := by decide +kernel
theorem dX2_greatestX_25 : decode cX2_greatestX 25 = .ok (.goto (-21), 3) := by decide +kernel
theorem dX2_greatestX_28 : decode cX2_greatestX 28 = .ok (.iload_n 1, 1) := by decide +kernel
theorem dX2_greatestX_29 : decode cX2_greatestX 29 = .ok (.ireturn, 1) := by decide +kernel
theorem dX2_hull_0 : decode cX2_hull 0 = .ok (.iconst 0, 1) := by decide +kernel
theorem dX2_hull_1 : decode cX2_hull 1 = .ok (.istore_n 1, 1) := by decide +kernel
theorem dX2_hull_2 : decode cX2_hull 2 = .ok (.iconst 0, 1) := by decide +kernel
theorem dX2_hull_3 : decode cX2_hull 3 = .ok (.istore_n 2, 1) := by decide +kernel
theorem dX2_hull_4 : decode cX2_hull 4 = .ok (.iload_n 2, 1) := by decide +kernel
theorem dX2_hull_5 : decode cX2_hull 5 = .ok (.aload_n 0, 1) := by decide +kernel
theorem dX2_hull_6 : decode cX2_hull 6 = .ok (.iconst 0, 1) := by decide +kernel
theorem dX2_hull_7 : decode cX2_hull 7 = .ok (.invokevirtual 13, 3) := by decide +kernel
theorem dX2_hull_10 : decode cX2_hull 10 = .ok (.if_icmp .ge 49, 3) := by decide +kernel
theorem dX2_hull_13 : decode cX2_hull 13 = .ok (.iconst 0, 1) := by decide +kernel
theorem dX2_hull_14 : decode cX2_hull 14 = .ok (.istore_n 3, 1) := by decide +kernel
theorem dX2_hull_15 : decode cX2_hull 15 = .ok (.iload_n 3, 1) := by decide +kernel
theorem dX2_hull_16 : decode cX2_hull 16 = .ok (.aload_n 0, 1) := by decide +kernel
theorem dX2_hull_17 : decode cX2_hull 17 = .ok (.iconst 0, 1) := by decide +kernel
theorem dX2_hull_18 : decode cX2_hull 18 = .ok (.invokevirtual 13, 3) := by decide +kernel
theorem dX2_hull_21 : decode cX2_hull 21 = .ok (.if_icmp .ge 32, 3) := by decide +kernel
theorem dX2_hull_24 : decode cX2_hull 24 = .ok (.iload_n 2, 1) := by decide +kernel
theorem dX2_hull_25 : decode cX2_hull 25 = .ok (.iload_n 3, 1) := by decide +kernel
theorem dX2_hull_26 : decode cX2_hull 26 = .ok (.if_icmp .eq 21, 3) := by decide +kernel
theorem dX2_hull_29 : decode cX2_hull 29 = .ok (.aload_n 0, 1) := by decide +kernel
theorem dX2_hull_30 : decode cX2_hull 30 = .ok (.iload_n 2, 1) := by decide +kernel
theorem dX2_hull_31 : decode cX2_hull 31 = .ok (.iload_n 3, 1) := by decide +kernel
theorem dX2_hull_32 : decode cX2_hull 32 = .ok (.invokestatic 69, 3) := by decide +kernel
theorem dX2_hull_35 : decode cX2_hull 35 = .ok (.ifCond .eq 12, 3) := by decide +kernel
theorem dX2_hull_38 : decode cX2_hull 38 = .ok (.iload_n 1, 1) := by decide +kernel
theorem dX2_hull_39 : decode cX2_hull 39 = .ok (.aload_n 0, 1) := by decide +kernel
theorem dX2_hull_40 : decode cX2_hull 40 = .ok (.iload_n 2, 1) := by decide +kernel
theorem dX2_hull_41 : decode cX2_hull 41 = .ok (.iload_n 3, 1) := by decide +kernel
theorem dX2_hull_42 : decode cX2_hull 42 = .ok (.invokestatic 19, 3) := by decide +kernel
theorem dX2_hull_45 : decode cX2_hull 45 = .ok (.iadd, 1) := by decide +kernel
theorem dX2_hull_46 : decode cX2_hull 46 = .ok (.istore_n 1, 1) := by decide +kernel
theorem dX2_hull_47 : decode cX2_hull 47 = .ok (.iinc 3 1, 3) := by decide +kernel
theorem dX2_hull_50 : decode cX2_hull 50 = .ok (.goto (-35), 3) := by decide +kernel
theorem dX2_hull_53 : decode cX2_hull 53 = .ok (.iinc 2 1, 3) := by decide +kernel
theorem dX2_hull_56 : decode cX2_hull 56 = .ok (.goto (-52), 3) := by decide +kernel
theorem dX2_hull_59 : decode cX2_hull 59 = .ok (.iload_n 1, 1) := by decide +kernel
theorem dX2_hull_60 : decode cX2_hull 60 = .ok (.ireturn, 1) := by decide +kernel
theorem dX2_isHullSide_0 : decode cX2_isHullSide 0 = .ok (.iconst 0, 1) := by decide +kernel
theorem dX2_isHullSide_1 : decode cX2_isHullSide 1 = .ok (.istore_n 3, 1) := by decide +kernel
theorem dX2_isHullSide_2 : decode cX2_isHullSide 2 = .ok (.iload_n 3, 1) := by decide +kernel
theorem dX2_isHullSide_3 : decode cX2_isHullSide 3 = .ok (.aload_n 0, 1) := by decide +kernel
theorem dX2_isHullSide_4 : decode cX2_isHullSide 4 = .ok (.iconst 0, 1) := by decide +kernel
theorem dX2_isHullSide_5 : decode cX2_isHullSide 5 = .ok (.invokevirtual 13, 3) := by decide +kernel
theorem dX2_isHullSide_8 : decode cX2_isHullSide 8 = .ok (.if_icmp .ge 49, 3) := by decide +kernel
theorem dX2_isHullSide_11 : decode cX2_isHullSide 11 = .ok (.aload_n 0, 1) := by decide +kernel
theorem dX2_isHullSide_12 : decode cX2_isHullSide 12 = .ok (.iload_n 1, 1) := by decide +kernel
theorem dX2_isHullSide_13 : decode cX2_isHullSide 13 = .ok (.iload_n 2, 1) := by decide +kernel
theorem dX2_isHullSide_14 : decode cX2_isHullSide 14 = .ok (.iload_n 3, 1) := by decide +kernel
theorem dX2_isHullSide_15 : decode cX2_isHullSide 15 = .ok (.invokevirtual 73, 3) := by decide +kernel
theorem dX2_isHullSide_18 : decode cX2_isHullSide 18 = .ok (.istore 4, 2) := by decide +kernel
theorem dX2_isHullSide_20 : decode cX2_isHullSide 20 = .ok (.iload 4, 2) := by decide +kernel
theorem dX2_isHullSide_22 : decode cX2_isHullSide 22 = .ok (.ifCond .lt 27, 3) := by decide +kernel
theorem dX2_isHullSide_25 : decode cX2_isHullSide 25 = .ok (.iload 4, 2) := by decide +kernel
theorem dX2_isHullSide_27 : decode cX2_isHullSide 27 = .ok (.ifCond .ne 24, 3) := by decide +kernel
theorem dX2_isHullSide_30 : decode cX2_isHullSide 30 = .ok (.aload_n 0, 1) := by decide +kernel
theorem dX2_isHullSide_31 : decode cX2_isHullSide 31 = .ok (.aload_n 0, 1) := by decide +kernel
theorem dX2_isHullSide_32 : decode cX2_isHullSide 32 = .ok (.iload_n 3, 1) := by decide +kernel
theorem dX2_isHullSide_33 : decode cX2_isHullSide 33 = .ok (.invokevirtual 25, 3) := by decide +kernel
theorem dX2_isHullSide_36 : decode cX2_isHullSide 36 = .ok (.aload_n 0, 1) := by decide +kernel
theorem dX2_isHullSide_37 : decode cX2_isHullSide 37 = .ok (.iload_n 3, 1) := by decide +kernel
theorem dX2_isHullSide_38 : decode cX2_isHullSide 38 = .ok (.invokevirtual 28, 3) := by decide +kernel
theorem dX2_isHullSide_41 : decode cX2_isHullSide 41 = .ok (.iload_n 1, 1) := by decide +kernel
theorem dX2_isHullSide_42 : decode cX2_isHullSide 42 = .ok (.iload_n 2, 1) := by decide +kernel
theorem dX2_isHullSide_43 : decode cX2_isHullSide 43 = .ok (.invokevirtual 77, 3) := by decide +kernel
theorem dX2_isHullSide_46 : decode cX2_isHullSide 46 = .ok (.ifCond .ne 5, 3) := by decide +kernel
theorem dX2_isHullSide_49 : decode cX2_isHullSide 49 = .ok (.iconst 0, 1) := by decide +kernel
theorem dX2_isHullSide_50 : decode cX2_isHullSide 50 = .ok (.ireturn, 1) := by decide +kernel
theorem dX2_isHullSide_51 : decode cX2_isHullSide 51 = .ok (.iinc 3 1, 3) := by decide +kernel
theorem dX2_isHullSide_54 : decode cX2_isHullSide 54 = .ok (.goto (-52), 3) := by decide +kernel
theorem dX2_isHullSide_57 : decode cX2_isHullSide 57 = .ok (.iconst 1, 1) := by decide +kernel
theorem dX2_isHullSide_58 : decode cX2_isHullSide 58 = .ok (.ireturn, 1) := by decide +kernel
theorem dX3_init_0 : decode cX3_init 0 = .ok (.aload_n 0, 1) := by decide +kernel
theorem dX3_init_1 : decode cX3_init 1 = .ok (.invokespecial 3, 3) := by decide +kernel
theorem dX3_init_4 : decode cX3_init 4 = .ok (.aload_n 0, 1) := by decide +kernel
theorem dX3_init_5 : decode cX3_init 5 = .ok (.bipush 14, 2) := by decide +kernel
theorem dX3_init_7 : decode cX3_init 7 = .ok (.anewarray 9, 3) := by decide +kernel
theorem dX3_init_10 : decode cX3_init 10 = .ok (.putfield 11, 3) := by decide +kernel
theorem dX3_init_13 : decode cX3_init 13 = .ok (.iconst 0, 1) := by decide +kernel
theorem dX3_init_14 : decode cX3_init 14 = .ok (.istore_n 1, 1) := by decide +kernel
theorem dX3_init_15 : decode cX3_init 15 = .ok (.iload_n 1, 1) := by decide +kernel
theorem dX3_init_16 : decode cX3_init 16 = .ok (.bipush 14, 2) := by decide +kernel
theorem dX3_init_18 : decode cX3_init 18 = .ok (.if_icmp .ge 22, 3) := by decide +kernel
theorem dX3_init_21 : decode cX3_init 21 = .ok (.aload_n 0, 1) := by decide +kernel
theorem dX3_init_22 : decode cX3_init 22 = .ok (.getfield 11, 3) := by decide +kernel
theorem dX3_init_25 : decode cX3_init 25 = .ok (.iload_n 1, 1) := by decide +kernel
theorem dX3_init_26 : decode cX3_init 26 = .ok (.new 9, 3) := by decide +kernel
theorem dX3_init_29 : decode cX3_init 29 = .ok (.dup, 1) := by decide +kernel
theorem dX3_init_30 : decode cX3_init 30 = .ok (.invokespecial 17, 3) := by decide +kernel
theorem dX3_init_33 : decode cX3_init 33 = .ok (.aastore, 1) := by decide +kernel
theorem dX3_init_34 : decode cX3_init 34 = .ok (.iinc 1 1, 3) := by decide +kernel
theorem dX3_init_37 : decode cX3_init 37 = .ok (.goto (-22), 3) := by decide +kernel
theorem dX3_init_40 : decode cX3_init 40 = .ok (.return_, 1) := by decide +kernel
theorem dX3_forgetAll_0 : decode cX3_forgetAll 0 = .ok (.aload_n 0, 1) := by decide +kernel
theorem dX3_forgetAll_1 : decode cX3_forgetAll 1 = .ok (.iconst 0, 1) := by decide +kernel
theorem dX3_forgetAll_2 : decode cX3_forgetAll 2 = .ok (.putfield 18, 3) := by decide +kernel
theorem dX3_forgetAll_5 : decode cX3_forgetAll 5 = .ok (.aload_n 0, 1) := by decide +kernel
theorem dX3_forgetAll_6 : decode cX3_forgetAll 6 = .ok (.iconst 0, 1) := by decide +kernel
theorem dX3_forgetAll_7 : decode cX3_forgetAll 7 = .ok (.putfield 22, 3) := by decide +kernel
theorem dX3_forgetAll_10 : decode cX3_forgetAll 10 = .ok (.return_, 1) := by decide +kernel
theorem dX3_remember_0 : decode cX3_remember 0 = .ok (.aload_n 0, 1) := by decide +kernel
theorem dX3_remember_1 : decode cX3_remember 1 = .ok (.getfield 11, 3) := by decide +kernel
theorem dX3_remember_4 : decode cX3_remember 4 = .ok (.aload_n 0, 1) := by decide +kernel
theorem dX3_remember_5 : decode cX3_remember 5 = .ok (.getfield 18, 3) := by decide +kernel
theorem dX3_remember_8 : decode cX3_remember 8 = .ok (.aload_n 0, 1) := by decide +kernel
theorem dX3_remember_9 : decode cX3_remember 9 = .ok (.getfield 22, 3) := by decide +kernel
theorem dX3_remember_12 : decode cX3_remember 12 = .ok (.iadd, 1) := by decide +kernel
theorem dX3_remember_13 : decode cX3_remember 13 = .ok (.bipush 14, 2) := by decide +kernel
theorem dX3_remember_15 : decode cX3_remember 15 = .ok (.irem, 1) := by decide +kernel
theorem dX3_remember_16 : decode cX3_remember 16 = .ok (.aaload, 1) := by decide +kernel
theorem dX3_remember_17 : decode cX3_remember 17 = .ok (.aload_n 1, 1) := by decide +kernel
theorem dX3_remember_18 : decode cX3_remember 18 = .ok (.invokevirtual 25, 3) := by decide +kernel
theorem dX3_remember_21 : decode cX3_remember 21 = .ok (.aload_n 0, 1) := by decide +kernel
theorem dX3_remember_22 : decode cX3_remember 22 = .ok (.getfield 22, 3) := by decide +kernel
theorem dX3_remember_25 : decode cX3_remember 25 = .ok (.bipush 14, 2) := by decide +kernel
theorem dX3_remember_27 : decode cX3_remember 27 = .ok (.if_icmp .ge 16, 3) := by decide +kernel
theorem dX3_remember_30 : decode cX3_remember 30 = .ok (.aload_n 0, 1) := by decide +kernel
theorem dX3_remember_31 : decode cX3_remember 31 = .ok (.dup, 1) := by decide +kernel
theorem dX3_remember_32 : decode cX3_remember 32 = .ok (.getfield 22, 3) := by decide +kernel
theorem dX3_remember_35 : decode cX3_remember 35 = .ok (.iconst 1, 1) := by decide +kernel
theorem dX3_remember_36 : decode cX3_remember 36 = .ok (.iadd, 1) := by decide +kernel
theorem dX3_remember_37 : decode cX3_remember 37 = .ok (.putfield 22, 3) := by decide +kernel
theorem dX3_remember_40 : decode cX3_remember 40 = .ok (.goto 16, 3) := by decide +kernel
theorem dX3_remember_43 : decode cX3_remember 43 = .ok (.aload_n 0, 1) := by decide +kernel
theorem dX3_remember_44 : decode cX3_remember 44 = .ok (.aload_n 0, 1) := by decide +kernel
theorem dX3_remember_45 : decode cX3_remember 45 = .ok (.getfield 18, 3) := by decide +kernel
theorem dX3_remember_48 : decode cX3_remember 48 = .ok (.iconst 1, 1) := by decide +kernel
theorem dX3_remember_49 : decode cX3_remember 49 = .ok (.iadd, 1) := by decide +kernel
theorem dX3_remember_50 : decode cX3_remember 50 = .ok (.bipush 14, 2) := by decide +kernel
theorem dX3_remember_52 : decode cX3_remember 52 = .ok (.irem, 1) := by decide +kernel
theorem dX3_remember_53 : decode cX3_remember 53 = .ok (.putfield 18, 3) := by decide +kernel
theorem dX3_remember_56 : decode cX3_remember 56 = .ok (.return_, 1) := by decide +kernel
theorem dX3_takeBackInto_0 : decode cX3_takeBackInto 0 = .ok (.aload_n 0, 1) := by decide +kernel
theorem dX3_takeBackInto_1 : decode cX3_takeBackInto 1 = .ok (.getfield 22, 3) := by decide +kernel
theorem dX3_takeBackInto_4 : decode cX3_takeBackInto 4 = .ok (.ifCond .le 34, 3) := by decide +kernel
theorem dX3_takeBackInto_7 : decode cX3_takeBackInto 7 = .ok (.aload_n 0, 1) := by decide +kernel
theorem dX3_takeBackInto_8 : decode cX3_takeBackInto 8 = .ok (.dup, 1) := by decide +kernel
theorem dX3_takeBackInto_9 : decode cX3_takeBackInto 9 = .ok (.getfield 22, 3) := by decide +kernel
theorem dX3_takeBackInto_12 : decode cX3_takeBackInto 12 = .ok (.iconst 1, 1) := by decide +kernel
theorem dX3_takeBackInto_13 : decode cX3_takeBackInto 13 = .ok (.isub, 1) := by decide +kernel
theorem dX3_takeBackInto_14 : decode cX3_takeBackInto 14 = .ok (.putfield 22, 3) := by decide +kernel
theorem dX3_takeBackInto_17 : decode cX3_takeBackInto 17 = .ok (.aload_n 1, 1) := by decide +kernel
theorem dX3_takeBackInto_18 : decode cX3_takeBackInto 18 = .ok (.aload_n 0, 1) := by decide +kernel
theorem dX3_takeBackInto_19 : decode cX3_takeBackInto 19 = .ok (.getfield 11, 3) := by decide +kernel
theorem dX3_takeBackInto_22 : decode cX3_takeBackInto 22 = .ok (.aload_n 0, 1) := by decide +kernel
theorem dX3_takeBackInto_23 : decode cX3_takeBackInto 23 = .ok (.getfield 18, 3) := by decide +kernel
theorem dX3_takeBackInto_26 : decode cX3_takeBackInto 26 = .ok (.aload_n 0, 1) := by decide +kernel
theorem dX3_takeBackInto_27 : decode cX3_takeBackInto 27 = .ok (.getfield 22, 3) := by decide +kernel
theorem dX3_takeBackInto_30 : decode cX3_takeBackInto 30 = .ok (.iadd, 1) := by decide +kernel
theorem dX3_takeBackInto_31 : decode cX3_takeBackInto 31 = .ok (.bipush 14, 2) := by decide +kernel
theorem dX3_takeBackInto_33 : decode cX3_takeBackInto 33 = .ok (.irem, 1) := by decide +kernel
theorem dX3_takeBackInto_34 : decode cX3_takeBackInto 34 = .ok (.aaload, 1) := by decide +kernel
theorem dX3_takeBackInto_35 : decode cX3_takeBackInto 35 = .ok (.invokevirtual 25, 3) := by decide +kernel
theorem dX3_takeBackInto_38 : decode cX3_takeBackInto 38 = .ok (.return_, 1) := by decide +kernel
theorem dX4_firstBroken_0 : decode cX4_firstBroken 0 = .ok (.aload_n 0, 1) := by decide +kernel
theorem dX4_firstBroken_1 : decode cX4_firstBroken 1 = .ok (.invokestatic 9, 3) := by decide +kernel
theorem dX4_firstBroken_4 : decode cX4_firstBroken 4 = .ok (.ifCond .eq 5, 3) := by decide +kernel
theorem dX4_firstBroken_7 : decode cX4_firstBroken 7 = .ok (.iconst 1, 1) := by decide +kernel
theorem dX4_firstBroken_8 : decode cX4_firstBroken 8 = .ok (.ireturn, 1) := by decide +kernel
theorem dX4_firstBroken_9 : decode cX4_firstBroken 9 = .ok (.aload_n 0, 1) := by decide +kernel
theorem dX4_firstBroken_10 : decode cX4_firstBroken 10 = .ok (.invokestatic 15, 3) := by decide +kernel
theorem dX4_firstBroken_13 : decode cX4_firstBroken 13 = .ok (.ifCond .eq 5, 3) := by decide +kernel
theorem dX4_firstBroken_16 : decode cX4_firstBroken 16 = .ok (.iconst 2, 1) := by decide +kernel
theorem dX4_firstBroken_17 : decode cX4_firstBroken 17 = .ok (.ireturn, 1) := by decide +kernel
theorem dX4_firstBroken_18 : decode cX4_firstBroken 18 = .ok (.aload_n 0, 1) := by decide +kernel
theorem dX4_firstBroken_19 : decode cX4_firstBroken 19 = .ok (.invokestatic 18, 3) := by decide +kernel
theorem dX4_firstBroken_22 : decode cX4_firstBroken 22 = .ok (.ifCond .eq 5, 3) := by decide +kernel
theorem dX4_firstBroken_25 : decode cX4_firstBroken 25 = .ok (.iconst 3, 1) := by decide +kernel
theorem dX4_firstBroken_26 : decode cX4_firstBroken 26 = .ok (.ireturn, 1) := by decide +kernel
theorem dX4_firstBroken_27 : decode cX4_firstBroken 27 = .ok (.aload_n 0, 1) := by decide +kernel
theorem dX4_firstBroken_28 : decode cX4_firstBroken 28 = .ok (.invokestatic 21, 3) := by decide +kernel
theorem dX4_firstBroken_31 : decode cX4_firstBroken 31 = .ok (.ifCond .eq 5, 3) := by decide +kernel
theorem dX4_firstBroken_34 : decode cX4_firstBroken 34 = .ok (.iconst 4, 1) := by decide +kernel
theorem dX4_firstBroken_35 : decode cX4_firstBroken 35 = .ok (.ireturn, 1) := by decide +kernel
theorem dX4_firstBroken_36 : decode cX4_firstBroken 36 = .ok (.aload_n 0, 1) := by decide +kernel
theorem dX4_firstBroken_37 : decode cX4_firstBroken 37 = .ok (.invokestatic 24, 3) := by decide +kernel
theorem dX4_firstBroken_40 : decode cX4_firstBroken 40 = .ok (.ifCond .eq 7, 3) := by decide +kernel
theorem dX4_firstBroken_43 : decode cX4_firstBroken 43 = .ok (.iconst 5, 1) := by decide +kernel
theorem dX4_firstBroken_44 : decode cX4_firstBroken 44 = .ok (.goto 4, 3) := by decide +kernel
theorem dX4_firstBroken_47 : decode cX4_firstBroken 47 = .ok (.iconst 0, 1) := by decide +kernel
theorem dX4_firstBroken_48 : decode cX4_firstBroken 48 = .ok (.ireturn, 1) := by decide +kernel
theorem dX4_leavesPaper_0 : decode cX4_leavesPaper 0 = .ok (.iconst 0, 1) := by decide +kernel
theorem dX4_leavesPaper_1 : decode cX4_leavesPaper 1 = .ok (.istore_n 1, 1) := by decide +kernel
theorem dX4_leavesPaper_2 : decode cX4_leavesPaper 2 = .ok (.iload_n 1, 1) := by decide +kernel
theorem dX4_leavesPaper_3 : decode cX4_leavesPaper 3 = .ok (.aload_n 0, 1) := by decide +kernel
theorem dX4_leavesPaper_4 : decode cX4_leavesPaper 4 = .ok (.getfield 27, 3) := by decide +kernel
theorem dX4_leavesPaper_7 : decode cX4_leavesPaper 7 = .ok (.if_icmp .ge 39, 3) := by decide +kernel
theorem dX4_leavesPaper_10 : decode cX4_leavesPaper 10 = .ok (.aload_n 0, 1) := by decide +kernel
theorem dX4_leavesPaper_11 : decode cX4_leavesPaper 11 = .ok (.iload_n 1, 1) := by decide +kernel
theorem dX4_leavesPaper_12 : decode cX4_leavesPaper 12 = .ok (.invokevirtual 33, 3) := by decide +kernel
theorem dX4_leavesPaper_15 : decode cX4_leavesPaper 15 = .ok (.iconst 0, 1) := by decide +kernel
theorem dX4_leavesPaper_16 : decode cX4_leavesPaper 16 = .ok (.bipush 15, 2) := by decide +kernel
theorem dX4_leavesPaper_18 : decode cX4_leavesPaper 18 = .ok (.invokestatic 37, 3) := by decide +kernel
theorem dX4_leavesPaper_21 : decode cX4_leavesPaper 21 = .ok (.ifCond .eq 17, 3) := by decide +kernel
theorem dX4_leavesPaper_24 : decode cX4_leavesPaper 24 = .ok (.aload_n 0, 1) := by decide +kernel
theorem dX4_leavesPaper_25 : decode cX4_leavesPaper 25 = .ok (.iload_n 1, 1) := by decide +kernel
theorem dX4_leavesPaper_26 : decode cX4_leavesPaper 26 = .ok (.invokevirtual 41, 3) := by decide +kernel
theorem dX4_leavesPaper_29 : decode cX4_leavesPaper 29 = .ok (.iconst 0, 1) := by decide +kernel
theorem dX4_leavesPaper_30 : decode cX4_leavesPaper 30 = .ok (.bipush 15, 2) := by decide +kernel
theorem dX4_leavesPaper_32 : decode cX4_leavesPaper 32 = .ok (.invokestatic 37, 3) := by decide +kernel
theorem dX4_leavesPaper_35 : decode cX4_leavesPaper 35 = .ok (.ifCond .ne 5, 3) := by decide +kernel
theorem dX4_leavesPaper_38 : decode cX4_leavesPaper 38 = .ok (.iconst 1, 1) := by decide +kernel
theorem dX4_leavesPaper_39 : decode cX4_leavesPaper 39 = .ok (.ireturn, 1) := by decide +kernel
theorem dX4_leavesPaper_40 : decode cX4_leavesPaper 40 = .ok (.iinc 1 1, 3) := by decide +kernel
theorem dX4_leavesPaper_43 : decode cX4_leavesPaper 43 = .ok (.goto (-41), 3) := by decide +kernel
theorem dX4_leavesPaper_46 : decode cX4_leavesPaper 46 = .ok (.iconst 0, 1) := by decide +kernel
theorem dX4_leavesPaper_47 : decode cX4_leavesPaper 47 = .ok (.ireturn, 1) := by decide +kernel
theorem dX4_hasEmptySide_0 : decode cX4_hasEmptySide 0 = .ok (.iconst 0, 1) := by decide +kernel
theorem dX4_hasEmptySide_1 : decode cX4_hasEmptySide 1 = .ok (.istore_n 1, 1) := by decide +kernel
theorem dX4_hasEmptySide_2 : decode cX4_hasEmptySide 2 = .ok (.iload_n 1, 1) := by decide +kernel
theorem dX4_hasEmptySide_3 : decode cX4_hasEmptySide 3 = .ok (.aload_n 0, 1) := by decide +kernel
theorem dX4_hasEmptySide_4 : decode cX4_hasEmptySide 4 = .ok (.getfield 27, 3) := by decide +kernel
theorem dX4_hasEmptySide_7 : decode cX4_hasEmptySide 7 = .ok (.if_icmp .ge 19, 3) := by decide +kernel
theorem dX4_hasEmptySide_10 : decode cX4_hasEmptySide 10 = .ok (.aload_n 0, 1) := by decide +kernel
theorem dX4_hasEmptySide_11 : decode cX4_hasEmptySide 11 = .ok (.iload_n 1, 1) := by decide +kernel
theorem dX4_hasEmptySide_12 : decode cX4_hasEmptySide 12 = .ok (.invokevirtual 44, 3) := by decide +kernel
theorem dX4_hasEmptySide_15 : decode cX4_hasEmptySide 15 = .ok (.ifCond .ne 5, 3) := by decide +kernel
theorem dX4_hasEmptySide_18 : decode cX4_hasEmptySide 18 = .ok (.iconst 1, 1) := by decide +kernel
theorem dX4_hasEmptySide_19 : decode cX4_hasEmptySide 19 = .ok (.ireturn, 1) := by decide +kernel
theorem dX4_hasEmptySide_20 : decode cX4_hasEmptySide 20 = .ok (.iinc 1 1, 3) := by decide +kernel
theorem dX4_hasEmptySide_23 : decode cX4_hasEmptySide 23 = .ok (.goto (-21), 3) := by decide +kernel
theorem dX4_hasEmptySide_26 : decode cX4_hasEmptySide 26 = .ok (.iconst 0, 1) := by decide +kernel
theorem dX4_hasEmptySide_27 : decode cX4_hasEmptySide 27 = .ok (.ireturn, 1) := by decide +kernel
theorem dX4_hasCrossing_0 : decode cX4_hasCrossing 0 = .ok (.iconst 0, 1) := by decide +kernel
theorem dX4_hasCrossing_1 : decode cX4_hasCrossing 1 = .ok (.istore_n 1, 1) := by decide +kernel
theorem dX4_hasCrossing_2 : decode cX4_hasCrossing 2 = .ok (.iload_n 1, 1) := by decide +kernel
theorem dX4_hasCrossing_3 : decode cX4_hasCrossing 3 = .ok (.aload_n 0, 1) := by decide +kernel
theorem dX4_hasCrossing_4 : decode cX4_hasCrossing 4 = .ok (.getfield 27, 3) := by decide +kernel
theorem dX4_hasCrossing_7 : decode cX4_hasCrossing 7 = .ok (.if_icmp .ge 45, 3) := by decide +kernel
theorem dX4_hasCrossing_10 : decode cX4_hasCrossing 10 = .ok (.aload_n 0, 1) := by decide +kernel
theorem dX4_hasCrossing_11 : decode cX4_hasCrossing 11 = .ok (.iload_n 1, 1) := by decide +kernel
theorem dX4_hasCrossing_12 : decode cX4_hasCrossing 12 = .ok (.invokevirtual 47, 3) := by decide +kernel
theorem dX4_hasCrossing_15 : decode cX4_hasCrossing 15 = .ok (.istore_n 2, 1) := by decide +kernel
theorem dX4_hasCrossing_16 : decode cX4_hasCrossing 16 = .ok (.iconst 0, 1) := by decide +kernel
theorem dX4_hasCrossing_17 : decode cX4_hasCrossing 17 = .ok (.istore_n 3, 1) := by decide +kernel
theorem dX4_hasCrossing_18 : decode cX4_hasCrossing 18 = .ok (.iload_n 3, 1) := by decide +kernel
theorem dX4_hasCrossing_19 : decode cX4_hasCrossing 19 = .ok (.iload_n 1, 1) := by decide +kernel
theorem dX4_hasCrossing_20 : decode cX4_hasCrossing 20 = .ok (.if_icmp .ge 26, 3) := by decide +kernel
theorem dX4_hasCrossing_23 : decode cX4_hasCrossing 23 = .ok (.aload_n 0, 1) := by decide +kernel
theorem dX4_hasCrossing_24 : decode cX4_hasCrossing 24 = .ok (.iload_n 1, 1) := by decide +kernel
theorem dX4_hasCrossing_25 : decode cX4_hasCrossing 25 = .ok (.iload_n 2, 1) := by decide +kernel
theorem dX4_hasCrossing_26 : decode cX4_hasCrossing 26 = .ok (.iload_n 3, 1) := by decide +kernel
theorem dX4_hasCrossing_27 : decode cX4_hasCrossing 27 = .ok (.aload_n 0, 1) := by decide +kernel
theorem dX4_hasCrossing_28 : decode cX4_hasCrossing 28 = .ok (.iload_n 3, 1) := by decide +kernel
theorem dX4_hasCrossing_29 : decode cX4_hasCrossing 29 = .ok (.invokevirtual 47, 3) := by decide +kernel
theorem dX4_hasCrossing_32 : decode cX4_hasCrossing 32 = .ok (.invokevirtual 50, 3) := by decide +kernel
theorem dX4_hasCrossing_35 : decode cX4_hasCrossing 35 = .ok (.ifCond .eq 5, 3) := by decide +kernel
theorem dX4_hasCrossing_38 : decode cX4_hasCrossing 38 = .ok (.iconst 1, 1) := by decide +kernel
theorem dX4_hasCrossing_39 : decode cX4_hasCrossing 39 = .ok (.ireturn, 1) := by decide +kernel
theorem dX4_hasCrossing_40 : decode cX4_hasCrossing 40 = .ok (.iinc 3 1, 3) := by decide +kernel
theorem dX4_hasCrossing_43 : decode cX4_hasCrossing 43 = .ok (.goto (-25), 3) := by decide +kernel
theorem dX4_hasCrossing_46 : decode cX4_hasCrossing 46 = .ok (.iinc 1 1, 3) := by decide +kernel
theorem dX4_hasCrossing_49 : decode cX4_hasCrossing 49 = .ok (.goto (-47), 3) := by decide +kernel
theorem dX4_hasCrossing_52 : decode cX4_hasCrossing 52 = .ok (.iconst 0, 1) := by decide +kernel
theorem dX4_hasCrossing_53 : decode cX4_hasCrossing 53 = .ok (.ireturn, 1) := by decide +kernel
theorem dX4_hasTouching_0 : decode cX4_hasTouching 0 = .ok (.iconst 0, 1) := by decide +kernel
theorem dX4_hasTouching_1 : decode cX4_hasTouching 1 = .ok (.istore_n 1, 1) := by decide +kernel
theorem dX4_hasTouching_2 : decode cX4_hasTouching 2 = .ok (.iload_n 1, 1) := by decide +kernel
theorem dX4_hasTouching_3 : decode cX4_hasTouching 3 = .ok (.aload_n 0, 1) := by decide +kernel
theorem dX4_hasTouching_4 : decode cX4_hasTouching 4 = .ok (.getfield 27, 3) := by decide +kernel
theorem dX4_hasTouching_7 : decode cX4_hasTouching 7 = .ok (.if_icmp .ge 43, 3) := by decide +kernel
theorem dX4_hasTouching_10 : decode cX4_hasTouching 10 = .ok (.aload_n 0, 1) := by decide +kernel
theorem dX4_hasTouching_11 : decode cX4_hasTouching 11 = .ok (.iload_n 1, 1) := by decide +kernel
theorem dX4_hasTouching_12 : decode cX4_hasTouching 12 = .ok (.invokevirtual 47, 3) := by decide +kernel
theorem dX4_hasTouching_15 : decode cX4_hasTouching 15 = .ok (.istore_n 2, 1) := by decide +kernel
theorem dX4_hasTouching_16 : decode cX4_hasTouching 16 = .ok (.iconst 0, 1) := by decide +kernel
theorem dX4_hasTouching_17 : decode cX4_hasTouching 17 = .ok (.istore_n 3, 1) := by decide +kernel
theorem dX4_hasTouching_18 : decode cX4_hasTouching 18 = .ok (.iload_n 3, 1) := by decide +kernel
theorem dX4_hasTouching_19 : decode cX4_hasTouching 19 = .ok (.aload_n 0, 1) := by decide +kernel
theorem dX4_hasTouching_20 : decode cX4_hasTouching 20 = .ok (.getfield 27, 3) := by decide +kernel
theorem dX4_hasTouching_23 : decode cX4_hasTouching 23 = .ok (.if_icmp .ge 21, 3) := by decide +kernel
theorem dX4_hasTouching_26 : decode cX4_hasTouching 26 = .ok (.aload_n 0, 1) := by decide +kernel
theorem dX4_hasTouching_27 : decode cX4_hasTouching 27 = .ok (.iload_n 3, 1) := by decide +kernel
theorem dX4_hasTouching_28 : decode cX4_hasTouching 28 = .ok (.iload_n 1, 1) := by decide +kernel
theorem dX4_hasTouching_29 : decode cX4_hasTouching 29 = .ok (.iload_n 2, 1) := by decide +kernel
theorem dX4_hasTouching_30 : decode cX4_hasTouching 30 = .ok (.invokevirtual 54, 3) := by decide +kernel
theorem dX4_hasTouching_33 : decode cX4_hasTouching 33 = .ok (.ifCond .eq 5, 3) := by decide +kernel
theorem dX4_hasTouching_36 : decode cX4_hasTouching 36 = .ok (.iconst 1, 1) := by decide +kernel
theorem dX4_hasTouching_37 : decode cX4_hasTouching 37 = .ok (.ireturn, 1) := by decide +kernel
theorem dX4_hasTouching_38 : decode cX4_hasTouching 38 = .ok (.iinc 3 1, 3) := by decide +kernel
theorem dX4_hasTouching_41 : decode cX4_hasTouching 41 = .ok (.goto (-23), 3) := by decide +kernel
theorem dX4_hasTouching_44 : decode cX4_hasTouching 44 = .ok (.iinc 1 1, 3) := by decide +kernel
theorem dX4_hasTouching_47 : decode cX4_hasTouching 47 = .ok (.goto (-45), 3) := by decide +kernel
theorem dX4_hasTouching_50 : decode cX4_hasTouching 50 = .ok (.iconst 0, 1) := by decide +kernel
theorem dX4_hasTouching_51 : decode cX4_hasTouching 51 = .ok (.ireturn, 1) := by decide +kernel
theorem dX4_hasLostHole_0 : decode cX4_hasLostHole 0 = .ok (.iconst 1, 1) := by decide +kernel
theorem dX4_hasLostHole_1 : decode cX4_hasLostHole 1 = .ok (.istore_n 1, 1) := by decide +kernel
theorem dX4_hasLostHole_2 : decode cX4_hasLostHole 2 = .ok (.iload_n 1, 1) := by decide +kernel
theorem dX4_hasLostHole_3 : decode cX4_hasLostHole 3 = .ok (.aload_n 0, 1) := by decide +kernel
theorem dX4_hasLostHole_4 : decode cX4_hasLostHole 4 = .ok (.getfield 57, 3) := by decide +kernel
theorem dX4_hasLostHole_7 : decode cX4_hasLostHole 7 = .ok (.if_icmp .ge 73, 3) := by decide +kernel
theorem dX4_hasLostHole_10 : decode cX4_hasLostHole 10 = .ok (.aload_n 0, 1) := by decide +kernel
theorem dX4_hasLostHole_11 : decode cX4_hasLostHole 11 = .ok (.iload_n 1, 1) := by decide +kernel
theorem dX4_hasLostHole_12 : decode cX4_hasLostHole 12 = .ok (.invokevirtual 60, 3) := by decide +kernel
theorem dX4_hasLostHole_15 : decode cX4_hasLostHole 15 = .ok (.istore_n 2, 1) := by decide +kernel
theorem dX4_hasLostHole_16 : decode cX4_hasLostHole 16 = .ok (.iconst 0, 1) := by decide +kernel
theorem dX4_hasLostHole_17 : decode cX4_hasLostHole 17 = .ok (.istore_n 3, 1) := by decide +kernel
theorem dX4_hasLostHole_18 : decode cX4_hasLostHole 18 = .ok (.iload_n 3, 1) := by decide +kernel
theorem dX4_hasLostHole_19 : decode cX4_hasLostHole 19 = .ok (.aload_n 0, 1) := by decide +kernel
theorem dX4_hasLostHole_20 : decode cX4_hasLostHole 20 = .ok (.getfield 57, 3) := by decide +kernel
theorem dX4_hasLostHole_23 : decode cX4_hasLostHole 23 = .ok (.if_icmp .ge 51, 3) := by decide +kernel
theorem dX4_hasLostHole_26 : decode cX4_hasLostHole 26 = .ok (.aload_n 0, 1) := by decide +kernel
theorem dX4_hasLostHole_27 : decode cX4_hasLostHole 27 = .ok (.iload_n 3, 1) := by decide +kernel
theorem dX4_hasLostHole_28 : decode cX4_hasLostHole 28 = .ok (.iconst 2, 1) := by decide +kernel
theorem dX4_hasLostHole_29 : decode cX4_hasLostHole 29 = .ok (.aload_n 0, 1) := by decide +kernel
theorem dX4_hasLostHole_30 : decode cX4_hasLostHole 30 = .ok (.iload_n 2, 1) := by decide +kernel
theorem dX4_hasLostHole_31 : decode cX4_hasLostHole 31 = .ok (.invokevirtual 33, 3) := by decide +kernel
theorem dX4_hasLostHole_34 : decode cX4_hasLostHole 34 = .ok (.imul, 1) := by decide +kernel
theorem dX4_hasLostHole_35 : decode cX4_hasLostHole 35 = .ok (.iconst 2, 1) := by decide +kernel
theorem dX4_hasLostHole_36 : decode cX4_hasLostHole 36 = .ok (.aload_n 0, 1) := by decide +kernel
theorem dX4_hasLostHole_37 : decode cX4_hasLostHole 37 = .ok (.iload_n 2, 1) := by decide +kernel
theorem dX4_hasLostHole_38 : decode cX4_hasLostHole 38 = .ok (.invokevirtual 41, 3) := by decide +kernel
theorem dX4_hasLostHole_41 : decode cX4_hasLostHole 41 = .ok (.imul, 1) := by decide +kernel
theorem dX4_hasLostHole_42 : decode cX4_hasLostHole 42 = .ok (.invokevirtual 63, 3) := by decide +kernel
theorem dX4_hasLostHole_45 : decode cX4_hasLostHole 45 = .ok (.istore 4, 2) := by decide +kernel
theorem dX4_hasLostHole_47 : decode cX4_hasLostHole 47 = .ok (.iload_n 3, 1) := by decide +kernel
theorem dX4_hasLostHole_48 : decode cX4_hasLostHole 48 = .ok (.iload_n 1, 1) := by decide +kernel
theorem dX4_hasLostHole_49 : decode cX4_hasLostHole 49 = .ok (.if_icmp .eq 19, 3) := by decide +kernel
theorem dX4_hasLostHole_52 : decode cX4_hasLostHole 52 = .ok (.iload 4, 2) := by decide +kernel
theorem dX4_hasLostHole_54 : decode cX4_hasLostHole 54 = .ok (.iload_n 3, 1) := by decide +kernel
theorem dX4_hasLostHole_55 : decode cX4_hasLostHole 55 = .ok (.ifCond .ne 7, 3) := by decide +kernel
theorem dX4_hasLostHole_58 : decode cX4_hasLostHole 58 = .ok (.iconst 1, 1) := by decide +kernel
theorem dX4_hasLostHole_59 : decode cX4_hasLostHole 59 = .ok (.goto 4, 3) := by decide +kernel
theorem dX4_hasLostHole_62 : decode cX4_hasLostHole 62 = .ok (.iconst 0, 1) := by decide +kernel
theorem dX4_hasLostHole_63 : decode cX4_hasLostHole 63 = .ok (.if_icmp .eq 5, 3) := by decide +kernel
theorem dX4_hasLostHole_66 : decode cX4_hasLostHole 66 = .ok (.iconst 1, 1) := by decide +kernel
theorem dX4_hasLostHole_67 : decode cX4_hasLostHole 67 = .ok (.ireturn, 1) := by decide +kernel
theorem dX4_hasLostHole_68 : decode cX4_hasLostHole 68 = .ok (.iinc 3 1, 3) := by decide +kernel
theorem dX4_hasLostHole_71 : decode cX4_hasLostHole 71 = .ok (.goto (-53), 3) := by decide +kernel
theorem dX4_hasLostHole_74 : decode cX4_hasLostHole 74 = .ok (.iinc 1 1, 3) := by decide +kernel
theorem dX4_hasLostHole_77 : decode cX4_hasLostHole 77 = .ok (.goto (-75), 3) := by decide +kernel
theorem dX4_hasLostHole_80 : decode cX4_hasLostHole 80 = .ok (.iconst 0, 1) := by decide +kernel
theorem dX4_hasLostHole_81 : decode cX4_hasLostHole 81 = .ok (.ireturn, 1) := by decide +kernel
theorem dX5_succeeds_0 : decode cX5_succeeds 0 = .ok (.iload_n 1, 1) := by decide +kernel
theorem dX5_succeeds_1 : decode cX5_succeeds 1 = .ok (.sipush 10000, 3) := by decide +kernel
theorem dX5_succeeds_4 : decode cX5_succeeds 4 = .ok (.idiv, 1) := by decide +kernel
theorem dX5_succeeds_5 : decode cX5_succeeds 5 = .ok (.bipush 10, 2) := by decide +kernel
theorem dX5_succeeds_7 : decode cX5_succeeds 7 = .ok (.irem, 1) := by decide +kernel
theorem dX5_succeeds_8 : decode cX5_succeeds 8 = .ok (.istore_n 2, 1) := by decide +kernel
theorem dX5_succeeds_9 : decode cX5_succeeds 9 = .ok (.iload_n 1, 1) := by decide +kernel
theorem dX5_succeeds_10 : decode cX5_succeeds 10 = .ok (.sipush 1000, 3) := by decide +kernel
theorem dX5_succeeds_13 : decode cX5_succeeds 13 = .ok (.idiv, 1) := by decide +kernel
theorem dX5_succeeds_14 : decode cX5_succeeds 14 = .ok (.bipush 10, 2) := by decide +kernel
theorem dX5_succeeds_16 : decode cX5_succeeds 16 = .ok (.irem, 1) := by decide +kernel
theorem dX5_succeeds_17 : decode cX5_succeeds 17 = .ok (.istore_n 3, 1) := by decide +kernel
theorem dX5_succeeds_18 : decode cX5_succeeds 18 = .ok (.iload_n 1, 1) := by decide +kernel
theorem dX5_succeeds_19 : decode cX5_succeeds 19 = .ok (.bipush 100, 2) := by decide +kernel
theorem dX5_succeeds_21 : decode cX5_succeeds 21 = .ok (.idiv, 1) := by decide +kernel
theorem dX5_succeeds_22 : decode cX5_succeeds 22 = .ok (.bipush 100, 2) := by decide +kernel
theorem dX5_succeeds_24 : decode cX5_succeeds 24 = .ok (.irem, 1) := by decide +kernel
theorem dX5_succeeds_25 : decode cX5_succeeds 25 = .ok (.istore 4, 2) := by decide +kernel
theorem dX5_succeeds_27 : decode cX5_succeeds 27 = .ok (.iload_n 1, 1) := by decide +kernel
theorem dX5_succeeds_28 : decode cX5_succeeds 28 = .ok (.bipush 100, 2) := by decide +kernel
theorem dX5_succeeds_30 : decode cX5_succeeds 30 = .ok (.irem, 1) := by decide +kernel
theorem dX5_succeeds_31 : decode cX5_succeeds 31 = .ok (.istore 5, 2) := by decide +kernel
theorem dX5_succeeds_33 : decode cX5_succeeds 33 = .ok (.iload_n 1, 1) := by decide +kernel
theorem dX5_succeeds_34 : decode cX5_succeeds 34 = .ok (.ldc 9, 2) := by decide +kernel
theorem dX5_succeeds_36 : decode cX5_succeeds 36 = .ok (.idiv, 1) := by decide +kernel
theorem dX5_succeeds_37 : decode cX5_succeeds 37 = .ok (.tableswitch 256 1 9 #[51, 62, 73, 96, 131, 158, 180, 206, 230], 51) := by decide +kernel
theorem dX5_succeeds_88 : decode cX5_succeeds 88 = .ok (.aload_n 0, 1) := by decide +kernel
theorem dX5_succeeds_89 : decode cX5_succeeds 89 = .ok (.iconst 0, 1) := by decide +kernel
theorem dX5_succeeds_90 : decode cX5_succeeds 90 = .ok (.iload_n 2, 1) := by decide +kernel
theorem dX5_succeeds_91 : decode cX5_succeeds 91 = .ok (.iload 4, 2) := by decide +kernel
theorem dX5_succeeds_93 : decode cX5_succeeds 93 = .ok (.iload 5, 2) := by decide +kernel
theorem dX5_succeeds_95 : decode cX5_succeeds 95 = .ok (.invokestatic 10, 3) := by decide +kernel
theorem dX5_succeeds_98 : decode cX5_succeeds 98 = .ok (.ireturn, 1) := by decide +kernel
theorem dX5_succeeds_99 : decode cX5_succeeds 99 = .ok (.aload_n 0, 1) := by decide +kernel
theorem dX5_succeeds_100 : decode cX5_succeeds 100 = .ok (.iconst 0, 1) := by decide +kernel
theorem dX5_succeeds_101 : decode cX5_succeeds 101 = .ok (.iload_n 2, 1) := by decide +kernel
theorem dX5_succeeds_102 : decode cX5_succeeds 102 = .ok (.iload 4, 2) := by decide +kernel
theorem dX5_succeeds_104 : decode cX5_succeeds 104 = .ok (.iload 5, 2) := by decide +kernel
theorem dX5_succeeds_106 : decode cX5_succeeds 106 = .ok (.invokestatic 16, 3) := by decide +kernel
theorem dX5_succeeds_109 : decode cX5_succeeds 109 = .ok (.ireturn, 1) := by decide +kernel
theorem dX5_succeeds_110 : decode cX5_succeeds 110 = .ok (.iload_n 1, 1) := by decide +kernel
theorem dX5_succeeds_111 : decode cX5_succeeds 111 = .ok (.sipush 1000, 3) := by decide +kernel
theorem dX5_succeeds_114 : decode cX5_succeeds 114 = .ok (.irem, 1) := by decide +kernel
theorem dX5_succeeds_115 : decode cX5_succeeds 115 = .ok (.ifCond .ne 16, 3) := by decide +kernel
theorem dX5_succeeds_118 : decode cX5_succeeds 118 = .ok (.aload_n 0, 1) := by decide +kernel
theorem dX5_succeeds_119 : decode cX5_succeeds 119 = .ok (.iload_n 2, 1) := by decide +kernel
theorem dX5_succeeds_120 : decode cX5_succeeds 120 = .ok (.iload_n 3, 1) := by decide +kernel
theorem dX5_succeeds_121 : decode cX5_succeeds 121 = .ok (.invokestatic 19, 3) := by decide +kernel
theorem dX5_succeeds_124 : decode cX5_succeeds 124 = .ok (.ifCond .eq 7, 3) := by decide +kernel
theorem dX5_succeeds_127 : decode cX5_succeeds 127 = .ok (.iconst 1, 1) := by decide +kernel
theorem dX5_succeeds_128 : decode cX5_succeeds 128 = .ok (.goto 4, 3) := by decide +kernel
theorem dX5_succeeds_131 : decode cX5_succeeds 131 = .ok (.iconst 0, 1) := by decide +kernel
theorem dX5_succeeds_132 : decode cX5_succeeds 132 = .ok (.ireturn, 1) := by decide +kernel
theorem dX5_succeeds_133 : decode cX5_succeeds 133 = .ok (.iload_n 1, 1) := by decide +kernel
theorem dX5_succeeds_134 : decode cX5_succeeds 134 = .ok (.bipush 10, 2) := by decide +kernel
theorem dX5_succeeds_136 : decode cX5_succeeds 136 = .ok (.irem, 1) := by decide +kernel
theorem dX5_succeeds_137 : decode cX5_succeeds 137 = .ok (.ifCond .ne 29, 3) := by decide +kernel
theorem dX5_succeeds_140 : decode cX5_succeeds 140 = .ok (.aload_n 0, 1) := by decide +kernel
theorem dX5_succeeds_141 : decode cX5_succeeds 141 = .ok (.iload_n 1, 1) := by decide +kernel
theorem dX5_succeeds_142 : decode cX5_succeeds 142 = .ok (.sipush 1000, 3) := by decide +kernel
theorem dX5_succeeds_145 : decode cX5_succeeds 145 = .ok (.idiv, 1) := by decide +kernel
theorem dX5_succeeds_146 : decode cX5_succeeds 146 = .ok (.bipush 100, 2) := by decide +kernel
theorem dX5_succeeds_148 : decode cX5_succeeds 148 = .ok (.irem, 1) := by decide +kernel
theorem dX5_succeeds_149 : decode cX5_succeeds 149 = .ok (.iload_n 1, 1) := by decide +kernel
theorem dX5_succeeds_150 : decode cX5_succeeds 150 = .ok (.bipush 10, 2) := by decide +kernel
theorem dX5_succeeds_152 : decode cX5_succeeds 152 = .ok (.idiv, 1) := by decide +kernel
theorem dX5_succeeds_153 : decode cX5_succeeds 153 = .ok (.bipush 100, 2) := by decide +kernel
theorem dX5_succeeds_155 : decode cX5_succeeds 155 = .ok (.irem, 1) := by decide +kernel
theorem dX5_succeeds_156 : decode cX5_succeeds 156 = .ok (.invokestatic 23, 3) := by decide +kernel
theorem dX5_succeeds_159 : decode cX5_succeeds 159 = .ok (.ifCond .eq 7, 3) := by decide +kernel
theorem dX5_succeeds_162 : decode cX5_succeeds 162 = .ok (.iconst 1, 1) := by decide +kernel
theorem dX5_succeeds_163 : decode cX5_succeeds 163 = .ok (.goto 4, 3) := by decide +kernel
theorem dX5_succeeds_166 : decode cX5_succeeds 166 = .ok (.iconst 0, 1) := by decide +kernel
theorem dX5_succeeds_167 : decode cX5_succeeds 167 = .ok (.ireturn, 1) := by decide +kernel
theorem dX5_succeeds_168 : decode cX5_succeeds 168 = .ok (.iload_n 2, 1) := by decide +kernel
theorem dX5_succeeds_169 : decode cX5_succeeds 169 = .ok (.ifCond .ne 24, 3) := by decide +kernel
theorem dX5_succeeds_172 : decode cX5_succeeds 172 = .ok (.aload_n 0, 1) := by decide +kernel
theorem dX5_succeeds_173 : decode cX5_succeeds 173 = .ok (.iload 4, 2) := by decide +kernel
theorem dX5_succeeds_175 : decode cX5_succeeds 175 = .ok (.bipush 15, 2) := by decide +kernel
theorem dX5_succeeds_177 : decode cX5_succeeds 177 = .ok (.isub, 1) := by decide +kernel
theorem dX5_succeeds_178 : decode cX5_succeeds 178 = .ok (.iload 5, 2) := by decide +kernel
theorem dX5_succeeds_180 : decode cX5_succeeds 180 = .ok (.bipush 15, 2) := by decide +kernel
theorem dX5_succeeds_182 : decode cX5_succeeds 182 = .ok (.isub, 1) := by decide +kernel
theorem dX5_succeeds_183 : decode cX5_succeeds 183 = .ok (.invokestatic 26, 3) := by decide +kernel
theorem dX5_succeeds_186 : decode cX5_succeeds 186 = .ok (.ifCond .eq 7, 3) := by decide +kernel
theorem dX5_succeeds_189 : decode cX5_succeeds 189 = .ok (.iconst 1, 1) := by decide +kernel
theorem dX5_succeeds_190 : decode cX5_succeeds 190 = .ok (.goto 4, 3) := by decide +kernel
theorem dX5_succeeds_193 : decode cX5_succeeds 193 = .ok (.iconst 0, 1) := by decide +kernel
theorem dX5_succeeds_194 : decode cX5_succeeds 194 = .ok (.ireturn, 1) := by decide +kernel
theorem dX5_succeeds_195 : decode cX5_succeeds 195 = .ok (.iload_n 1, 1) := by decide +kernel
theorem dX5_succeeds_196 : decode cX5_succeeds 196 = .ok (.sipush 10000, 3) := by decide +kernel
theorem dX5_succeeds_199 : decode cX5_succeeds 199 = .ok (.irem, 1) := by decide +kernel
theorem dX5_succeeds_200 : decode cX5_succeeds 200 = .ok (.ifCond .ne 15, 3) := by decide +kernel
theorem dX5_succeeds_203 : decode cX5_succeeds 203 = .ok (.aload_n 0, 1) := by decide +kernel
theorem dX5_succeeds_204 : decode cX5_succeeds 204 = .ok (.iload_n 2, 1) := by decide +kernel
theorem dX5_succeeds_205 : decode cX5_succeeds 205 = .ok (.invokestatic 29, 3) := by decide +kernel
theorem dX5_succeeds_208 : decode cX5_succeeds 208 = .ok (.ifCond .eq 7, 3) := by decide +kernel
theorem dX5_succeeds_211 : decode cX5_succeeds 211 = .ok (.iconst 1, 1) := by decide +kernel
theorem dX5_succeeds_212 : decode cX5_succeeds 212 = .ok (.goto 4, 3) := by decide +kernel
theorem dX5_succeeds_215 : decode cX5_succeeds 215 = .ok (.iconst 0, 1) := by decide +kernel
theorem dX5_succeeds_216 : decode cX5_succeeds 216 = .ok (.ireturn, 1) := by decide +kernel
theorem dX5_succeeds_217 : decode cX5_succeeds 217 = .ok (.iload_n 2, 1) := by decide +kernel
theorem dX5_succeeds_218 : decode cX5_succeeds 218 = .ok (.ifCond .ne 23, 3) := by decide +kernel
theorem dX5_succeeds_221 : decode cX5_succeeds 221 = .ok (.iload_n 3, 1) := by decide +kernel
theorem dX5_succeeds_222 : decode cX5_succeeds 222 = .ok (.ifCond .ne 19, 3) := by decide +kernel
theorem dX5_succeeds_225 : decode cX5_succeeds 225 = .ok (.aload_n 0, 1) := by decide +kernel
theorem dX5_succeeds_226 : decode cX5_succeeds 226 = .ok (.invokestatic 35, 3) := by decide +kernel
theorem dX5_succeeds_229 : decode cX5_succeeds 229 = .ok (.iload_n 1, 1) := by decide +kernel
theorem dX5_succeeds_230 : decode cX5_succeeds 230 = .ok (.sipush 1000, 3) := by decide +kernel
theorem dX5_succeeds_233 : decode cX5_succeeds 233 = .ok (.irem, 1) := by decide +kernel
theorem dX5_succeeds_234 : decode cX5_succeeds 234 = .ok (.if_icmp .lt 7, 3) := by decide +kernel
theorem dX5_succeeds_237 : decode cX5_succeeds 237 = .ok (.iconst 1, 1) := by decide +kernel
theorem dX5_succeeds_238 : decode cX5_succeeds 238 = .ok (.goto 4, 3) := by decide +kernel
theorem dX5_succeeds_241 : decode cX5_succeeds 241 = .ok (.iconst 0, 1) := by decide +kernel
theorem dX5_succeeds_242 : decode cX5_succeeds 242 = .ok (.ireturn, 1) := by decide +kernel
theorem dX5_succeeds_243 : decode cX5_succeeds 243 = .ok (.aload_n 0, 1) := by decide +kernel
theorem dX5_succeeds_244 : decode cX5_succeeds 244 = .ok (.iload_n 1, 1) := by decide +kernel
theorem dX5_succeeds_245 : decode cX5_succeeds 245 = .ok (.sipush 1000, 3) := by decide +kernel
theorem dX5_succeeds_248 : decode cX5_succeeds 248 = .ok (.idiv, 1) := by decide +kernel
theorem dX5_succeeds_249 : decode cX5_succeeds 249 = .ok (.bipush 100, 2) := by decide +kernel
theorem dX5_succeeds_251 : decode cX5_succeeds 251 = .ok (.irem, 1) := by decide +kernel
theorem dX5_succeeds_252 : decode cX5_succeeds 252 = .ok (.iload_n 1, 1) := by decide +kernel
theorem dX5_succeeds_253 : decode cX5_succeeds 253 = .ok (.bipush 10, 2) := by decide +kernel
theorem dX5_succeeds_255 : decode cX5_succeeds 255 = .ok (.idiv, 1) := by decide +kernel
theorem dX5_succeeds_256 : decode cX5_succeeds 256 = .ok (.bipush 100, 2) := by decide +kernel
theorem dX5_succeeds_258 : decode cX5_succeeds 258 = .ok (.irem, 1) := by decide +kernel
theorem dX5_succeeds_259 : decode cX5_succeeds 259 = .ok (.iload_n 1, 1) := by decide +kernel
theorem dX5_succeeds_260 : decode cX5_succeeds 260 = .ok (.bipush 10, 2) := by decide +kernel
theorem dX5_succeeds_262 : decode cX5_succeeds 262 = .ok (.irem, 1) := by decide +kernel
theorem dX5_succeeds_263 : decode cX5_succeeds 263 = .ok (.invokestatic 41, 3) := by decide +kernel
theorem dX5_succeeds_266 : decode cX5_succeeds 266 = .ok (.ireturn, 1) := by decide +kernel
theorem dX5_succeeds_267 : decode cX5_succeeds 267 = .ok (.iload_n 2, 1) := by decide +kernel
theorem dX5_succeeds_268 : decode cX5_succeeds 268 = .ok (.ifCond .ne 23, 3) := by decide +kernel
theorem dX5_succeeds_271 : decode cX5_succeeds 271 = .ok (.iload_n 3, 1) := by decide +kernel
theorem dX5_succeeds_272 : decode cX5_succeeds 272 = .ok (.ifCond .ne 19, 3) := by decide +kernel
theorem dX5_succeeds_275 : decode cX5_succeeds 275 = .ok (.aload_n 0, 1) := by decide +kernel
theorem dX5_succeeds_276 : decode cX5_succeeds 276 = .ok (.invokestatic 45, 3) := by decide +kernel
theorem dX5_succeeds_279 : decode cX5_succeeds 279 = .ok (.iload_n 1, 1) := by decide +kernel
theorem dX5_succeeds_280 : decode cX5_succeeds 280 = .ok (.sipush 1000, 3) := by decide +kernel
theorem dX5_succeeds_283 : decode cX5_succeeds 283 = .ok (.irem, 1) := by decide +kernel
theorem dX5_succeeds_284 : decode cX5_succeeds 284 = .ok (.if_icmp .gt 7, 3) := by decide +kernel
theorem dX5_succeeds_287 : decode cX5_succeeds 287 = .ok (.iconst 1, 1) := by decide +kernel
theorem dX5_succeeds_288 : decode cX5_succeeds 288 = .ok (.goto 4, 3) := by decide +kernel
theorem dX5_succeeds_291 : decode cX5_succeeds 291 = .ok (.iconst 0, 1) := by decide +kernel
theorem dX5_succeeds_292 : decode cX5_succeeds 292 = .ok (.ireturn, 1) := by decide +kernel
theorem dX5_succeeds_293 : decode cX5_succeeds 293 = .ok (.iconst 0, 1) := by decide +kernel
theorem dX5_succeeds_294 : decode cX5_succeeds 294 = .ok (.ireturn, 1) := by decide +kernel
theorem dX5_turnsOrMirrors_0 : decode cX5_turnsOrMirrors 0 = .ok (.iload_n 1, 1) := by decide +kernel
theorem dX5_turnsOrMirrors_1 : decode cX5_turnsOrMirrors 1 = .ok (.ifCond .ne 10, 3) := by decide +kernel
theorem dX5_turnsOrMirrors_4 : decode cX5_turnsOrMirrors 4 = .ok (.aload_n 0, 1) := by decide +kernel
theorem dX5_turnsOrMirrors_5 : decode cX5_turnsOrMirrors 5 = .ok (.invokevirtual 48, 3) := by decide +kernel
theorem dX5_turnsOrMirrors_8 : decode cX5_turnsOrMirrors 8 = .ok (.goto 12, 3) := by decide +kernel
theorem dX5_turnsOrMirrors_11 : decode cX5_turnsOrMirrors 11 = .ok (.iload_n 1, 1) := by decide +kernel
theorem dX5_turnsOrMirrors_12 : decode cX5_turnsOrMirrors 12 = .ok (.iconst 1, 1) := by decide +kernel
theorem dX5_turnsOrMirrors_13 : decode cX5_turnsOrMirrors 13 = .ok (.if_icmp .ne 7, 3) := by decide +kernel
theorem dX5_turnsOrMirrors_16 : decode cX5_turnsOrMirrors 16 = .ok (.aload_n 0, 1) := by decide +kernel
theorem dX5_turnsOrMirrors_17 : decode cX5_turnsOrMirrors 17 = .ok (.invokevirtual 53, 3) := by decide +kernel
theorem dX5_turnsOrMirrors_20 : decode cX5_turnsOrMirrors 20 = .ok (.iload_n 1, 1) := by decide +kernel
theorem dX5_turnsOrMirrors_21 : decode cX5_turnsOrMirrors 21 = .ok (.ifCond .eq 8, 3) := by decide +kernel
theorem dX5_turnsOrMirrors_24 : decode cX5_turnsOrMirrors 24 = .ok (.iload_n 1, 1) := by decide +kernel
theorem dX5_turnsOrMirrors_25 : decode cX5_turnsOrMirrors 25 = .ok (.iconst 1, 1) := by decide +kernel
theorem dX5_turnsOrMirrors_26 : decode cX5_turnsOrMirrors 26 = .ok (.if_icmp .ne 7, 3) := by decide +kernel
theorem dX5_turnsOrMirrors_29 : decode cX5_turnsOrMirrors 29 = .ok (.iconst 1, 1) := by decide +kernel
theorem dX5_turnsOrMirrors_30 : decode cX5_turnsOrMirrors 30 = .ok (.goto 4, 3) := by decide +kernel
theorem dX5_turnsOrMirrors_33 : decode cX5_turnsOrMirrors 33 = .ok (.iconst 0, 1) := by decide +kernel
theorem dX5_turnsOrMirrors_34 : decode cX5_turnsOrMirrors 34 = .ok (.ireturn, 1) := by decide +kernel
theorem dX5_isAt_0 : decode cX5_isAt 0 = .ok (.iload_n 1, 1) := by decide +kernel
theorem dX5_isAt_1 : decode cX5_isAt 1 = .ok (.iconst 0, 1) := by decide +kernel
theorem dX5_isAt_2 : decode cX5_isAt 2 = .ok (.bipush 15, 2) := by decide +kernel
theorem dX5_isAt_4 : decode cX5_isAt 4 = .ok (.invokestatic 56, 3) := by decide +kernel
theorem dX5_isAt_7 : decode cX5_isAt 7 = .ok (.ifCond .eq 27, 3) := by decide +kernel
theorem dX5_isAt_10 : decode cX5_isAt 10 = .ok (.iload_n 2, 1) := by decide +kernel
theorem dX5_isAt_11 : decode cX5_isAt 11 = .ok (.iconst 0, 1) := by decide +kernel
theorem dX5_isAt_12 : decode cX5_isAt 12 = .ok (.bipush 15, 2) := by decide +kernel
theorem dX5_isAt_14 : decode cX5_isAt 14 = .ok (.invokestatic 56, 3) := by decide +kernel
theorem dX5_isAt_17 : decode cX5_isAt 17 = .ok (.ifCond .eq 17, 3) := by decide +kernel
theorem dX5_isAt_20 : decode cX5_isAt 20 = .ok (.aload_n 0, 1) := by decide +kernel
theorem dX5_isAt_21 : decode cX5_isAt 21 = .ok (.iload_n 1, 1) := by decide +kernel
theorem dX5_isAt_22 : decode cX5_isAt 22 = .ok (.iload_n 2, 1) := by decide +kernel
theorem dX5_isAt_23 : decode cX5_isAt 23 = .ok (.invokevirtual 60, 3) := by decide +kernel
theorem dX5_isAt_26 : decode cX5_isAt 26 = .ok (.iload_n 3, 1) := by decide +kernel
theorem dX5_isAt_27 : decode cX5_isAt 27 = .ok (.if_icmp .ne 7, 3) := by decide +kernel
theorem dX5_isAt_30 : decode cX5_isAt 30 = .ok (.iconst 1, 1) := by decide +kernel
theorem dX5_isAt_31 : decode cX5_isAt 31 = .ok (.goto 4, 3) := by decide +kernel
theorem dX5_isAt_34 : decode cX5_isAt 34 = .ok (.iconst 0, 1) := by decide +kernel
theorem dX5_isAt_35 : decode cX5_isAt 35 = .ok (.ireturn, 1) := by decide +kernel
theorem dX6_between_0 : decode cX6_between 0 = .ok (.iload_n 1, 1) := by decide +kernel
theorem dX6_between_1 : decode cX6_between 1 = .ok (.iload_n 2, 1) := by decide +kernel
theorem dX6_between_2 : decode cX6_between 2 = .ok (.if_icmp .eq 21, 3) := by decide +kernel
theorem dX6_between_5 : decode cX6_between 5 = .ok (.aload_n 0, 1) := by decide +kernel
theorem dX6_between_6 : decode cX6_between 6 = .ok (.iload_n 1, 1) := by decide +kernel
theorem dX6_between_7 : decode cX6_between 7 = .ok (.invokevirtual 9, 3) := by decide +kernel
theorem dX6_between_10 : decode cX6_between 10 = .ok (.iload_n 2, 1) := by decide +kernel
theorem dX6_between_11 : decode cX6_between 11 = .ok (.if_icmp .eq 12, 3) := by decide +kernel
theorem dX6_between_14 : decode cX6_between 14 = .ok (.aload_n 0, 1) := by decide +kernel
theorem dX6_between_15 : decode cX6_between 15 = .ok (.iload_n 2, 1) := by decide +kernel
theorem dX6_between_16 : decode cX6_between 16 = .ok (.invokevirtual 9, 3) := by decide +kernel
theorem dX6_between_19 : decode cX6_between 19 = .ok (.iload_n 1, 1) := by decide +kernel
theorem dX6_between_20 : decode cX6_between 20 = .ok (.if_icmp .ne 5, 3) := by decide +kernel
theorem dX6_between_23 : decode cX6_between 23 = .ok (.iconst 0, 1) := by decide +kernel
theorem dX6_between_24 : decode cX6_between 24 = .ok (.ireturn, 1) := by decide +kernel
theorem dX6_between_25 : decode cX6_between 25 = .ok (.iconst 0, 1) := by decide +kernel
theorem dX6_between_26 : decode cX6_between 26 = .ok (.istore_n 3, 1) := by decide +kernel
theorem dX6_between_27 : decode cX6_between 27 = .ok (.iload_n 3, 1) := by decide +kernel
theorem dX6_between_28 : decode cX6_between 28 = .ok (.aload_n 0, 1) := by decide +kernel
theorem dX6_between_29 : decode cX6_between 29 = .ok (.getfield 15, 3) := by decide +kernel
theorem dX6_between_32 : decode cX6_between 32 = .ok (.if_icmp .ge 36, 3) := by decide +kernel
theorem dX6_between_35 : decode cX6_between 35 = .ok (.aload_n 0, 1) := by decide +kernel
theorem dX6_between_36 : decode cX6_between 36 = .ok (.iload_n 3, 1) := by decide +kernel
theorem dX6_between_37 : decode cX6_between 37 = .ok (.iload_n 1, 1) := by decide +kernel
theorem dX6_between_38 : decode cX6_between 38 = .ok (.iload_n 2, 1) := by decide +kernel
theorem dX6_between_39 : decode cX6_between 39 = .ok (.invokevirtual 19, 3) := by decide +kernel
theorem dX6_between_42 : decode cX6_between 42 = .ok (.ifCond .ne 18, 3) := by decide +kernel
theorem dX6_between_45 : decode cX6_between 45 = .ok (.aload_n 0, 1) := by decide +kernel
theorem dX6_between_46 : decode cX6_between 46 = .ok (.iload_n 1, 1) := by decide +kernel
theorem dX6_between_47 : decode cX6_between 47 = .ok (.iload_n 2, 1) := by decide +kernel
theorem dX6_between_48 : decode cX6_between 48 = .ok (.iload_n 3, 1) := by decide +kernel
theorem dX6_between_49 : decode cX6_between 49 = .ok (.aload_n 0, 1) := by decide +kernel
theorem dX6_between_50 : decode cX6_between 50 = .ok (.iload_n 3, 1) := by decide +kernel
theorem dX6_between_51 : decode cX6_between 51 = .ok (.invokevirtual 9, 3) := by decide +kernel
theorem dX6_between_54 : decode cX6_between 54 = .ok (.invokevirtual 23, 3) := by decide +kernel
theorem dX6_between_57 : decode cX6_between 57 = .ok (.ifCond .eq 5, 3) := by decide +kernel
theorem dX6_between_60 : decode cX6_between 60 = .ok (.iconst 0, 1) := by decide +kernel
theorem dX6_between_61 : decode cX6_between 61 = .ok (.ireturn, 1) := by decide +kernel
theorem dX6_between_62 : decode cX6_between 62 = .ok (.iinc 3 1, 3) := by decide +kernel
theorem dX6_between_65 : decode cX6_between 65 = .ok (.goto (-38), 3) := by decide +kernel
theorem dX6_between_68 : decode cX6_between 68 = .ok (.aload_n 0, 1) := by decide +kernel
theorem dX6_between_69 : decode cX6_between 69 = .ok (.iload_n 1, 1) := by decide +kernel
theorem dX6_between_70 : decode cX6_between 70 = .ok (.invokevirtual 27, 3) := by decide +kernel
theorem dX6_between_73 : decode cX6_between 73 = .ok (.aload_n 0, 1) := by decide +kernel
theorem dX6_between_74 : decode cX6_between 74 = .ok (.iload_n 2, 1) := by decide +kernel
theorem dX6_between_75 : decode cX6_between 75 = .ok (.invokevirtual 27, 3) := by decide +kernel
theorem dX6_between_78 : decode cX6_between 78 = .ok (.iadd, 1) := by decide +kernel
theorem dX6_between_79 : decode cX6_between 79 = .ok (.istore_n 3, 1) := by decide +kernel
theorem dX6_between_80 : decode cX6_between 80 = .ok (.aload_n 0, 1) := by decide +kernel
theorem dX6_between_81 : decode cX6_between 81 = .ok (.iload_n 1, 1) := by decide +kernel
theorem dX6_between_82 : decode cX6_between 82 = .ok (.invokevirtual 30, 3) := by decide +kernel
theorem dX6_between_85 : decode cX6_between 85 = .ok (.aload_n 0, 1) := by decide +kernel
theorem dX6_between_86 : decode cX6_between 86 = .ok (.iload_n 2, 1) := by decide +kernel
theorem dX6_between_87 : decode cX6_between 87 = .ok (.invokevirtual 30, 3) := by decide +kernel
theorem dX6_between_90 : decode cX6_between 90 = .ok (.iadd, 1) := by decide +kernel
theorem dX6_between_91 : decode cX6_between 91 = .ok (.istore 4, 2) := by decide +kernel
theorem dX6_between_93 : decode cX6_between 93 = .ok (.aload_n 0, 1) := by decide +kernel
theorem dX6_between_94 : decode cX6_between 94 = .ok (.iconst 0, 1) := by decide +kernel
theorem dX6_between_95 : decode cX6_between 95 = .ok (.iload_n 3, 1) := by decide +kernel
theorem dX6_between_96 : decode cX6_between 96 = .ok (.iload 4, 2) := by decide +kernel
theorem dX6_between_98 : decode cX6_between 98 = .ok (.invokevirtual 33, 3) := by decide +kernel
theorem dX6_between_101 : decode cX6_between 101 = .ok (.ifCond .eq 17, 3) := by decide +kernel
theorem dX6_between_104 : decode cX6_between 104 = .ok (.aload_n 0, 1) := by decide +kernel
theorem dX6_between_105 : decode cX6_between 105 = .ok (.iload_n 3, 1) := by decide +kernel
theorem dX6_between_106 : decode cX6_between 106 = .ok (.iload 4, 2) := by decide +kernel
theorem dX6_between_108 : decode cX6_between 108 = .ok (.invokevirtual 36, 3) := by decide +kernel
theorem dX6_between_111 : decode cX6_between 111 = .ok (.ifCond .ne 7, 3) := by decide +kernel
theorem dX6_between_114 : decode cX6_between 114 = .ok (.iconst 1, 1) := by decide +kernel
theorem dX6_between_115 : decode cX6_between 115 = .ok (.goto 4, 3) := by decide +kernel
theorem dX6_between_118 : decode cX6_between 118 = .ok (.iconst 0, 1) := by decide +kernel
theorem dX6_between_119 : decode cX6_between 119 = .ok (.ireturn, 1) := by decide +kernel
theorem dX6_seenFrom_0 : decode cX6_seenFrom 0 = .ok (.iconst 0, 1) := by decide +kernel
theorem dX6_seenFrom_1 : decode cX6_seenFrom 1 = .ok (.istore_n 2, 1) := by decide +kernel
theorem dX6_seenFrom_2 : decode cX6_seenFrom 2 = .ok (.iconst 0, 1) := by decide +kernel
theorem dX6_seenFrom_3 : decode cX6_seenFrom 3 = .ok (.istore_n 3, 1) := by decide +kernel
theorem dX6_seenFrom_4 : decode cX6_seenFrom 4 = .ok (.iload_n 3, 1) := by decide +kernel
theorem dX6_seenFrom_5 : decode cX6_seenFrom 5 = .ok (.aload_n 0, 1) := by decide +kernel
theorem dX6_seenFrom_6 : decode cX6_seenFrom 6 = .ok (.getfield 15, 3) := by decide +kernel
theorem dX6_seenFrom_9 : decode cX6_seenFrom 9 = .ok (.if_icmp .ge 21, 3) := by decide +kernel
theorem dX6_seenFrom_12 : decode cX6_seenFrom 12 = .ok (.aload_n 0, 1) := by decide +kernel
theorem dX6_seenFrom_13 : decode cX6_seenFrom 13 = .ok (.iload_n 1, 1) := by decide +kernel
theorem dX6_seenFrom_14 : decode cX6_seenFrom 14 = .ok (.iload_n 3, 1) := by decide +kernel
theorem dX6_seenFrom_15 : decode cX6_seenFrom 15 = .ok (.invokestatic 40, 3) := by decide +kernel
theorem dX6_seenFrom_18 : decode cX6_seenFrom 18 = .ok (.ifCond .eq 6, 3) := by decide +kernel
theorem dX6_seenFrom_21 : decode cX6_seenFrom 21 = .ok (.iinc 2 1, 3) := by decide +kernel
theorem dX6_seenFrom_24 : decode cX6_seenFrom 24 = .ok (.iinc 3 1, 3) := by decide +kernel
theorem dX6_seenFrom_27 : decode cX6_seenFrom 27 = .ok (.goto (-23), 3) := by decide +kernel
theorem dX6_seenFrom_30 : decode cX6_seenFrom 30 = .ok (.iload_n 2, 1) := by decide +kernel
theorem dX6_seenFrom_31 : decode cX6_seenFrom 31 = .ok (.ireturn, 1) := by decide +kernel
theorem dX6_pairs_0 : decode cX6_pairs 0 = .ok (.iconst 0, 1) := by decide +kernel
theorem dX6_pairs_1 : decode cX6_pairs 1 = .ok (.istore_n 1, 1) := by decide +kernel
theorem dX6_pairs_2 : decode cX6_pairs 2 = .ok (.iconst 0, 1) := by decide +kernel
theorem dX6_pairs_3 : decode cX6_pairs 3 = .ok (.istore_n 2, 1) := by decide +kernel
theorem dX6_pairs_4 : decode cX6_pairs 4 = .ok (.iload_n 2, 1) := by decide +kernel
theorem dX6_pairs_5 : decode cX6_pairs 5 = .ok (.aload_n 0, 1) := by decide +kernel
theorem dX6_pairs_6 : decode cX6_pairs 6 = .ok (.getfield 15, 3) := by decide +kernel
theorem dX6_pairs_9 : decode cX6_pairs 9 = .ok (.if_icmp .ge 34, 3) := by decide +kernel
theorem dX6_pairs_12 : decode cX6_pairs 12 = .ok (.iconst 0, 1) := by decide +kernel
theorem dX6_pairs_13 : decode cX6_pairs 13 = .ok (.istore_n 3, 1) := by decide +kernel
theorem dX6_pairs_14 : decode cX6_pairs 14 = .ok (.iload_n 3, 1) := by decide +kernel
theorem dX6_pairs_15 : decode cX6_pairs 15 = .ok (.iload_n 2, 1) := by decide +kernel
theorem dX6_pairs_16 : decode cX6_pairs 16 = .ok (.if_icmp .ge 21, 3) := by decide +kernel
theorem dX6_pairs_19 : decode cX6_pairs 19 = .ok (.aload_n 0, 1) := by decide +kernel
theorem dX6_pairs_20 : decode cX6_pairs 20 = .ok (.iload_n 2, 1) := by decide +kernel
theorem dX6_pairs_21 : decode cX6_pairs 21 = .ok (.iload_n 3, 1) := by decide +kernel
theorem dX6_pairs_22 : decode cX6_pairs 22 = .ok (.invokestatic 40, 3) := by decide +kernel
theorem dX6_pairs_25 : decode cX6_pairs 25 = .ok (.ifCond .eq 6, 3) := by decide +kernel
theorem dX6_pairs_28 : decode cX6_pairs 28 = .ok (.iinc 1 1, 3) := by decide +kernel
theorem dX6_pairs_31 : decode cX6_pairs 31 = .ok (.iinc 3 1, 3) := by decide +kernel
theorem dX6_pairs_34 : decode cX6_pairs 34 = .ok (.goto (-20), 3) := by decide +kernel
theorem dX6_pairs_37 : decode cX6_pairs 37 = .ok (.iinc 2 1, 3) := by decide +kernel
theorem dX6_pairs_40 : decode cX6_pairs 40 = .ok (.goto (-36), 3) := by decide +kernel
theorem dX6_pairs_43 : decode cX6_pairs 43 = .ok (.iload_n 1, 1) := by decide +kernel
theorem dX6_pairs_44 : decode cX6_pairs 44 = .ok (.ireturn, 1) := by decide +kernel
theorem dX6_isEar_0 : decode cX6_isEar 0 = .ok (.aload_n 0, 1) := by decide +kernel
theorem dX6_isEar_1 : decode cX6_isEar 1 = .ok (.iconst 0, 1) := by decide +kernel
theorem dX6_isEar_2 : decode cX6_isEar 2 = .ok (.invokevirtual 46, 3) := by decide +kernel
theorem dX6_isEar_5 : decode cX6_isEar 5 = .ok (.iconst 3, 1) := by decide +kernel
theorem dX6_isEar_6 : decode cX6_isEar 6 = .ok (.if_icmp .le 35, 3) := by decide +kernel
theorem dX6_isEar_9 : decode cX6_isEar 9 = .ok (.aload_n 0, 1) := by decide +kernel
theorem dX6_isEar_10 : decode cX6_isEar 10 = .ok (.iconst 0, 1) := by decide +kernel
theorem dX6_isEar_11 : decode cX6_isEar 11 = .ok (.iload_n 1, 1) := by decide +kernel
theorem dX6_isEar_12 : decode cX6_isEar 12 = .ok (.invokestatic 49, 3) := by decide +kernel
theorem dX6_isEar_15 : decode cX6_isEar 15 = .ok (.iconst 1, 1) := by decide +kernel
theorem dX6_isEar_16 : decode cX6_isEar 16 = .ok (.if_icmp .ne 25, 3) := by decide +kernel
theorem dX6_isEar_19 : decode cX6_isEar 19 = .ok (.aload_n 0, 1) := by decide +kernel
theorem dX6_isEar_20 : decode cX6_isEar 20 = .ok (.aload_n 0, 1) := by decide +kernel
theorem dX6_isEar_21 : decode cX6_isEar 21 = .ok (.iconst 0, 1) := by decide +kernel
theorem dX6_isEar_22 : decode cX6_isEar 22 = .ok (.iload_n 1, 1) := by decide +kernel
theorem dX6_isEar_23 : decode cX6_isEar 23 = .ok (.invokevirtual 55, 3) := by decide +kernel
theorem dX6_isEar_26 : decode cX6_isEar 26 = .ok (.aload_n 0, 1) := by decide +kernel
theorem dX6_isEar_27 : decode cX6_isEar 27 = .ok (.iload_n 1, 1) := by decide +kernel
theorem dX6_isEar_28 : decode cX6_isEar 28 = .ok (.invokevirtual 9, 3) := by decide +kernel
theorem dX6_isEar_31 : decode cX6_isEar 31 = .ok (.invokestatic 40, 3) := by decide +kernel
theorem dX6_isEar_34 : decode cX6_isEar 34 = .ok (.ifCond .eq 7, 3) := by decide +kernel
theorem dX6_isEar_37 : decode cX6_isEar 37 = .ok (.iconst 1, 1) := by decide +kernel
theorem dX6_isEar_38 : decode cX6_isEar 38 = .ok (.goto 4, 3) := by decide +kernel
theorem dX6_isEar_41 : decode cX6_isEar 41 = .ok (.iconst 0, 1) := by decide +kernel
theorem dX6_isEar_42 : decode cX6_isEar 42 = .ok (.ireturn, 1) := by decide +kernel
theorem dX6_ears_0 : decode cX6_ears 0 = .ok (.iconst 0, 1) := by decide +kernel
theorem dX6_ears_1 : decode cX6_ears 1 = .ok (.istore_n 1, 1) := by decide +kernel
