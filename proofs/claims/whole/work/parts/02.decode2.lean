theorem dX6_ears_2 : decode cX6_ears 2 = .ok (.iconst 0, 1) := by decide +kernel
theorem dX6_ears_3 : decode cX6_ears 3 = .ok (.istore_n 2, 1) := by decide +kernel
theorem dX6_ears_4 : decode cX6_ears 4 = .ok (.iload_n 2, 1) := by decide +kernel
theorem dX6_ears_5 : decode cX6_ears 5 = .ok (.aload_n 0, 1) := by decide +kernel
theorem dX6_ears_6 : decode cX6_ears 6 = .ok (.iconst 0, 1) := by decide +kernel
theorem dX6_ears_7 : decode cX6_ears 7 = .ok (.invokevirtual 46, 3) := by decide +kernel
theorem dX6_ears_10 : decode cX6_ears 10 = .ok (.if_icmp .ge 20, 3) := by decide +kernel
theorem dX6_ears_13 : decode cX6_ears 13 = .ok (.aload_n 0, 1) := by decide +kernel
theorem dX6_ears_14 : decode cX6_ears 14 = .ok (.iload_n 2, 1) := by decide +kernel
theorem dX6_ears_15 : decode cX6_ears 15 = .ok (.invokestatic 59, 3) := by decide +kernel
theorem dX6_ears_18 : decode cX6_ears 18 = .ok (.ifCond .eq 6, 3) := by decide +kernel
theorem dX6_ears_21 : decode cX6_ears 21 = .ok (.iinc 1 1, 3) := by decide +kernel
theorem dX6_ears_24 : decode cX6_ears 24 = .ok (.iinc 2 1, 3) := by decide +kernel
theorem dX6_ears_27 : decode cX6_ears 27 = .ok (.goto (-23), 3) := by decide +kernel
theorem dX6_ears_30 : decode cX6_ears 30 = .ok (.iload_n 1, 1) := by decide +kernel
theorem dX6_ears_31 : decode cX6_ears 31 = .ok (.ireturn, 1) := by decide +kernel
theorem dX6_triangulations_0 : decode cX6_triangulations 0 = .ok (.aload_n 0, 1) := by decide +kernel
theorem dX6_triangulations_1 : decode cX6_triangulations 1 = .ok (.iconst 0, 1) := by decide +kernel
theorem dX6_triangulations_2 : decode cX6_triangulations 2 = .ok (.invokevirtual 46, 3) := by decide +kernel
theorem dX6_triangulations_5 : decode cX6_triangulations 5 = .ok (.istore_n 2, 1) := by decide +kernel
theorem dX6_triangulations_6 : decode cX6_triangulations 6 = .ok (.iload_n 2, 1) := by decide +kernel
theorem dX6_triangulations_7 : decode cX6_triangulations 7 = .ok (.iconst 3, 1) := by decide +kernel
theorem dX6_triangulations_8 : decode cX6_triangulations 8 = .ok (.if_icmp .lt 16, 3) := by decide +kernel
theorem dX6_triangulations_11 : decode cX6_triangulations 11 = .ok (.iload_n 2, 1) := by decide +kernel
theorem dX6_triangulations_12 : decode cX6_triangulations 12 = .ok (.bipush 10, 2) := by decide +kernel
theorem dX6_triangulations_14 : decode cX6_triangulations 14 = .ok (.if_icmp .gt 10, 3) := by decide +kernel
theorem dX6_triangulations_17 : decode cX6_triangulations 17 = .ok (.aload_n 1, 1) := by decide +kernel
theorem dX6_triangulations_18 : decode cX6_triangulations 18 = .ok (.arraylength, 1) := by decide +kernel
theorem dX6_triangulations_19 : decode cX6_triangulations 19 = .ok (.bipush 100, 2) := by decide +kernel
theorem dX6_triangulations_21 : decode cX6_triangulations 21 = .ok (.if_icmp .ge 6, 3) := by decide +kernel
theorem dX6_triangulations_24 : decode cX6_triangulations 24 = .ok (.bipush (-9), 2) := by decide +kernel
theorem dX6_triangulations_26 : decode cX6_triangulations 26 = .ok (.ireturn, 1) := by decide +kernel
theorem dX6_triangulations_27 : decode cX6_triangulations 27 = .ok (.iconst 1, 1) := by decide +kernel
theorem dX6_triangulations_28 : decode cX6_triangulations 28 = .ok (.istore_n 3, 1) := by decide +kernel
theorem dX6_triangulations_29 : decode cX6_triangulations 29 = .ok (.iload_n 3, 1) := by decide +kernel
theorem dX6_triangulations_30 : decode cX6_triangulations 30 = .ok (.iload_n 2, 1) := by decide +kernel
theorem dX6_triangulations_31 : decode cX6_triangulations 31 = .ok (.if_icmp .ge 58, 3) := by decide +kernel
theorem dX6_triangulations_34 : decode cX6_triangulations 34 = .ok (.iconst 0, 1) := by decide +kernel
theorem dX6_triangulations_35 : decode cX6_triangulations 35 = .ok (.istore 4, 2) := by decide +kernel
theorem dX6_triangulations_37 : decode cX6_triangulations 37 = .ok (.iload 4, 2) := by decide +kernel
theorem dX6_triangulations_39 : decode cX6_triangulations 39 = .ok (.iload_n 3, 1) := by decide +kernel
theorem dX6_triangulations_40 : decode cX6_triangulations 40 = .ok (.iadd, 1) := by decide +kernel
theorem dX6_triangulations_41 : decode cX6_triangulations 41 = .ok (.iload_n 2, 1) := by decide +kernel
theorem dX6_triangulations_42 : decode cX6_triangulations 42 = .ok (.if_icmp .ge 41, 3) := by decide +kernel
theorem dX6_triangulations_45 : decode cX6_triangulations 45 = .ok (.aload_n 1, 1) := by decide +kernel
theorem dX6_triangulations_46 : decode cX6_triangulations 46 = .ok (.bipush 10, 2) := by decide +kernel
theorem dX6_triangulations_48 : decode cX6_triangulations 48 = .ok (.iload 4, 2) := by decide +kernel
theorem dX6_triangulations_50 : decode cX6_triangulations 50 = .ok (.imul, 1) := by decide +kernel
theorem dX6_triangulations_51 : decode cX6_triangulations 51 = .ok (.iload 4, 2) := by decide +kernel
theorem dX6_triangulations_53 : decode cX6_triangulations 53 = .ok (.iadd, 1) := by decide +kernel
theorem dX6_triangulations_54 : decode cX6_triangulations 54 = .ok (.iload_n 3, 1) := by decide +kernel
theorem dX6_triangulations_55 : decode cX6_triangulations 55 = .ok (.iadd, 1) := by decide +kernel
theorem dX6_triangulations_56 : decode cX6_triangulations 56 = .ok (.iload_n 3, 1) := by decide +kernel
theorem dX6_triangulations_57 : decode cX6_triangulations 57 = .ok (.iconst 1, 1) := by decide +kernel
theorem dX6_triangulations_58 : decode cX6_triangulations 58 = .ok (.if_icmp .ne 7, 3) := by decide +kernel
theorem dX6_triangulations_61 : decode cX6_triangulations 61 = .ok (.iconst 1, 1) := by decide +kernel
theorem dX6_triangulations_62 : decode cX6_triangulations 62 = .ok (.goto 14, 3) := by decide +kernel
theorem dX6_triangulations_65 : decode cX6_triangulations 65 = .ok (.aload_n 0, 1) := by decide +kernel
theorem dX6_triangulations_66 : decode cX6_triangulations 66 = .ok (.aload_n 1, 1) := by decide +kernel
theorem dX6_triangulations_67 : decode cX6_triangulations 67 = .ok (.iload 4, 2) := by decide +kernel
theorem dX6_triangulations_69 : decode cX6_triangulations 69 = .ok (.iload 4, 2) := by decide +kernel
theorem dX6_triangulations_71 : decode cX6_triangulations 71 = .ok (.iload_n 3, 1) := by decide +kernel
theorem dX6_triangulations_72 : decode cX6_triangulations 72 = .ok (.iadd, 1) := by decide +kernel
theorem dX6_triangulations_73 : decode cX6_triangulations 73 = .ok (.invokestatic 63, 3) := by decide +kernel
theorem dX6_triangulations_76 : decode cX6_triangulations 76 = .ok (.iastore, 1) := by decide +kernel
theorem dX6_triangulations_77 : decode cX6_triangulations 77 = .ok (.iinc 4 1, 3) := by decide +kernel
theorem dX6_triangulations_80 : decode cX6_triangulations 80 = .ok (.goto (-43), 3) := by decide +kernel
theorem dX6_triangulations_83 : decode cX6_triangulations 83 = .ok (.iinc 3 1, 3) := by decide +kernel
theorem dX6_triangulations_86 : decode cX6_triangulations 86 = .ok (.goto (-57), 3) := by decide +kernel
theorem dX6_triangulations_89 : decode cX6_triangulations 89 = .ok (.aload_n 1, 1) := by decide +kernel
theorem dX6_triangulations_90 : decode cX6_triangulations 90 = .ok (.iload_n 2, 1) := by decide +kernel
theorem dX6_triangulations_91 : decode cX6_triangulations 91 = .ok (.iconst 1, 1) := by decide +kernel
theorem dX6_triangulations_92 : decode cX6_triangulations 92 = .ok (.isub, 1) := by decide +kernel
theorem dX6_triangulations_93 : decode cX6_triangulations 93 = .ok (.iaload, 1) := by decide +kernel
theorem dX6_triangulations_94 : decode cX6_triangulations 94 = .ok (.ireturn, 1) := by decide +kernel
theorem dX6_waysOfPart_0 : decode cX6_waysOfPart 0 = .ok (.aload_n 0, 1) := by decide +kernel
theorem dX6_waysOfPart_1 : decode cX6_waysOfPart 1 = .ok (.iload_n 3, 1) := by decide +kernel
theorem dX6_waysOfPart_2 : decode cX6_waysOfPart 2 = .ok (.invokevirtual 9, 3) := by decide +kernel
theorem dX6_waysOfPart_5 : decode cX6_waysOfPart 5 = .ok (.iload_n 2, 1) := by decide +kernel
theorem dX6_waysOfPart_6 : decode cX6_waysOfPart 6 = .ok (.if_icmp .ne 7, 3) := by decide +kernel
theorem dX6_waysOfPart_9 : decode cX6_waysOfPart 9 = .ok (.iconst 1, 1) := by decide +kernel
theorem dX6_waysOfPart_10 : decode cX6_waysOfPart 10 = .ok (.goto 4, 3) := by decide +kernel
theorem dX6_waysOfPart_13 : decode cX6_waysOfPart 13 = .ok (.iconst 0, 1) := by decide +kernel
theorem dX6_waysOfPart_14 : decode cX6_waysOfPart 14 = .ok (.istore 4, 2) := by decide +kernel
theorem dX6_waysOfPart_16 : decode cX6_waysOfPart 16 = .ok (.iload 4, 2) := by decide +kernel
theorem dX6_waysOfPart_18 : decode cX6_waysOfPart 18 = .ok (.ifCond .ne 14, 3) := by decide +kernel
theorem dX6_waysOfPart_21 : decode cX6_waysOfPart 21 = .ok (.aload_n 0, 1) := by decide +kernel
theorem dX6_waysOfPart_22 : decode cX6_waysOfPart 22 = .ok (.iload_n 2, 1) := by decide +kernel
theorem dX6_waysOfPart_23 : decode cX6_waysOfPart 23 = .ok (.iload_n 3, 1) := by decide +kernel
theorem dX6_waysOfPart_24 : decode cX6_waysOfPart 24 = .ok (.invokestatic 40, 3) := by decide +kernel
theorem dX6_waysOfPart_27 : decode cX6_waysOfPart 27 = .ok (.ifCond .ne 5, 3) := by decide +kernel
theorem dX6_waysOfPart_30 : decode cX6_waysOfPart 30 = .ok (.iconst 0, 1) := by decide +kernel
theorem dX6_waysOfPart_31 : decode cX6_waysOfPart 31 = .ok (.ireturn, 1) := by decide +kernel
theorem dX6_waysOfPart_32 : decode cX6_waysOfPart 32 = .ok (.iconst 0, 1) := by decide +kernel
theorem dX6_waysOfPart_33 : decode cX6_waysOfPart 33 = .ok (.istore 5, 2) := by decide +kernel
theorem dX6_waysOfPart_35 : decode cX6_waysOfPart 35 = .ok (.iload_n 2, 1) := by decide +kernel
theorem dX6_waysOfPart_36 : decode cX6_waysOfPart 36 = .ok (.iconst 1, 1) := by decide +kernel
theorem dX6_waysOfPart_37 : decode cX6_waysOfPart 37 = .ok (.iadd, 1) := by decide +kernel
theorem dX6_waysOfPart_38 : decode cX6_waysOfPart 38 = .ok (.istore 6, 2) := by decide +kernel
theorem dX6_waysOfPart_40 : decode cX6_waysOfPart 40 = .ok (.iload 6, 2) := by decide +kernel
theorem dX6_waysOfPart_42 : decode cX6_waysOfPart 42 = .ok (.iload_n 3, 1) := by decide +kernel
theorem dX6_waysOfPart_43 : decode cX6_waysOfPart 43 = .ok (.if_icmp .ge 33, 3) := by decide +kernel
theorem dX6_waysOfPart_46 : decode cX6_waysOfPart 46 = .ok (.iload 5, 2) := by decide +kernel
theorem dX6_waysOfPart_48 : decode cX6_waysOfPart 48 = .ok (.aload_n 1, 1) := by decide +kernel
theorem dX6_waysOfPart_49 : decode cX6_waysOfPart 49 = .ok (.bipush 10, 2) := by decide +kernel
theorem dX6_waysOfPart_51 : decode cX6_waysOfPart 51 = .ok (.iload_n 2, 1) := by decide +kernel
theorem dX6_waysOfPart_52 : decode cX6_waysOfPart 52 = .ok (.imul, 1) := by decide +kernel
theorem dX6_waysOfPart_53 : decode cX6_waysOfPart 53 = .ok (.iload 6, 2) := by decide +kernel
theorem dX6_waysOfPart_55 : decode cX6_waysOfPart 55 = .ok (.iadd, 1) := by decide +kernel
theorem dX6_waysOfPart_56 : decode cX6_waysOfPart 56 = .ok (.iaload, 1) := by decide +kernel
theorem dX6_waysOfPart_57 : decode cX6_waysOfPart 57 = .ok (.aload_n 1, 1) := by decide +kernel
theorem dX6_waysOfPart_58 : decode cX6_waysOfPart 58 = .ok (.bipush 10, 2) := by decide +kernel
theorem dX6_waysOfPart_60 : decode cX6_waysOfPart 60 = .ok (.iload 6, 2) := by decide +kernel
theorem dX6_waysOfPart_62 : decode cX6_waysOfPart 62 = .ok (.imul, 1) := by decide +kernel
theorem dX6_waysOfPart_63 : decode cX6_waysOfPart 63 = .ok (.iload_n 3, 1) := by decide +kernel
theorem dX6_waysOfPart_64 : decode cX6_waysOfPart 64 = .ok (.iadd, 1) := by decide +kernel
theorem dX6_waysOfPart_65 : decode cX6_waysOfPart 65 = .ok (.iaload, 1) := by decide +kernel
theorem dX6_waysOfPart_66 : decode cX6_waysOfPart 66 = .ok (.imul, 1) := by decide +kernel
theorem dX6_waysOfPart_67 : decode cX6_waysOfPart 67 = .ok (.iadd, 1) := by decide +kernel
theorem dX6_waysOfPart_68 : decode cX6_waysOfPart 68 = .ok (.istore 5, 2) := by decide +kernel
theorem dX6_waysOfPart_70 : decode cX6_waysOfPart 70 = .ok (.iinc 6 1, 3) := by decide +kernel
theorem dX6_waysOfPart_73 : decode cX6_waysOfPart 73 = .ok (.goto (-33), 3) := by decide +kernel
theorem dX6_waysOfPart_76 : decode cX6_waysOfPart 76 = .ok (.iload 5, 2) := by decide +kernel
theorem dX6_waysOfPart_78 : decode cX6_waysOfPart 78 = .ok (.ireturn, 1) := by decide +kernel
theorem dX7_init_0 : decode cX7_init 0 = .ok (.aload_n 0, 1) := by decide +kernel
theorem dX7_init_1 : decode cX7_init 1 = .ok (.invokespecial 3, 3) := by decide +kernel
theorem dX7_init_4 : decode cX7_init 4 = .ok (.aload_n 0, 1) := by decide +kernel
theorem dX7_init_5 : decode cX7_init 5 = .ok (.bipush 90, 2) := by decide +kernel
theorem dX7_init_7 : decode cX7_init 7 = .ok (.newarray .char, 2) := by decide +kernel
theorem dX7_init_9 : decode cX7_init 9 = .ok (.putfield 9, 3) := by decide +kernel
theorem dX7_init_12 : decode cX7_init 12 = .ok (.return_, 1) := by decide +kernel
theorem dX7_add_0 : decode cX7_add 0 = .ok (.aload_n 0, 1) := by decide +kernel
theorem dX7_add_1 : decode cX7_add 1 = .ok (.getfield 15, 3) := by decide +kernel
theorem dX7_add_4 : decode cX7_add 4 = .ok (.bipush 90, 2) := by decide +kernel
theorem dX7_add_6 : decode cX7_add 6 = .ok (.if_icmp .ge 24, 3) := by decide +kernel
theorem dX7_add_9 : decode cX7_add 9 = .ok (.aload_n 0, 1) := by decide +kernel
theorem dX7_add_10 : decode cX7_add 10 = .ok (.getfield 9, 3) := by decide +kernel
theorem dX7_add_13 : decode cX7_add 13 = .ok (.aload_n 0, 1) := by decide +kernel
theorem dX7_add_14 : decode cX7_add 14 = .ok (.getfield 15, 3) := by decide +kernel
theorem dX7_add_17 : decode cX7_add 17 = .ok (.iload_n 1, 1) := by decide +kernel
theorem dX7_add_18 : decode cX7_add 18 = .ok (.i2c, 1) := by decide +kernel
theorem dX7_add_19 : decode cX7_add 19 = .ok (.castore, 1) := by decide +kernel
theorem dX7_add_20 : decode cX7_add 20 = .ok (.aload_n 0, 1) := by decide +kernel
theorem dX7_add_21 : decode cX7_add 21 = .ok (.dup, 1) := by decide +kernel
theorem dX7_add_22 : decode cX7_add 22 = .ok (.getfield 15, 3) := by decide +kernel
theorem dX7_add_25 : decode cX7_add 25 = .ok (.iconst 1, 1) := by decide +kernel
theorem dX7_add_26 : decode cX7_add 26 = .ok (.iadd, 1) := by decide +kernel
theorem dX7_add_27 : decode cX7_add 27 = .ok (.putfield 15, 3) := by decide +kernel
theorem dX7_add_30 : decode cX7_add 30 = .ok (.return_, 1) := by decide +kernel
theorem dX7_readInto_0 : decode cX7_readInto 0 = .ok (.aload_n 1, 1) := by decide +kernel
theorem dX7_readInto_1 : decode cX7_readInto 1 = .ok (.invokevirtual 19, 3) := by decide +kernel
theorem dX7_readInto_4 : decode cX7_readInto 4 = .ok (.aload_n 0, 1) := by decide +kernel
theorem dX7_readInto_5 : decode cX7_readInto 5 = .ok (.getfield 15, 3) := by decide +kernel
theorem dX7_readInto_8 : decode cX7_readInto 8 = .ok (.ifCond .eq 14, 3) := by decide +kernel
theorem dX7_readInto_11 : decode cX7_readInto 11 = .ok (.aload_n 0, 1) := by decide +kernel
theorem dX7_readInto_12 : decode cX7_readInto 12 = .ok (.getfield 9, 3) := by decide +kernel
theorem dX7_readInto_15 : decode cX7_readInto 15 = .ok (.iconst 0, 1) := by decide +kernel
theorem dX7_readInto_16 : decode cX7_readInto 16 = .ok (.caload, 1) := by decide +kernel
theorem dX7_readInto_17 : decode cX7_readInto 17 = .ok (.bipush 70, 2) := by decide +kernel
theorem dX7_readInto_19 : decode cX7_readInto 19 = .ok (.if_icmp .eq 5, 3) := by decide +kernel
theorem dX7_readInto_22 : decode cX7_readInto 22 = .ok (.iconst 0, 1) := by decide +kernel
theorem dX7_readInto_23 : decode cX7_readInto 23 = .ok (.ireturn, 1) := by decide +kernel
theorem dX7_readInto_24 : decode cX7_readInto 24 = .ok (.aload_n 1, 1) := by decide +kernel
theorem dX7_readInto_25 : decode cX7_readInto 25 = .ok (.invokevirtual 24, 3) := by decide +kernel
theorem dX7_readInto_28 : decode cX7_readInto 28 = .ok (.iconst 1, 1) := by decide +kernel
theorem dX7_readInto_29 : decode cX7_readInto 29 = .ok (.istore_n 2, 1) := by decide +kernel
theorem dX7_readInto_30 : decode cX7_readInto 30 = .ok (.iconst 1, 1) := by decide +kernel
theorem dX7_readInto_31 : decode cX7_readInto 31 = .ok (.istore_n 3, 1) := by decide +kernel
theorem dX7_readInto_32 : decode cX7_readInto 32 = .ok (.iload_n 3, 1) := by decide +kernel
theorem dX7_readInto_33 : decode cX7_readInto 33 = .ok (.aload_n 0, 1) := by decide +kernel
theorem dX7_readInto_34 : decode cX7_readInto 34 = .ok (.getfield 15, 3) := by decide +kernel
theorem dX7_readInto_37 : decode cX7_readInto 37 = .ok (.if_icmp .ge 114, 3) := by decide +kernel
theorem dX7_readInto_40 : decode cX7_readInto 40 = .ok (.iload_n 3, 1) := by decide +kernel
theorem dX7_readInto_41 : decode cX7_readInto 41 = .ok (.iload_n 2, 1) := by decide +kernel
theorem dX7_readInto_42 : decode cX7_readInto 42 = .ok (.isub, 1) := by decide +kernel
theorem dX7_readInto_43 : decode cX7_readInto 43 = .ok (.istore 4, 2) := by decide +kernel
theorem dX7_readInto_45 : decode cX7_readInto 45 = .ok (.aload_n 0, 1) := by decide +kernel
theorem dX7_readInto_46 : decode cX7_readInto 46 = .ok (.getfield 9, 3) := by decide +kernel
theorem dX7_readInto_49 : decode cX7_readInto 49 = .ok (.iload_n 3, 1) := by decide +kernel
theorem dX7_readInto_50 : decode cX7_readInto 50 = .ok (.caload, 1) := by decide +kernel
theorem dX7_readInto_51 : decode cX7_readInto 51 = .ok (.bipush 47, 2) := by decide +kernel
theorem dX7_readInto_53 : decode cX7_readInto 53 = .ok (.if_icmp .ne 39, 3) := by decide +kernel
theorem dX7_readInto_56 : decode cX7_readInto 56 = .ok (.iload 4, 2) := by decide +kernel
theorem dX7_readInto_58 : decode cX7_readInto 58 = .ok (.invokestatic 27, 3) := by decide +kernel
theorem dX7_readInto_61 : decode cX7_readInto 61 = .ok (.ifCond .eq 31, 3) := by decide +kernel
theorem dX7_readInto_64 : decode cX7_readInto 64 = .ok (.aload_n 1, 1) := by decide +kernel
theorem dX7_readInto_65 : decode cX7_readInto 65 = .ok (.getfield 31, 3) := by decide +kernel
theorem dX7_readInto_68 : decode cX7_readInto 68 = .ok (.iconst 4, 1) := by decide +kernel
theorem dX7_readInto_69 : decode cX7_readInto 69 = .ok (.if_icmp .ge 23, 3) := by decide +kernel
theorem dX7_readInto_72 : decode cX7_readInto 72 = .ok (.aload_n 1, 1) := by decide +kernel
theorem dX7_readInto_73 : decode cX7_readInto 73 = .ok (.invokestatic 34, 3) := by decide +kernel
theorem dX7_readInto_76 : decode cX7_readInto 76 = .ok (.ifCond .eq 5, 3) := by decide +kernel
theorem dX7_readInto_79 : decode cX7_readInto 79 = .ok (.iload_n 2, 1) := by decide +kernel
theorem dX7_readInto_80 : decode cX7_readInto 80 = .ok (.ireturn, 1) := by decide +kernel
theorem dX7_readInto_81 : decode cX7_readInto 81 = .ok (.aload_n 1, 1) := by decide +kernel
theorem dX7_readInto_82 : decode cX7_readInto 82 = .ok (.invokevirtual 24, 3) := by decide +kernel
theorem dX7_readInto_85 : decode cX7_readInto 85 = .ok (.iload_n 3, 1) := by decide +kernel
theorem dX7_readInto_86 : decode cX7_readInto 86 = .ok (.iconst 1, 1) := by decide +kernel
theorem dX7_readInto_87 : decode cX7_readInto 87 = .ok (.iadd, 1) := by decide +kernel
theorem dX7_readInto_88 : decode cX7_readInto 88 = .ok (.istore_n 2, 1) := by decide +kernel
theorem dX7_readInto_89 : decode cX7_readInto 89 = .ok (.goto 56, 3) := by decide +kernel
theorem dX7_readInto_92 : decode cX7_readInto 92 = .ok (.aload_n 0, 1) := by decide +kernel
theorem dX7_readInto_93 : decode cX7_readInto 93 = .ok (.getfield 9, 3) := by decide +kernel
theorem dX7_readInto_96 : decode cX7_readInto 96 = .ok (.iload_n 3, 1) := by decide +kernel
theorem dX7_readInto_97 : decode cX7_readInto 97 = .ok (.caload, 1) := by decide +kernel
theorem dX7_readInto_98 : decode cX7_readInto 98 = .ok (.invokestatic 40, 3) := by decide +kernel
theorem dX7_readInto_101 : decode cX7_readInto 101 = .ok (.ifCond .eq 10, 3) := by decide +kernel
theorem dX7_readInto_104 : decode cX7_readInto 104 = .ok (.iload 4, 2) := by decide +kernel
theorem dX7_readInto_106 : decode cX7_readInto 106 = .ok (.bipush 20, 2) := by decide +kernel
theorem dX7_readInto_108 : decode cX7_readInto 108 = .ok (.if_icmp .lt 5, 3) := by decide +kernel
theorem dX7_readInto_111 : decode cX7_readInto 111 = .ok (.iload_n 3, 1) := by decide +kernel
theorem dX7_readInto_112 : decode cX7_readInto 112 = .ok (.ireturn, 1) := by decide +kernel
theorem dX7_readInto_113 : decode cX7_readInto 113 = .ok (.iload 4, 2) := by decide +kernel
theorem dX7_readInto_115 : decode cX7_readInto 115 = .ok (.iconst 2, 1) := by decide +kernel
theorem dX7_readInto_116 : decode cX7_readInto 116 = .ok (.irem, 1) := by decide +kernel
theorem dX7_readInto_117 : decode cX7_readInto 117 = .ok (.iconst 1, 1) := by decide +kernel
theorem dX7_readInto_118 : decode cX7_readInto 118 = .ok (.if_icmp .ne 27, 3) := by decide +kernel
theorem dX7_readInto_121 : decode cX7_readInto 121 = .ok (.aload_n 1, 1) := by decide +kernel
theorem dX7_readInto_122 : decode cX7_readInto 122 = .ok (.aload_n 0, 1) := by decide +kernel
theorem dX7_readInto_123 : decode cX7_readInto 123 = .ok (.getfield 9, 3) := by decide +kernel
theorem dX7_readInto_126 : decode cX7_readInto 126 = .ok (.iload_n 3, 1) := by decide +kernel
theorem dX7_readInto_127 : decode cX7_readInto 127 = .ok (.iconst 1, 1) := by decide +kernel
theorem dX7_readInto_128 : decode cX7_readInto 128 = .ok (.isub, 1) := by decide +kernel
theorem dX7_readInto_129 : decode cX7_readInto 129 = .ok (.caload, 1) := by decide +kernel
theorem dX7_readInto_130 : decode cX7_readInto 130 = .ok (.bipush 97, 2) := by decide +kernel
theorem dX7_readInto_132 : decode cX7_readInto 132 = .ok (.isub, 1) := by decide +kernel
theorem dX7_readInto_133 : decode cX7_readInto 133 = .ok (.aload_n 0, 1) := by decide +kernel
theorem dX7_readInto_134 : decode cX7_readInto 134 = .ok (.getfield 9, 3) := by decide +kernel
theorem dX7_readInto_137 : decode cX7_readInto 137 = .ok (.iload_n 3, 1) := by decide +kernel
theorem dX7_readInto_138 : decode cX7_readInto 138 = .ok (.caload, 1) := by decide +kernel
theorem dX7_readInto_139 : decode cX7_readInto 139 = .ok (.bipush 97, 2) := by decide +kernel
theorem dX7_readInto_141 : decode cX7_readInto 141 = .ok (.isub, 1) := by decide +kernel
theorem dX7_readInto_142 : decode cX7_readInto 142 = .ok (.invokevirtual 44, 3) := by decide +kernel
theorem dX7_readInto_145 : decode cX7_readInto 145 = .ok (.iinc 3 1, 3) := by decide +kernel
theorem dX7_readInto_148 : decode cX7_readInto 148 = .ok (.goto (-116), 3) := by decide +kernel
theorem dX7_readInto_151 : decode cX7_readInto 151 = .ok (.aload_n 0, 1) := by decide +kernel
theorem dX7_readInto_152 : decode cX7_readInto 152 = .ok (.getfield 15, 3) := by decide +kernel
theorem dX7_readInto_155 : decode cX7_readInto 155 = .ok (.iload_n 2, 1) := by decide +kernel
theorem dX7_readInto_156 : decode cX7_readInto 156 = .ok (.isub, 1) := by decide +kernel
theorem dX7_readInto_157 : decode cX7_readInto 157 = .ok (.invokestatic 27, 3) := by decide +kernel
theorem dX7_readInto_160 : decode cX7_readInto 160 = .ok (.ifCond .ne 8, 3) := by decide +kernel
theorem dX7_readInto_163 : decode cX7_readInto 163 = .ok (.aload_n 0, 1) := by decide +kernel
theorem dX7_readInto_164 : decode cX7_readInto 164 = .ok (.getfield 15, 3) := by decide +kernel
theorem dX7_readInto_167 : decode cX7_readInto 167 = .ok (.ireturn, 1) := by decide +kernel
theorem dX7_readInto_168 : decode cX7_readInto 168 = .ok (.aload_n 1, 1) := by decide +kernel
theorem dX7_readInto_169 : decode cX7_readInto 169 = .ok (.invokestatic 34, 3) := by decide +kernel
theorem dX7_readInto_172 : decode cX7_readInto 172 = .ok (.ifCond .eq 7, 3) := by decide +kernel
theorem dX7_readInto_175 : decode cX7_readInto 175 = .ok (.iload_n 2, 1) := by decide +kernel
theorem dX7_readInto_176 : decode cX7_readInto 176 = .ok (.goto 5, 3) := by decide +kernel
theorem dX7_readInto_179 : decode cX7_readInto 179 = .ok (.bipush (-9), 2) := by decide +kernel
theorem dX7_readInto_181 : decode cX7_readInto 181 = .ok (.ireturn, 1) := by decide +kernel
theorem dX7_isWhole_0 : decode cX7_isWhole 0 = .ok (.iload_n 0, 1) := by decide +kernel
theorem dX7_isWhole_1 : decode cX7_isWhole 1 = .ok (.iconst 2, 1) := by decide +kernel
theorem dX7_isWhole_2 : decode cX7_isWhole 2 = .ok (.irem, 1) := by decide +kernel
theorem dX7_isWhole_3 : decode cX7_isWhole 3 = .ok (.ifCond .ne 13, 3) := by decide +kernel
theorem dX7_isWhole_6 : decode cX7_isWhole 6 = .ok (.iload_n 0, 1) := by decide +kernel
theorem dX7_isWhole_7 : decode cX7_isWhole 7 = .ok (.bipush 6, 2) := by decide +kernel
theorem dX7_isWhole_9 : decode cX7_isWhole 9 = .ok (.if_icmp .lt 7, 3) := by decide +kernel
theorem dX7_isWhole_12 : decode cX7_isWhole 12 = .ok (.iconst 1, 1) := by decide +kernel
theorem dX7_isWhole_13 : decode cX7_isWhole 13 = .ok (.goto 4, 3) := by decide +kernel
theorem dX7_isWhole_16 : decode cX7_isWhole 16 = .ok (.iconst 0, 1) := by decide +kernel
theorem dX7_isWhole_17 : decode cX7_isWhole 17 = .ok (.ireturn, 1) := by decide +kernel
theorem dX7_isLetter_0 : decode cX7_isLetter 0 = .ok (.bipush 97, 2) := by decide +kernel
theorem dX7_isLetter_2 : decode cX7_isLetter 2 = .ok (.iload_n 0, 1) := by decide +kernel
theorem dX7_isLetter_3 : decode cX7_isLetter 3 = .ok (.if_icmp .gt 13, 3) := by decide +kernel
theorem dX7_isLetter_6 : decode cX7_isLetter 6 = .ok (.iload_n 0, 1) := by decide +kernel
theorem dX7_isLetter_7 : decode cX7_isLetter 7 = .ok (.bipush 112, 2) := by decide +kernel
theorem dX7_isLetter_9 : decode cX7_isLetter 9 = .ok (.if_icmp .gt 7, 3) := by decide +kernel
theorem dX7_isLetter_12 : decode cX7_isLetter 12 = .ok (.iconst 1, 1) := by decide +kernel
theorem dX7_isLetter_13 : decode cX7_isLetter 13 = .ok (.goto 4, 3) := by decide +kernel
theorem dX7_isLetter_16 : decode cX7_isLetter 16 = .ok (.iconst 0, 1) := by decide +kernel
theorem dX7_isLetter_17 : decode cX7_isLetter 17 = .ok (.ireturn, 1) := by decide +kernel
theorem dX8_init_0 : decode cX8_init 0 = .ok (.aload_n 0, 1) := by decide +kernel
theorem dX8_init_1 : decode cX8_init 1 = .ok (.invokespecial 3, 3) := by decide +kernel
theorem dX8_init_4 : decode cX8_init 4 = .ok (.aload_n 0, 1) := by decide +kernel
theorem dX8_init_5 : decode cX8_init 5 = .ok (.new 9, 3) := by decide +kernel
theorem dX8_init_8 : decode cX8_init 8 = .ok (.dup, 1) := by decide +kernel
theorem dX8_init_9 : decode cX8_init 9 = .ok (.invokespecial 11, 3) := by decide +kernel
theorem dX8_init_12 : decode cX8_init 12 = .ok (.putfield 12, 3) := by decide +kernel
theorem dX8_init_15 : decode cX8_init 15 = .ok (.aload_n 0, 1) := by decide +kernel
theorem dX8_init_16 : decode cX8_init 16 = .ok (.new 9, 3) := by decide +kernel
theorem dX8_init_19 : decode cX8_init 19 = .ok (.dup, 1) := by decide +kernel
theorem dX8_init_20 : decode cX8_init 20 = .ok (.invokespecial 11, 3) := by decide +kernel
theorem dX8_init_23 : decode cX8_init 23 = .ok (.putfield 16, 3) := by decide +kernel
theorem dX8_init_26 : decode cX8_init 26 = .ok (.aload_n 0, 1) := by decide +kernel
theorem dX8_init_27 : decode cX8_init 27 = .ok (.new 19, 3) := by decide +kernel
theorem dX8_init_30 : decode cX8_init 30 = .ok (.dup, 1) := by decide +kernel
theorem dX8_init_31 : decode cX8_init 31 = .ok (.invokespecial 21, 3) := by decide +kernel
theorem dX8_init_34 : decode cX8_init 34 = .ok (.putfield 22, 3) := by decide +kernel
theorem dX8_init_37 : decode cX8_init 37 = .ok (.aload_n 0, 1) := by decide +kernel
theorem dX8_init_38 : decode cX8_init 38 = .ok (.iconst 2, 1) := by decide +kernel
theorem dX8_init_39 : decode cX8_init 39 = .ok (.anewarray 9, 3) := by decide +kernel
theorem dX8_init_42 : decode cX8_init 42 = .ok (.putfield 26, 3) := by decide +kernel
theorem dX8_init_45 : decode cX8_init 45 = .ok (.iconst 0, 1) := by decide +kernel
theorem dX8_init_46 : decode cX8_init 46 = .ok (.istore_n 1, 1) := by decide +kernel
theorem dX8_init_47 : decode cX8_init 47 = .ok (.iload_n 1, 1) := by decide +kernel
theorem dX8_init_48 : decode cX8_init 48 = .ok (.iconst 2, 1) := by decide +kernel
theorem dX8_init_49 : decode cX8_init 49 = .ok (.if_icmp .ge 22, 3) := by decide +kernel
theorem dX8_init_52 : decode cX8_init 52 = .ok (.aload_n 0, 1) := by decide +kernel
theorem dX8_init_53 : decode cX8_init 53 = .ok (.getfield 26, 3) := by decide +kernel
theorem dX8_init_56 : decode cX8_init 56 = .ok (.iload_n 1, 1) := by decide +kernel
theorem dX8_init_57 : decode cX8_init 57 = .ok (.new 9, 3) := by decide +kernel
theorem dX8_init_60 : decode cX8_init 60 = .ok (.dup, 1) := by decide +kernel
theorem dX8_init_61 : decode cX8_init 61 = .ok (.invokespecial 11, 3) := by decide +kernel
theorem dX8_init_64 : decode cX8_init 64 = .ok (.aastore, 1) := by decide +kernel
theorem dX8_init_65 : decode cX8_init 65 = .ok (.iinc 1 1, 3) := by decide +kernel
theorem dX8_init_68 : decode cX8_init 68 = .ok (.goto (-21), 3) := by decide +kernel
theorem dX8_init_71 : decode cX8_init 71 = .ok (.aload_n 0, 1) := by decide +kernel
theorem dX8_init_72 : decode cX8_init 72 = .ok (.iconst 2, 1) := by decide +kernel
theorem dX8_init_73 : decode cX8_init 73 = .ok (.newarray .boolean, 2) := by decide +kernel
theorem dX8_init_75 : decode cX8_init 75 = .ok (.putfield 30, 3) := by decide +kernel
theorem dX8_init_78 : decode cX8_init 78 = .ok (.aload_n 0, 1) := by decide +kernel
theorem dX8_init_79 : decode cX8_init 79 = .ok (.new 34, 3) := by decide +kernel
theorem dX8_init_82 : decode cX8_init 82 = .ok (.dup, 1) := by decide +kernel
theorem dX8_init_83 : decode cX8_init 83 = .ok (.invokespecial 36, 3) := by decide +kernel
theorem dX8_init_86 : decode cX8_init 86 = .ok (.putfield 37, 3) := by decide +kernel
theorem dX8_init_89 : decode cX8_init 89 = .ok (.aload_n 0, 1) := by decide +kernel
theorem dX8_init_90 : decode cX8_init 90 = .ok (.bipush 100, 2) := by decide +kernel
theorem dX8_init_92 : decode cX8_init 92 = .ok (.newarray .int, 2) := by decide +kernel
theorem dX8_init_94 : decode cX8_init 94 = .ok (.putfield 41, 3) := by decide +kernel
theorem dX8_init_97 : decode cX8_init 97 = .ok (.aload_n 0, 1) := by decide +kernel
theorem dX8_init_98 : decode cX8_init 98 = .ok (.getfield 12, 3) := by decide +kernel
theorem dX8_init_101 : decode cX8_init 101 = .ok (.invokevirtual 45, 3) := by decide +kernel
theorem dX8_init_104 : decode cX8_init 104 = .ok (.aload_n 0, 1) := by decide +kernel
theorem dX8_init_105 : decode cX8_init 105 = .ok (.getfield 12, 3) := by decide +kernel
theorem dX8_init_108 : decode cX8_init 108 = .ok (.iconst 0, 1) := by decide +kernel
theorem dX8_init_109 : decode cX8_init 109 = .ok (.iconst 0, 1) := by decide +kernel
theorem dX8_init_110 : decode cX8_init 110 = .ok (.invokevirtual 48, 3) := by decide +kernel
theorem dX8_init_113 : decode cX8_init 113 = .ok (.aload_n 0, 1) := by decide +kernel
theorem dX8_init_114 : decode cX8_init 114 = .ok (.getfield 12, 3) := by decide +kernel
theorem dX8_init_117 : decode cX8_init 117 = .ok (.iconst 4, 1) := by decide +kernel
theorem dX8_init_118 : decode cX8_init 118 = .ok (.iconst 0, 1) := by decide +kernel
theorem dX8_init_119 : decode cX8_init 119 = .ok (.invokevirtual 48, 3) := by decide +kernel
theorem dX8_init_122 : decode cX8_init 122 = .ok (.aload_n 0, 1) := by decide +kernel
theorem dX8_init_123 : decode cX8_init 123 = .ok (.getfield 12, 3) := by decide +kernel
theorem dX8_init_126 : decode cX8_init 126 = .ok (.iconst 4, 1) := by decide +kernel
theorem dX8_init_127 : decode cX8_init 127 = .ok (.iconst 4, 1) := by decide +kernel
theorem dX8_init_128 : decode cX8_init 128 = .ok (.invokevirtual 48, 3) := by decide +kernel
theorem dX8_init_131 : decode cX8_init 131 = .ok (.aload_n 0, 1) := by decide +kernel
theorem dX8_init_132 : decode cX8_init 132 = .ok (.getfield 12, 3) := by decide +kernel
theorem dX8_init_135 : decode cX8_init 135 = .ok (.iconst 0, 1) := by decide +kernel
theorem dX8_init_136 : decode cX8_init 136 = .ok (.iconst 4, 1) := by decide +kernel
theorem dX8_init_137 : decode cX8_init 137 = .ok (.invokevirtual 48, 3) := by decide +kernel
theorem dX8_init_140 : decode cX8_init 140 = .ok (.return_, 1) := by decide +kernel
theorem dX8_append_0 : decode cX8_append 0 = .ok (.iload_n 1, 1) := by decide +kernel
theorem dX8_append_1 : decode cX8_append 1 = .ok (.iconst 0, 1) := by decide +kernel
theorem dX8_append_2 : decode cX8_append 2 = .ok (.sipush 255, 3) := by decide +kernel
theorem dX8_append_5 : decode cX8_append 5 = .ok (.invokestatic 52, 3) := by decide +kernel
theorem dX8_append_8 : decode cX8_append 8 = .ok (.ifCond .ne 13, 3) := by decide +kernel
theorem dX8_append_11 : decode cX8_append 11 = .ok (.new 56, 3) := by decide +kernel
theorem dX8_append_14 : decode cX8_append 14 = .ok (.dup, 1) := by decide +kernel
theorem dX8_append_15 : decode cX8_append 15 = .ok (.ldc 58, 2) := by decide +kernel
theorem dX8_append_17 : decode cX8_append 17 = .ok (.invokespecial 60, 3) := by decide +kernel
theorem dX8_append_20 : decode cX8_append 20 = .ok (.athrow, 1) := by decide +kernel
theorem dX8_append_21 : decode cX8_append 21 = .ok (.aload_n 0, 1) := by decide +kernel
theorem dX8_append_22 : decode cX8_append 22 = .ok (.getfield 37, 3) := by decide +kernel
theorem dX8_append_25 : decode cX8_append 25 = .ok (.getfield 63, 3) := by decide +kernel
theorem dX8_append_28 : decode cX8_append 28 = .ok (.bipush 90, 2) := by decide +kernel
theorem dX8_append_30 : decode cX8_append 30 = .ok (.if_icmp .lt 13, 3) := by decide +kernel
theorem dX8_append_33 : decode cX8_append 33 = .ok (.new 67, 3) := by decide +kernel
theorem dX8_append_36 : decode cX8_append 36 = .ok (.dup, 1) := by decide +kernel
theorem dX8_append_37 : decode cX8_append 37 = .ok (.ldc 69, 2) := by decide +kernel
theorem dX8_append_39 : decode cX8_append 39 = .ok (.invokespecial 71, 3) := by decide +kernel
theorem dX8_append_42 : decode cX8_append 42 = .ok (.athrow, 1) := by decide +kernel
theorem dX8_append_43 : decode cX8_append 43 = .ok (.aload_n 0, 1) := by decide +kernel
theorem dX8_append_44 : decode cX8_append 44 = .ok (.getfield 37, 3) := by decide +kernel
theorem dX8_append_47 : decode cX8_append 47 = .ok (.iload_n 1, 1) := by decide +kernel
theorem dX8_append_48 : decode cX8_append 48 = .ok (.invokevirtual 72, 3) := by decide +kernel
theorem dX8_append_51 : decode cX8_append 51 = .ok (.aload_n 0, 1) := by decide +kernel
theorem dX8_append_52 : decode cX8_append 52 = .ok (.getfield 37, 3) := by decide +kernel
theorem dX8_append_55 : decode cX8_append 55 = .ok (.getfield 63, 3) := by decide +kernel
theorem dX8_append_58 : decode cX8_append 58 = .ok (.ireturn, 1) := by decide +kernel
theorem dX8_clearText_0 : decode cX8_clearText 0 = .ok (.aload_n 0, 1) := by decide +kernel
theorem dX8_clearText_1 : decode cX8_clearText 1 = .ok (.getfield 37, 3) := by decide +kernel
theorem dX8_clearText_4 : decode cX8_clearText 4 = .ok (.getfield 63, 3) := by decide +kernel
theorem dX8_clearText_7 : decode cX8_clearText 7 = .ok (.istore_n 1, 1) := by decide +kernel
theorem dX8_clearText_8 : decode cX8_clearText 8 = .ok (.aload_n 0, 1) := by decide +kernel
theorem dX8_clearText_9 : decode cX8_clearText 9 = .ok (.getfield 37, 3) := by decide +kernel
theorem dX8_clearText_12 : decode cX8_clearText 12 = .ok (.iconst 0, 1) := by decide +kernel
theorem dX8_clearText_13 : decode cX8_clearText 13 = .ok (.putfield 63, 3) := by decide +kernel
theorem dX8_clearText_16 : decode cX8_clearText 16 = .ok (.iload_n 1, 1) := by decide +kernel
theorem dX8_clearText_17 : decode cX8_clearText 17 = .ok (.ireturn, 1) := by decide +kernel
theorem dX8_errorPosition_0 : decode cX8_errorPosition 0 = .ok (.aload_n 0, 1) := by decide +kernel
theorem dX8_errorPosition_1 : decode cX8_errorPosition 1 = .ok (.getfield 37, 3) := by decide +kernel
theorem dX8_errorPosition_4 : decode cX8_errorPosition 4 = .ok (.aload_n 0, 1) := by decide +kernel
theorem dX8_errorPosition_5 : decode cX8_errorPosition 5 = .ok (.getfield 16, 3) := by decide +kernel
theorem dX8_errorPosition_8 : decode cX8_errorPosition 8 = .ok (.invokevirtual 76, 3) := by decide +kernel
theorem dX8_errorPosition_11 : decode cX8_errorPosition 11 = .ok (.ireturn, 1) := by decide +kernel
theorem dX8_load_0 : decode cX8_load 0 = .ok (.aload_n 0, 1) := by decide +kernel
theorem dX8_load_1 : decode cX8_load 1 = .ok (.getfield 37, 3) := by decide +kernel
theorem dX8_load_4 : decode cX8_load 4 = .ok (.aload_n 0, 1) := by decide +kernel
theorem dX8_load_5 : decode cX8_load 5 = .ok (.getfield 16, 3) := by decide +kernel
theorem dX8_load_8 : decode cX8_load 8 = .ok (.invokevirtual 76, 3) := by decide +kernel
theorem dX8_load_11 : decode cX8_load 11 = .ok (.bipush (-9), 2) := by decide +kernel
theorem dX8_load_13 : decode cX8_load 13 = .ok (.if_icmp .eq 13, 3) := by decide +kernel
theorem dX8_load_16 : decode cX8_load 16 = .ok (.new 67, 3) := by decide +kernel
theorem dX8_load_19 : decode cX8_load 19 = .ok (.dup, 1) := by decide +kernel
theorem dX8_load_20 : decode cX8_load 20 = .ok (.ldc 80, 2) := by decide +kernel
theorem dX8_load_22 : decode cX8_load 22 = .ok (.invokespecial 71, 3) := by decide +kernel
theorem dX8_load_25 : decode cX8_load 25 = .ok (.athrow, 1) := by decide +kernel
theorem dX8_load_26 : decode cX8_load 26 = .ok (.aload_n 0, 1) := by decide +kernel
theorem dX8_load_27 : decode cX8_load 27 = .ok (.getfield 12, 3) := by decide +kernel
theorem dX8_load_30 : decode cX8_load 30 = .ok (.aload_n 0, 1) := by decide +kernel
theorem dX8_load_31 : decode cX8_load 31 = .ok (.getfield 16, 3) := by decide +kernel
theorem dX8_load_34 : decode cX8_load 34 = .ok (.invokevirtual 82, 3) := by decide +kernel
theorem dX8_load_37 : decode cX8_load 37 = .ok (.aload_n 0, 1) := by decide +kernel
theorem dX8_load_38 : decode cX8_load 38 = .ok (.getfield 22, 3) := by decide +kernel
theorem dX8_load_41 : decode cX8_load 41 = .ok (.invokevirtual 86, 3) := by decide +kernel
theorem dX8_load_44 : decode cX8_load 44 = .ok (.iconst 0, 1) := by decide +kernel
theorem dX8_load_45 : decode cX8_load 45 = .ok (.istore_n 1, 1) := by decide +kernel
theorem dX8_load_46 : decode cX8_load 46 = .ok (.iload_n 1, 1) := by decide +kernel
theorem dX8_load_47 : decode cX8_load 47 = .ok (.iconst 2, 1) := by decide +kernel
theorem dX8_load_48 : decode cX8_load 48 = .ok (.if_icmp .ge 16, 3) := by decide +kernel
theorem dX8_load_51 : decode cX8_load 51 = .ok (.aload_n 0, 1) := by decide +kernel
theorem dX8_load_52 : decode cX8_load 52 = .ok (.getfield 30, 3) := by decide +kernel
theorem dX8_load_55 : decode cX8_load 55 = .ok (.iload_n 1, 1) := by decide +kernel
theorem dX8_load_56 : decode cX8_load 56 = .ok (.iconst 0, 1) := by decide +kernel
theorem dX8_load_57 : decode cX8_load 57 = .ok (.bastore, 1) := by decide +kernel
theorem dX8_load_58 : decode cX8_load 58 = .ok (.iinc 1 1, 3) := by decide +kernel
theorem dX8_load_61 : decode cX8_load 61 = .ok (.goto (-15), 3) := by decide +kernel
theorem dX8_load_64 : decode cX8_load 64 = .ok (.aload_n 0, 1) := by decide +kernel
theorem dX8_load_65 : decode cX8_load 65 = .ok (.getfield 12, 3) := by decide +kernel
theorem dX8_load_68 : decode cX8_load 68 = .ok (.getfield 89, 3) := by decide +kernel
theorem dX8_load_71 : decode cX8_load 71 = .ok (.ireturn, 1) := by decide +kernel
theorem dX8_about_0 : decode cX8_about 0 = .ok (.iload_n 1, 1) := by decide +kernel
theorem dX8_about_1 : decode cX8_about 1 = .ok (.tableswitch 137 0 9 #[55, 63, 71, 79, 87, 95, 104, 113, 121, 129], 55) := by decide +kernel
theorem dX8_about_56 : decode cX8_about 56 = .ok (.aload_n 0, 1) := by decide +kernel
theorem dX8_about_57 : decode cX8_about 57 = .ok (.getfield 12, 3) := by decide +kernel
theorem dX8_about_60 : decode cX8_about 60 = .ok (.getfield 89, 3) := by decide +kernel
theorem dX8_about_63 : decode cX8_about 63 = .ok (.ireturn, 1) := by decide +kernel
theorem dX8_about_64 : decode cX8_about 64 = .ok (.aload_n 0, 1) := by decide +kernel
theorem dX8_about_65 : decode cX8_about 65 = .ok (.getfield 12, 3) := by decide +kernel
theorem dX8_about_68 : decode cX8_about 68 = .ok (.getfield 92, 3) := by decide +kernel
theorem dX8_about_71 : decode cX8_about 71 = .ok (.ireturn, 1) := by decide +kernel
theorem dX8_about_72 : decode cX8_about 72 = .ok (.aload_n 0, 1) := by decide +kernel
theorem dX8_about_73 : decode cX8_about 73 = .ok (.getfield 12, 3) := by decide +kernel
theorem dX8_about_76 : decode cX8_about 76 = .ok (.invokestatic 95, 3) := by decide +kernel
theorem dX8_about_79 : decode cX8_about 79 = .ok (.ireturn, 1) := by decide +kernel
theorem dX8_about_80 : decode cX8_about 80 = .ok (.aload_n 0, 1) := by decide +kernel
theorem dX8_about_81 : decode cX8_about 81 = .ok (.getfield 12, 3) := by decide +kernel
theorem dX8_about_84 : decode cX8_about 84 = .ok (.invokestatic 100, 3) := by decide +kernel
theorem dX8_about_87 : decode cX8_about 87 = .ok (.ireturn, 1) := by decide +kernel
theorem dX8_about_88 : decode cX8_about 88 = .ok (.aload_n 0, 1) := by decide +kernel
theorem dX8_about_89 : decode cX8_about 89 = .ok (.getfield 12, 3) := by decide +kernel
theorem dX8_about_92 : decode cX8_about 92 = .ok (.invokestatic 103, 3) := by decide +kernel
theorem dX8_about_95 : decode cX8_about 95 = .ok (.ireturn, 1) := by decide +kernel
theorem dX8_about_96 : decode cX8_about 96 = .ok (.aload_n 0, 1) := by decide +kernel
theorem dX8_about_97 : decode cX8_about 97 = .ok (.getfield 12, 3) := by decide +kernel
theorem dX8_about_100 : decode cX8_about 100 = .ok (.iconst 1, 1) := by decide +kernel
theorem dX8_about_101 : decode cX8_about 101 = .ok (.invokestatic 106, 3) := by decide +kernel
theorem dX8_about_104 : decode cX8_about 104 = .ok (.ireturn, 1) := by decide +kernel
theorem dX8_about_105 : decode cX8_about 105 = .ok (.aload_n 0, 1) := by decide +kernel
theorem dX8_about_106 : decode cX8_about 106 = .ok (.getfield 12, 3) := by decide +kernel
theorem dX8_about_109 : decode cX8_about 109 = .ok (.iconst (-1), 1) := by decide +kernel
theorem dX8_about_110 : decode cX8_about 110 = .ok (.invokestatic 106, 3) := by decide +kernel
theorem dX8_about_113 : decode cX8_about 113 = .ok (.ireturn, 1) := by decide +kernel
theorem dX8_about_114 : decode cX8_about 114 = .ok (.aload_n 0, 1) := by decide +kernel
theorem dX8_about_115 : decode cX8_about 115 = .ok (.getfield 12, 3) := by decide +kernel
theorem dX8_about_118 : decode cX8_about 118 = .ok (.invokestatic 110, 3) := by decide +kernel
theorem dX8_about_121 : decode cX8_about 121 = .ok (.ireturn, 1) := by decide +kernel
theorem dX8_about_122 : decode cX8_about 122 = .ok (.aload_n 0, 1) := by decide +kernel
theorem dX8_about_123 : decode cX8_about 123 = .ok (.getfield 12, 3) := by decide +kernel
theorem dX8_about_126 : decode cX8_about 126 = .ok (.invokestatic 115, 3) := by decide +kernel
theorem dX8_about_129 : decode cX8_about 129 = .ok (.ireturn, 1) := by decide +kernel
theorem dX8_about_130 : decode cX8_about 130 = .ok (.aload_n 0, 1) := by decide +kernel
theorem dX8_about_131 : decode cX8_about 131 = .ok (.getfield 12, 3) := by decide +kernel
theorem dX8_about_134 : decode cX8_about 134 = .ok (.invokestatic 118, 3) := by decide +kernel
theorem dX8_about_137 : decode cX8_about 137 = .ok (.ireturn, 1) := by decide +kernel
theorem dX8_about_138 : decode cX8_about 138 = .ok (.new 56, 3) := by decide +kernel
theorem dX8_about_141 : decode cX8_about 141 = .ok (.dup, 1) := by decide +kernel
theorem dX8_about_142 : decode cX8_about 142 = .ok (.ldc 121, 2) := by decide +kernel
theorem dX8_about_144 : decode cX8_about 144 = .ok (.invokespecial 60, 3) := by decide +kernel
theorem dX8_about_147 : decode cX8_about 147 = .ok (.athrow, 1) := by decide +kernel
theorem dX8_ring_0 : decode cX8_ring 0 = .ok (.aload_n 0, 1) := by decide +kernel
theorem dX8_ring_1 : decode cX8_ring 1 = .ok (.iload_n 1, 1) := by decide +kernel
theorem dX8_ring_2 : decode cX8_ring 2 = .ok (.invokevirtual 123, 3) := by decide +kernel
theorem dX8_ring_5 : decode cX8_ring 5 = .ok (.iload_n 2, 1) := by decide +kernel
theorem dX8_ring_6 : decode cX8_ring 6 = .ok (.tableswitch 116 0 5 #[38, 47, 56, 73, 82, 100], 38) := by decide +kernel
theorem dX8_ring_44 : decode cX8_ring 44 = .ok (.aload_n 0, 1) := by decide +kernel
theorem dX8_ring_45 : decode cX8_ring 45 = .ok (.getfield 12, 3) := by decide +kernel
theorem dX8_ring_48 : decode cX8_ring 48 = .ok (.iload_n 1, 1) := by decide +kernel
theorem dX8_ring_49 : decode cX8_ring 49 = .ok (.invokevirtual 126, 3) := by decide +kernel
theorem dX8_ring_52 : decode cX8_ring 52 = .ok (.ireturn, 1) := by decide +kernel
theorem dX8_ring_53 : decode cX8_ring 53 = .ok (.aload_n 0, 1) := by decide +kernel
theorem dX8_ring_54 : decode cX8_ring 54 = .ok (.getfield 12, 3) := by decide +kernel
theorem dX8_ring_57 : decode cX8_ring 57 = .ok (.iload_n 1, 1) := by decide +kernel
theorem dX8_ring_58 : decode cX8_ring 58 = .ok (.invokestatic 130, 3) := by decide +kernel
theorem dX8_ring_61 : decode cX8_ring 61 = .ok (.ireturn, 1) := by decide +kernel
theorem dX8_ring_62 : decode cX8_ring 62 = .ok (.aload_n 0, 1) := by decide +kernel
theorem dX8_ring_63 : decode cX8_ring 63 = .ok (.getfield 12, 3) := by decide +kernel
theorem dX8_ring_66 : decode cX8_ring 66 = .ok (.iload_n 1, 1) := by decide +kernel
theorem dX8_ring_67 : decode cX8_ring 67 = .ok (.invokestatic 133, 3) := by decide +kernel
theorem dX8_ring_70 : decode cX8_ring 70 = .ok (.ifCond .le 7, 3) := by decide +kernel
theorem dX8_ring_73 : decode cX8_ring 73 = .ok (.iconst 1, 1) := by decide +kernel
theorem dX8_ring_74 : decode cX8_ring 74 = .ok (.goto 4, 3) := by decide +kernel
theorem dX8_ring_77 : decode cX8_ring 77 = .ok (.iconst 0, 1) := by decide +kernel
theorem dX8_ring_78 : decode cX8_ring 78 = .ok (.ireturn, 1) := by decide +kernel
theorem dX8_ring_79 : decode cX8_ring 79 = .ok (.aload_n 0, 1) := by decide +kernel
theorem dX8_ring_80 : decode cX8_ring 80 = .ok (.getfield 12, 3) := by decide +kernel
theorem dX8_ring_83 : decode cX8_ring 83 = .ok (.iload_n 1, 1) := by decide +kernel
theorem dX8_ring_84 : decode cX8_ring 84 = .ok (.invokestatic 136, 3) := by decide +kernel
theorem dX8_ring_87 : decode cX8_ring 87 = .ok (.ireturn, 1) := by decide +kernel
theorem dX8_ring_88 : decode cX8_ring 88 = .ok (.aload_n 0, 1) := by decide +kernel
theorem dX8_ring_89 : decode cX8_ring 89 = .ok (.getfield 12, 3) := by decide +kernel
theorem dX8_ring_92 : decode cX8_ring 92 = .ok (.iload_n 1, 1) := by decide +kernel
theorem dX8_ring_93 : decode cX8_ring 93 = .ok (.invokestatic 139, 3) := by decide +kernel
theorem dX8_ring_96 : decode cX8_ring 96 = .ok (.aload_n 0, 1) := by decide +kernel
theorem dX8_ring_97 : decode cX8_ring 97 = .ok (.getfield 12, 3) := by decide +kernel
theorem dX8_ring_100 : decode cX8_ring 100 = .ok (.iload_n 1, 1) := by decide +kernel
theorem dX8_ring_101 : decode cX8_ring 101 = .ok (.invokevirtual 142, 3) := by decide +kernel
theorem dX8_ring_104 : decode cX8_ring 104 = .ok (.isub, 1) := by decide +kernel
theorem dX8_ring_105 : decode cX8_ring 105 = .ok (.ireturn, 1) := by decide +kernel
theorem dX8_ring_106 : decode cX8_ring 106 = .ok (.aload_n 0, 1) := by decide +kernel
theorem dX8_ring_107 : decode cX8_ring 107 = .ok (.getfield 12, 3) := by decide +kernel
theorem dX8_ring_110 : decode cX8_ring 110 = .ok (.aload_n 0, 1) := by decide +kernel
theorem dX8_ring_111 : decode cX8_ring 111 = .ok (.getfield 12, 3) := by decide +kernel
theorem dX8_ring_114 : decode cX8_ring 114 = .ok (.iload_n 1, 1) := by decide +kernel
theorem dX8_ring_115 : decode cX8_ring 115 = .ok (.invokestatic 139, 3) := by decide +kernel
theorem dX8_ring_118 : decode cX8_ring 118 = .ok (.invokevirtual 145, 3) := by decide +kernel
theorem dX8_ring_121 : decode cX8_ring 121 = .ok (.ireturn, 1) := by decide +kernel
theorem dX8_ring_122 : decode cX8_ring 122 = .ok (.new 56, 3) := by decide +kernel
theorem dX8_ring_125 : decode cX8_ring 125 = .ok (.dup, 1) := by decide +kernel
theorem dX8_ring_126 : decode cX8_ring 126 = .ok (.ldc 148, 2) := by decide +kernel
theorem dX8_ring_128 : decode cX8_ring 128 = .ok (.invokespecial 60, 3) := by decide +kernel
theorem dX8_ring_131 : decode cX8_ring 131 = .ok (.athrow, 1) := by decide +kernel
theorem dX8_corner_0 : decode cX8_corner 0 = .ok (.aload_n 0, 1) := by decide +kernel
theorem dX8_corner_1 : decode cX8_corner 1 = .ok (.iload_n 1, 1) := by decide +kernel
theorem dX8_corner_2 : decode cX8_corner 2 = .ok (.iload_n 2, 1) := by decide +kernel
theorem dX8_corner_3 : decode cX8_corner 3 = .ok (.invokevirtual 150, 3) := by decide +kernel
theorem dX8_corner_6 : decode cX8_corner 6 = .ok (.aload_n 0, 1) := by decide +kernel
theorem dX8_corner_7 : decode cX8_corner 7 = .ok (.getfield 12, 3) := by decide +kernel
theorem dX8_corner_10 : decode cX8_corner 10 = .ok (.iload_n 1, 1) := by decide +kernel
theorem dX8_corner_11 : decode cX8_corner 11 = .ok (.iload_n 2, 1) := by decide +kernel
theorem dX8_corner_12 : decode cX8_corner 12 = .ok (.invokevirtual 153, 3) := by decide +kernel
theorem dX8_corner_15 : decode cX8_corner 15 = .ok (.istore 4, 2) := by decide +kernel
theorem dX8_corner_17 : decode cX8_corner 17 = .ok (.iload_n 3, 1) := by decide +kernel
theorem dX8_corner_18 : decode cX8_corner 18 = .ok (.tableswitch 101 0 5 #[38, 48, 58, 68, 78, 91], 38) := by decide +kernel
theorem dX8_corner_56 : decode cX8_corner 56 = .ok (.aload_n 0, 1) := by decide +kernel
theorem dX8_corner_57 : decode cX8_corner 57 = .ok (.getfield 12, 3) := by decide +kernel
theorem dX8_corner_60 : decode cX8_corner 60 = .ok (.iload 4, 2) := by decide +kernel
theorem dX8_corner_62 : decode cX8_corner 62 = .ok (.invokevirtual 157, 3) := by decide +kernel
theorem dX8_corner_65 : decode cX8_corner 65 = .ok (.ireturn, 1) := by decide +kernel
theorem dX8_corner_66 : decode cX8_corner 66 = .ok (.aload_n 0, 1) := by decide +kernel
theorem dX8_corner_67 : decode cX8_corner 67 = .ok (.getfield 12, 3) := by decide +kernel
theorem dX8_corner_70 : decode cX8_corner 70 = .ok (.iload 4, 2) := by decide +kernel
theorem dX8_corner_72 : decode cX8_corner 72 = .ok (.invokevirtual 160, 3) := by decide +kernel
theorem dX8_corner_75 : decode cX8_corner 75 = .ok (.ireturn, 1) := by decide +kernel
theorem dX8_corner_76 : decode cX8_corner 76 = .ok (.aload_n 0, 1) := by decide +kernel
theorem dX8_corner_77 : decode cX8_corner 77 = .ok (.getfield 12, 3) := by decide +kernel
theorem dX8_corner_80 : decode cX8_corner 80 = .ok (.iload_n 1, 1) := by decide +kernel
theorem dX8_corner_81 : decode cX8_corner 81 = .ok (.iload_n 2, 1) := by decide +kernel
theorem dX8_corner_82 : decode cX8_corner 82 = .ok (.invokestatic 163, 3) := by decide +kernel
theorem dX8_corner_85 : decode cX8_corner 85 = .ok (.ireturn, 1) := by decide +kernel
theorem dX8_corner_86 : decode cX8_corner 86 = .ok (.aload_n 0, 1) := by decide +kernel
theorem dX8_corner_87 : decode cX8_corner 87 = .ok (.getfield 12, 3) := by decide +kernel
theorem dX8_corner_90 : decode cX8_corner 90 = .ok (.iload 4, 2) := by decide +kernel
theorem dX8_corner_92 : decode cX8_corner 92 = .ok (.invokestatic 167, 3) := by decide +kernel
theorem dX8_corner_95 : decode cX8_corner 95 = .ok (.ireturn, 1) := by decide +kernel
theorem dX8_corner_96 : decode cX8_corner 96 = .ok (.aload_n 0, 1) := by decide +kernel
theorem dX8_corner_97 : decode cX8_corner 97 = .ok (.getfield 12, 3) := by decide +kernel
theorem dX8_corner_100 : decode cX8_corner 100 = .ok (.iload_n 1, 1) := by decide +kernel
theorem dX8_corner_101 : decode cX8_corner 101 = .ok (.iload_n 2, 1) := by decide +kernel
theorem dX8_corner_102 : decode cX8_corner 102 = .ok (.invokevirtual 170, 3) := by decide +kernel
theorem dX8_corner_105 : decode cX8_corner 105 = .ok (.invokestatic 173, 3) := by decide +kernel
theorem dX8_corner_108 : decode cX8_corner 108 = .ok (.ireturn, 1) := by decide +kernel
theorem dX8_corner_109 : decode cX8_corner 109 = .ok (.aload_n 0, 1) := by decide +kernel
theorem dX8_corner_110 : decode cX8_corner 110 = .ok (.getfield 12, 3) := by decide +kernel
theorem dX8_corner_113 : decode cX8_corner 113 = .ok (.iload 4, 2) := by decide +kernel
theorem dX8_corner_115 : decode cX8_corner 115 = .ok (.invokevirtual 178, 3) := by decide +kernel
theorem dX8_corner_118 : decode cX8_corner 118 = .ok (.ireturn, 1) := by decide +kernel
theorem dX8_corner_119 : decode cX8_corner 119 = .ok (.new 56, 3) := by decide +kernel
theorem dX8_corner_122 : decode cX8_corner 122 = .ok (.dup, 1) := by decide +kernel
theorem dX8_corner_123 : decode cX8_corner 123 = .ok (.ldc 148, 2) := by decide +kernel
theorem dX8_corner_125 : decode cX8_corner 125 = .ok (.invokespecial 60, 3) := by decide +kernel
theorem dX8_corner_128 : decode cX8_corner 128 = .ok (.athrow, 1) := by decide +kernel
theorem dX8_point_0 : decode cX8_point 0 = .ok (.iload_n 1, 1) := by decide +kernel
theorem dX8_point_1 : decode cX8_point 1 = .ok (.iconst 0, 1) := by decide +kernel
theorem dX8_point_2 : decode cX8_point 2 = .ok (.bipush 15, 2) := by decide +kernel
theorem dX8_point_4 : decode cX8_point 4 = .ok (.invokestatic 52, 3) := by decide +kernel
theorem dX8_point_7 : decode cX8_point 7 = .ok (.ifCond .eq 13, 3) := by decide +kernel
theorem dX8_point_10 : decode cX8_point 10 = .ok (.iload_n 2, 1) := by decide +kernel
theorem dX8_point_11 : decode cX8_point 11 = .ok (.iconst 0, 1) := by decide +kernel
theorem dX8_point_12 : decode cX8_point 12 = .ok (.bipush 15, 2) := by decide +kernel
theorem dX8_point_14 : decode cX8_point 14 = .ok (.invokestatic 52, 3) := by decide +kernel
theorem dX8_point_17 : decode cX8_point 17 = .ok (.ifCond .ne 13, 3) := by decide +kernel
theorem dX8_point_20 : decode cX8_point 20 = .ok (.new 56, 3) := by decide +kernel
theorem dX8_point_23 : decode cX8_point 23 = .ok (.dup, 1) := by decide +kernel
theorem dX8_point_24 : decode cX8_point 24 = .ok (.ldc 181, 2) := by decide +kernel
theorem dX8_point_26 : decode cX8_point 26 = .ok (.invokespecial 60, 3) := by decide +kernel
theorem dX8_point_29 : decode cX8_point 29 = .ok (.athrow, 1) := by decide +kernel
theorem dX8_point_30 : decode cX8_point 30 = .ok (.aload_n 0, 1) := by decide +kernel
theorem dX8_point_31 : decode cX8_point 31 = .ok (.getfield 12, 3) := by decide +kernel
theorem dX8_point_34 : decode cX8_point 34 = .ok (.iload_n 1, 1) := by decide +kernel
theorem dX8_point_35 : decode cX8_point 35 = .ok (.iload_n 2, 1) := by decide +kernel
theorem dX8_point_36 : decode cX8_point 36 = .ok (.invokevirtual 183, 3) := by decide +kernel
theorem dX8_point_39 : decode cX8_point 39 = .ok (.ireturn, 1) := by decide +kernel
theorem dX8_sees_0 : decode cX8_sees 0 = .ok (.aload_n 0, 1) := by decide +kernel
theorem dX8_sees_1 : decode cX8_sees 1 = .ok (.iload_n 1, 1) := by decide +kernel
theorem dX8_sees_2 : decode cX8_sees 2 = .ok (.iload_n 2, 1) := by decide +kernel
theorem dX8_sees_3 : decode cX8_sees 3 = .ok (.invokevirtual 150, 3) := by decide +kernel
theorem dX8_sees_6 : decode cX8_sees 6 = .ok (.aload_n 0, 1) := by decide +kernel
theorem dX8_sees_7 : decode cX8_sees 7 = .ok (.iload_n 3, 1) := by decide +kernel
theorem dX8_sees_8 : decode cX8_sees 8 = .ok (.iload 4, 2) := by decide +kernel
theorem dX8_sees_10 : decode cX8_sees 10 = .ok (.invokevirtual 150, 3) := by decide +kernel
theorem dX8_sees_13 : decode cX8_sees 13 = .ok (.aload_n 0, 1) := by decide +kernel
theorem dX8_sees_14 : decode cX8_sees 14 = .ok (.getfield 12, 3) := by decide +kernel
theorem dX8_sees_17 : decode cX8_sees 17 = .ok (.aload_n 0, 1) := by decide +kernel
theorem dX8_sees_18 : decode cX8_sees 18 = .ok (.getfield 12, 3) := by decide +kernel
theorem dX8_sees_21 : decode cX8_sees 21 = .ok (.iload_n 1, 1) := by decide +kernel
theorem dX8_sees_22 : decode cX8_sees 22 = .ok (.iload_n 2, 1) := by decide +kernel
theorem dX8_sees_23 : decode cX8_sees 23 = .ok (.invokevirtual 153, 3) := by decide +kernel
theorem dX8_sees_26 : decode cX8_sees 26 = .ok (.aload_n 0, 1) := by decide +kernel
theorem dX8_sees_27 : decode cX8_sees 27 = .ok (.getfield 12, 3) := by decide +kernel
theorem dX8_sees_30 : decode cX8_sees 30 = .ok (.iload_n 3, 1) := by decide +kernel
theorem dX8_sees_31 : decode cX8_sees 31 = .ok (.iload 4, 2) := by decide +kernel
theorem dX8_sees_33 : decode cX8_sees 33 = .ok (.invokevirtual 153, 3) := by decide +kernel
theorem dX8_sees_36 : decode cX8_sees 36 = .ok (.invokestatic 186, 3) := by decide +kernel
theorem dX8_sees_39 : decode cX8_sees 39 = .ok (.ireturn, 1) := by decide +kernel
theorem dX8_move_0 : decode cX8_move 0 = .ok (.aload_n 0, 1) := by decide +kernel
theorem dX8_move_1 : decode cX8_move 1 = .ok (.iload_n 1, 1) := by decide +kernel
theorem dX8_move_2 : decode cX8_move 2 = .ok (.iload_n 2, 1) := by decide +kernel
theorem dX8_move_3 : decode cX8_move 3 = .ok (.invokevirtual 150, 3) := by decide +kernel
theorem dX8_move_6 : decode cX8_move 6 = .ok (.aload_n 0, 1) := by decide +kernel
theorem dX8_move_7 : decode cX8_move 7 = .ok (.getfield 16, 3) := by decide +kernel
theorem dX8_move_10 : decode cX8_move 10 = .ok (.aload_n 0, 1) := by decide +kernel
theorem dX8_move_11 : decode cX8_move 11 = .ok (.getfield 12, 3) := by decide +kernel
theorem dX8_move_14 : decode cX8_move 14 = .ok (.invokevirtual 82, 3) := by decide +kernel
theorem dX8_move_17 : decode cX8_move 17 = .ok (.aload_n 0, 1) := by decide +kernel
theorem dX8_move_18 : decode cX8_move 18 = .ok (.getfield 16, 3) := by decide +kernel
theorem dX8_move_21 : decode cX8_move 21 = .ok (.iload_n 1, 1) := by decide +kernel
theorem dX8_move_22 : decode cX8_move 22 = .ok (.iload_n 2, 1) := by decide +kernel
theorem dX8_move_23 : decode cX8_move 23 = .ok (.iload_n 3, 1) := by decide +kernel
theorem dX8_move_24 : decode cX8_move 24 = .ok (.iload 4, 2) := by decide +kernel
theorem dX8_move_26 : decode cX8_move 26 = .ok (.invokestatic 190, 3) := by decide +kernel
theorem dX8_move_29 : decode cX8_move 29 = .ok (.ifCond .ne 13, 3) := by decide +kernel
theorem dX8_move_32 : decode cX8_move 32 = .ok (.new 67, 3) := by decide +kernel
theorem dX8_move_35 : decode cX8_move 35 = .ok (.dup, 1) := by decide +kernel
theorem dX8_move_36 : decode cX8_move 36 = .ok (.ldc 196, 2) := by decide +kernel
theorem dX8_move_38 : decode cX8_move 38 = .ok (.invokespecial 71, 3) := by decide +kernel
theorem dX8_move_41 : decode cX8_move 41 = .ok (.athrow, 1) := by decide +kernel
theorem dX8_move_42 : decode cX8_move 42 = .ok (.aload_n 0, 1) := by decide +kernel
theorem dX8_move_43 : decode cX8_move 43 = .ok (.invokevirtual 198, 3) := by decide +kernel
theorem dX8_move_46 : decode cX8_move 46 = .ok (.aload_n 0, 1) := by decide +kernel
theorem dX8_move_47 : decode cX8_move 47 = .ok (.getfield 12, 3) := by decide +kernel
theorem dX8_move_50 : decode cX8_move 50 = .ok (.invokestatic 95, 3) := by decide +kernel
theorem dX8_move_53 : decode cX8_move 53 = .ok (.ireturn, 1) := by decide +kernel
theorem dX8_insert_0 : decode cX8_insert 0 = .ok (.aload_n 0, 1) := by decide +kernel
theorem dX8_insert_1 : decode cX8_insert 1 = .ok (.iload_n 1, 1) := by decide +kernel
theorem dX8_insert_2 : decode cX8_insert 2 = .ok (.iload_n 2, 1) := by decide +kernel
theorem dX8_insert_3 : decode cX8_insert 3 = .ok (.invokevirtual 150, 3) := by decide +kernel
theorem dX8_insert_6 : decode cX8_insert 6 = .ok (.aload_n 0, 1) := by decide +kernel
theorem dX8_insert_7 : decode cX8_insert 7 = .ok (.getfield 16, 3) := by decide +kernel
theorem dX8_insert_10 : decode cX8_insert 10 = .ok (.aload_n 0, 1) := by decide +kernel
theorem dX8_insert_11 : decode cX8_insert 11 = .ok (.getfield 12, 3) := by decide +kernel
theorem dX8_insert_14 : decode cX8_insert 14 = .ok (.invokevirtual 82, 3) := by decide +kernel
theorem dX8_insert_17 : decode cX8_insert 17 = .ok (.aload_n 0, 1) := by decide +kernel
theorem dX8_insert_18 : decode cX8_insert 18 = .ok (.getfield 16, 3) := by decide +kernel
theorem dX8_insert_21 : decode cX8_insert 21 = .ok (.iload_n 1, 1) := by decide +kernel
theorem dX8_insert_22 : decode cX8_insert 22 = .ok (.iload_n 2, 1) := by decide +kernel
theorem dX8_insert_23 : decode cX8_insert 23 = .ok (.iload_n 3, 1) := by decide +kernel
theorem dX8_insert_24 : decode cX8_insert 24 = .ok (.iload 4, 2) := by decide +kernel
theorem dX8_insert_26 : decode cX8_insert 26 = .ok (.invokestatic 201, 3) := by decide +kernel
theorem dX8_insert_29 : decode cX8_insert 29 = .ok (.ifCond .ne 13, 3) := by decide +kernel
theorem dX8_insert_32 : decode cX8_insert 32 = .ok (.new 67, 3) := by decide +kernel
theorem dX8_insert_35 : decode cX8_insert 35 = .ok (.dup, 1) := by decide +kernel
theorem dX8_insert_36 : decode cX8_insert 36 = .ok (.ldc 204, 2) := by decide +kernel
theorem dX8_insert_38 : decode cX8_insert 38 = .ok (.invokespecial 71, 3) := by decide +kernel
theorem dX8_insert_41 : decode cX8_insert 41 = .ok (.athrow, 1) := by decide +kernel
theorem dX8_insert_42 : decode cX8_insert 42 = .ok (.aload_n 0, 1) := by decide +kernel
theorem dX8_insert_43 : decode cX8_insert 43 = .ok (.invokevirtual 198, 3) := by decide +kernel
theorem dX8_insert_46 : decode cX8_insert 46 = .ok (.aload_n 0, 1) := by decide +kernel
theorem dX8_insert_47 : decode cX8_insert 47 = .ok (.getfield 12, 3) := by decide +kernel
theorem dX8_insert_50 : decode cX8_insert 50 = .ok (.invokestatic 95, 3) := by decide +kernel
theorem dX8_insert_53 : decode cX8_insert 53 = .ok (.ireturn, 1) := by decide +kernel
theorem dX8_remove_0 : decode cX8_remove 0 = .ok (.aload_n 0, 1) := by decide +kernel
theorem dX8_remove_1 : decode cX8_remove 1 = .ok (.iload_n 1, 1) := by decide +kernel
theorem dX8_remove_2 : decode cX8_remove 2 = .ok (.iload_n 2, 1) := by decide +kernel
theorem dX8_remove_3 : decode cX8_remove 3 = .ok (.invokevirtual 150, 3) := by decide +kernel
theorem dX8_remove_6 : decode cX8_remove 6 = .ok (.aload_n 0, 1) := by decide +kernel
theorem dX8_remove_7 : decode cX8_remove 7 = .ok (.getfield 16, 3) := by decide +kernel
theorem dX8_remove_10 : decode cX8_remove 10 = .ok (.aload_n 0, 1) := by decide +kernel
theorem dX8_remove_11 : decode cX8_remove 11 = .ok (.getfield 12, 3) := by decide +kernel
theorem dX8_remove_14 : decode cX8_remove 14 = .ok (.invokevirtual 82, 3) := by decide +kernel
theorem dX8_remove_17 : decode cX8_remove 17 = .ok (.aload_n 0, 1) := by decide +kernel
theorem dX8_remove_18 : decode cX8_remove 18 = .ok (.getfield 16, 3) := by decide +kernel
theorem dX8_remove_21 : decode cX8_remove 21 = .ok (.iload_n 1, 1) := by decide +kernel
theorem dX8_remove_22 : decode cX8_remove 22 = .ok (.iload_n 2, 1) := by decide +kernel
theorem dX8_remove_23 : decode cX8_remove 23 = .ok (.invokestatic 206, 3) := by decide +kernel
theorem dX8_remove_26 : decode cX8_remove 26 = .ok (.ifCond .ne 13, 3) := by decide +kernel
theorem dX8_remove_29 : decode cX8_remove 29 = .ok (.new 67, 3) := by decide +kernel
theorem dX8_remove_32 : decode cX8_remove 32 = .ok (.dup, 1) := by decide +kernel
theorem dX8_remove_33 : decode cX8_remove 33 = .ok (.ldc 209, 2) := by decide +kernel
theorem dX8_remove_35 : decode cX8_remove 35 = .ok (.invokespecial 71, 3) := by decide +kernel
theorem dX8_remove_38 : decode cX8_remove 38 = .ok (.athrow, 1) := by decide +kernel
theorem dX8_remove_39 : decode cX8_remove 39 = .ok (.aload_n 0, 1) := by decide +kernel
theorem dX8_remove_40 : decode cX8_remove 40 = .ok (.invokevirtual 198, 3) := by decide +kernel
theorem dX8_remove_43 : decode cX8_remove 43 = .ok (.aload_n 0, 1) := by decide +kernel
theorem dX8_remove_44 : decode cX8_remove 44 = .ok (.getfield 12, 3) := by decide +kernel
theorem dX8_remove_47 : decode cX8_remove 47 = .ok (.invokestatic 95, 3) := by decide +kernel
theorem dX8_remove_50 : decode cX8_remove 50 = .ok (.ireturn, 1) := by decide +kernel
theorem dX8_addHole_0 : decode cX8_addHole 0 = .ok (.iload_n 1, 1) := by decide +kernel
theorem dX8_addHole_1 : decode cX8_addHole 1 = .ok (.iconst 0, 1) := by decide +kernel
theorem dX8_addHole_2 : decode cX8_addHole 2 = .ok (.bipush 14, 2) := by decide +kernel
theorem dX8_addHole_4 : decode cX8_addHole 4 = .ok (.invokestatic 52, 3) := by decide +kernel
theorem dX8_addHole_7 : decode cX8_addHole 7 = .ok (.ifCond .eq 13, 3) := by decide +kernel
theorem dX8_addHole_10 : decode cX8_addHole 10 = .ok (.iload_n 2, 1) := by decide +kernel
theorem dX8_addHole_11 : decode cX8_addHole 11 = .ok (.iconst 0, 1) := by decide +kernel
theorem dX8_addHole_12 : decode cX8_addHole 12 = .ok (.bipush 14, 2) := by decide +kernel
theorem dX8_addHole_14 : decode cX8_addHole 14 = .ok (.invokestatic 52, 3) := by decide +kernel
theorem dX8_addHole_17 : decode cX8_addHole 17 = .ok (.ifCond .ne 13, 3) := by decide +kernel
theorem dX8_addHole_20 : decode cX8_addHole 20 = .ok (.new 56, 3) := by decide +kernel
theorem dX8_addHole_23 : decode cX8_addHole 23 = .ok (.dup, 1) := by decide +kernel
theorem dX8_addHole_24 : decode cX8_addHole 24 = .ok (.ldc 211, 2) := by decide +kernel
theorem dX8_addHole_26 : decode cX8_addHole 26 = .ok (.invokespecial 60, 3) := by decide +kernel
theorem dX8_addHole_29 : decode cX8_addHole 29 = .ok (.athrow, 1) := by decide +kernel
theorem dX8_addHole_30 : decode cX8_addHole 30 = .ok (.aload_n 0, 1) := by decide +kernel
theorem dX8_addHole_31 : decode cX8_addHole 31 = .ok (.getfield 16, 3) := by decide +kernel
theorem dX8_addHole_34 : decode cX8_addHole 34 = .ok (.aload_n 0, 1) := by decide +kernel
theorem dX8_addHole_35 : decode cX8_addHole 35 = .ok (.getfield 12, 3) := by decide +kernel
theorem dX8_addHole_38 : decode cX8_addHole 38 = .ok (.invokevirtual 82, 3) := by decide +kernel
theorem dX8_addHole_41 : decode cX8_addHole 41 = .ok (.aload_n 0, 1) := by decide +kernel
theorem dX8_addHole_42 : decode cX8_addHole 42 = .ok (.getfield 16, 3) := by decide +kernel
theorem dX8_addHole_45 : decode cX8_addHole 45 = .ok (.iload_n 1, 1) := by decide +kernel
theorem dX8_addHole_46 : decode cX8_addHole 46 = .ok (.iload_n 2, 1) := by decide +kernel
theorem dX8_addHole_47 : decode cX8_addHole 47 = .ok (.invokestatic 213, 3) := by decide +kernel
theorem dX8_addHole_50 : decode cX8_addHole 50 = .ok (.ifCond .ne 13, 3) := by decide +kernel
theorem dX8_addHole_53 : decode cX8_addHole 53 = .ok (.new 67, 3) := by decide +kernel
theorem dX8_addHole_56 : decode cX8_addHole 56 = .ok (.dup, 1) := by decide +kernel
theorem dX8_addHole_57 : decode cX8_addHole 57 = .ok (.ldc 216, 2) := by decide +kernel
theorem dX8_addHole_59 : decode cX8_addHole 59 = .ok (.invokespecial 71, 3) := by decide +kernel
theorem dX8_addHole_62 : decode cX8_addHole 62 = .ok (.athrow, 1) := by decide +kernel
theorem dX8_addHole_63 : decode cX8_addHole 63 = .ok (.aload_n 0, 1) := by decide +kernel
theorem dX8_addHole_64 : decode cX8_addHole 64 = .ok (.invokevirtual 198, 3) := by decide +kernel
theorem dX8_addHole_67 : decode cX8_addHole 67 = .ok (.aload_n 0, 1) := by decide +kernel
theorem dX8_addHole_68 : decode cX8_addHole 68 = .ok (.getfield 12, 3) := by decide +kernel
theorem dX8_addHole_71 : decode cX8_addHole 71 = .ok (.getfield 89, 3) := by decide +kernel
theorem dX8_addHole_74 : decode cX8_addHole 74 = .ok (.iconst 1, 1) := by decide +kernel
theorem dX8_addHole_75 : decode cX8_addHole 75 = .ok (.isub, 1) := by decide +kernel
theorem dX8_addHole_76 : decode cX8_addHole 76 = .ok (.ireturn, 1) := by decide +kernel
theorem dX8_dropHole_0 : decode cX8_dropHole 0 = .ok (.aload_n 0, 1) := by decide +kernel
theorem dX8_dropHole_1 : decode cX8_dropHole 1 = .ok (.iload_n 1, 1) := by decide +kernel
theorem dX8_dropHole_2 : decode cX8_dropHole 2 = .ok (.invokevirtual 123, 3) := by decide +kernel
theorem dX8_dropHole_5 : decode cX8_dropHole 5 = .ok (.iload_n 1, 1) := by decide +kernel
theorem dX8_dropHole_6 : decode cX8_dropHole 6 = .ok (.ifCond .ne 13, 3) := by decide +kernel
theorem dX8_dropHole_9 : decode cX8_dropHole 9 = .ok (.new 67, 3) := by decide +kernel
theorem dX8_dropHole_12 : decode cX8_dropHole 12 = .ok (.dup, 1) := by decide +kernel
theorem dX8_dropHole_13 : decode cX8_dropHole 13 = .ok (.ldc 218, 2) := by decide +kernel
theorem dX8_dropHole_15 : decode cX8_dropHole 15 = .ok (.invokespecial 71, 3) := by decide +kernel
theorem dX8_dropHole_18 : decode cX8_dropHole 18 = .ok (.athrow, 1) := by decide +kernel
theorem dX8_dropHole_19 : decode cX8_dropHole 19 = .ok (.aload_n 0, 1) := by decide +kernel
theorem dX8_dropHole_20 : decode cX8_dropHole 20 = .ok (.getfield 16, 3) := by decide +kernel
theorem dX8_dropHole_23 : decode cX8_dropHole 23 = .ok (.aload_n 0, 1) := by decide +kernel
theorem dX8_dropHole_24 : decode cX8_dropHole 24 = .ok (.getfield 12, 3) := by decide +kernel
theorem dX8_dropHole_27 : decode cX8_dropHole 27 = .ok (.invokevirtual 82, 3) := by decide +kernel
theorem dX8_dropHole_30 : decode cX8_dropHole 30 = .ok (.aload_n 0, 1) := by decide +kernel
theorem dX8_dropHole_31 : decode cX8_dropHole 31 = .ok (.getfield 16, 3) := by decide +kernel
theorem dX8_dropHole_34 : decode cX8_dropHole 34 = .ok (.iload_n 1, 1) := by decide +kernel
theorem dX8_dropHole_35 : decode cX8_dropHole 35 = .ok (.invokevirtual 220, 3) := by decide +kernel
theorem dX8_dropHole_38 : decode cX8_dropHole 38 = .ok (.aload_n 0, 1) := by decide +kernel
theorem dX8_dropHole_39 : decode cX8_dropHole 39 = .ok (.invokevirtual 198, 3) := by decide +kernel
theorem dX8_dropHole_42 : decode cX8_dropHole 42 = .ok (.aload_n 0, 1) := by decide +kernel
theorem dX8_dropHole_43 : decode cX8_dropHole 43 = .ok (.getfield 12, 3) := by decide +kernel
theorem dX8_dropHole_46 : decode cX8_dropHole 46 = .ok (.invokestatic 95, 3) := by decide +kernel
theorem dX8_dropHole_49 : decode cX8_dropHole 49 = .ok (.ireturn, 1) := by decide +kernel
theorem dX8_shift_0 : decode cX8_shift 0 = .ok (.iload_n 1, 1) := by decide +kernel
theorem dX8_shift_1 : decode cX8_shift 1 = .ok (.bipush (-15), 2) := by decide +kernel
theorem dX8_shift_3 : decode cX8_shift 3 = .ok (.bipush 15, 2) := by decide +kernel
theorem dX8_shift_5 : decode cX8_shift 5 = .ok (.invokestatic 52, 3) := by decide +kernel
theorem dX8_shift_8 : decode cX8_shift 8 = .ok (.ifCond .eq 14, 3) := by decide +kernel
theorem dX8_shift_11 : decode cX8_shift 11 = .ok (.iload_n 2, 1) := by decide +kernel
theorem dX8_shift_12 : decode cX8_shift 12 = .ok (.bipush (-15), 2) := by decide +kernel
theorem dX8_shift_14 : decode cX8_shift 14 = .ok (.bipush 15, 2) := by decide +kernel
theorem dX8_shift_16 : decode cX8_shift 16 = .ok (.invokestatic 52, 3) := by decide +kernel
theorem dX8_shift_19 : decode cX8_shift 19 = .ok (.ifCond .ne 13, 3) := by decide +kernel
theorem dX8_shift_22 : decode cX8_shift 22 = .ok (.new 56, 3) := by decide +kernel
theorem dX8_shift_25 : decode cX8_shift 25 = .ok (.dup, 1) := by decide +kernel
theorem dX8_shift_26 : decode cX8_shift 26 = .ok (.ldc 223, 2) := by decide +kernel
theorem dX8_shift_28 : decode cX8_shift 28 = .ok (.invokespecial 60, 3) := by decide +kernel
theorem dX8_shift_31 : decode cX8_shift 31 = .ok (.athrow, 1) := by decide +kernel
theorem dX8_shift_32 : decode cX8_shift 32 = .ok (.aload_n 0, 1) := by decide +kernel
theorem dX8_shift_33 : decode cX8_shift 33 = .ok (.getfield 16, 3) := by decide +kernel
theorem dX8_shift_36 : decode cX8_shift 36 = .ok (.aload_n 0, 1) := by decide +kernel
theorem dX8_shift_37 : decode cX8_shift 37 = .ok (.getfield 12, 3) := by decide +kernel
theorem dX8_shift_40 : decode cX8_shift 40 = .ok (.invokevirtual 82, 3) := by decide +kernel
theorem dX8_shift_43 : decode cX8_shift 43 = .ok (.aload_n 0, 1) := by decide +kernel
theorem dX8_shift_44 : decode cX8_shift 44 = .ok (.getfield 16, 3) := by decide +kernel
theorem dX8_shift_47 : decode cX8_shift 47 = .ok (.iload_n 1, 1) := by decide +kernel
theorem dX8_shift_48 : decode cX8_shift 48 = .ok (.iload_n 2, 1) := by decide +kernel
theorem dX8_shift_49 : decode cX8_shift 49 = .ok (.invokestatic 225, 3) := by decide +kernel
theorem dX8_shift_52 : decode cX8_shift 52 = .ok (.ifCond .ne 13, 3) := by decide +kernel
theorem dX8_shift_55 : decode cX8_shift 55 = .ok (.new 67, 3) := by decide +kernel
theorem dX8_shift_58 : decode cX8_shift 58 = .ok (.dup, 1) := by decide +kernel
theorem dX8_shift_59 : decode cX8_shift 59 = .ok (.ldc 228, 2) := by decide +kernel
theorem dX8_shift_61 : decode cX8_shift 61 = .ok (.invokespecial 71, 3) := by decide +kernel
theorem dX8_shift_64 : decode cX8_shift 64 = .ok (.athrow, 1) := by decide +kernel
theorem dX8_shift_65 : decode cX8_shift 65 = .ok (.aload_n 0, 1) := by decide +kernel
theorem dX8_shift_66 : decode cX8_shift 66 = .ok (.invokevirtual 198, 3) := by decide +kernel
theorem dX8_shift_69 : decode cX8_shift 69 = .ok (.aload_n 0, 1) := by decide +kernel
theorem dX8_shift_70 : decode cX8_shift 70 = .ok (.getfield 12, 3) := by decide +kernel
theorem dX8_shift_73 : decode cX8_shift 73 = .ok (.invokestatic 230, 3) := by decide +kernel
theorem dX8_shift_76 : decode cX8_shift 76 = .ok (.ireturn, 1) := by decide +kernel
theorem dX8_turn_0 : decode cX8_turn 0 = .ok (.aload_n 0, 1) := by decide +kernel
theorem dX8_turn_1 : decode cX8_turn 1 = .ok (.getfield 16, 3) := by decide +kernel
theorem dX8_turn_4 : decode cX8_turn 4 = .ok (.aload_n 0, 1) := by decide +kernel
theorem dX8_turn_5 : decode cX8_turn 5 = .ok (.getfield 12, 3) := by decide +kernel
theorem dX8_turn_8 : decode cX8_turn 8 = .ok (.invokevirtual 82, 3) := by decide +kernel
theorem dX8_turn_11 : decode cX8_turn 11 = .ok (.aload_n 0, 1) := by decide +kernel
theorem dX8_turn_12 : decode cX8_turn 12 = .ok (.getfield 16, 3) := by decide +kernel
theorem dX8_turn_15 : decode cX8_turn 15 = .ok (.invokevirtual 233, 3) := by decide +kernel
theorem dX8_turn_18 : decode cX8_turn 18 = .ok (.aload_n 0, 1) := by decide +kernel
theorem dX8_turn_19 : decode cX8_turn 19 = .ok (.invokevirtual 198, 3) := by decide +kernel
theorem dX8_turn_22 : decode cX8_turn 22 = .ok (.aload_n 0, 1) := by decide +kernel
theorem dX8_turn_23 : decode cX8_turn 23 = .ok (.getfield 12, 3) := by decide +kernel
theorem dX8_turn_26 : decode cX8_turn 26 = .ok (.invokestatic 230, 3) := by decide +kernel
theorem dX8_turn_29 : decode cX8_turn 29 = .ok (.ireturn, 1) := by decide +kernel
theorem dX8_mirror_0 : decode cX8_mirror 0 = .ok (.aload_n 0, 1) := by decide +kernel
theorem dX8_mirror_1 : decode cX8_mirror 1 = .ok (.getfield 16, 3) := by decide +kernel
theorem dX8_mirror_4 : decode cX8_mirror 4 = .ok (.aload_n 0, 1) := by decide +kernel
theorem dX8_mirror_5 : decode cX8_mirror 5 = .ok (.getfield 12, 3) := by decide +kernel
theorem dX8_mirror_8 : decode cX8_mirror 8 = .ok (.invokevirtual 82, 3) := by decide +kernel
theorem dX8_mirror_11 : decode cX8_mirror 11 = .ok (.aload_n 0, 1) := by decide +kernel
theorem dX8_mirror_12 : decode cX8_mirror 12 = .ok (.getfield 16, 3) := by decide +kernel
theorem dX8_mirror_15 : decode cX8_mirror 15 = .ok (.invokevirtual 236, 3) := by decide +kernel
theorem dX8_mirror_18 : decode cX8_mirror 18 = .ok (.aload_n 0, 1) := by decide +kernel
theorem dX8_mirror_19 : decode cX8_mirror 19 = .ok (.invokevirtual 198, 3) := by decide +kernel
theorem dX8_mirror_22 : decode cX8_mirror 22 = .ok (.aload_n 0, 1) := by decide +kernel
theorem dX8_mirror_23 : decode cX8_mirror 23 = .ok (.getfield 12, 3) := by decide +kernel
theorem dX8_mirror_26 : decode cX8_mirror 26 = .ok (.invokestatic 230, 3) := by decide +kernel
theorem dX8_mirror_29 : decode cX8_mirror 29 = .ok (.ireturn, 1) := by decide +kernel
theorem dX8_undo_0 : decode cX8_undo 0 = .ok (.aload_n 0, 1) := by decide +kernel
theorem dX8_undo_1 : decode cX8_undo 1 = .ok (.getfield 22, 3) := by decide +kernel
theorem dX8_undo_4 : decode cX8_undo 4 = .ok (.getfield 239, 3) := by decide +kernel
theorem dX8_undo_7 : decode cX8_undo 7 = .ok (.ifCond .ne 13, 3) := by decide +kernel
theorem dX8_undo_10 : decode cX8_undo 10 = .ok (.new 67, 3) := by decide +kernel
theorem dX8_undo_13 : decode cX8_undo 13 = .ok (.dup, 1) := by decide +kernel
theorem dX8_undo_14 : decode cX8_undo 14 = .ok (.ldc 242, 2) := by decide +kernel
theorem dX8_undo_16 : decode cX8_undo 16 = .ok (.invokespecial 71, 3) := by decide +kernel
theorem dX8_undo_19 : decode cX8_undo 19 = .ok (.athrow, 1) := by decide +kernel
theorem dX8_undo_20 : decode cX8_undo 20 = .ok (.aload_n 0, 1) := by decide +kernel
theorem dX8_undo_21 : decode cX8_undo 21 = .ok (.getfield 22, 3) := by decide +kernel
theorem dX8_undo_24 : decode cX8_undo 24 = .ok (.aload_n 0, 1) := by decide +kernel
theorem dX8_undo_25 : decode cX8_undo 25 = .ok (.getfield 12, 3) := by decide +kernel
theorem dX8_undo_28 : decode cX8_undo 28 = .ok (.invokevirtual 244, 3) := by decide +kernel
theorem dX8_undo_31 : decode cX8_undo 31 = .ok (.aload_n 0, 1) := by decide +kernel
theorem dX8_undo_32 : decode cX8_undo 32 = .ok (.getfield 22, 3) := by decide +kernel
theorem dX8_undo_35 : decode cX8_undo 35 = .ok (.getfield 239, 3) := by decide +kernel
theorem dX8_undo_38 : decode cX8_undo 38 = .ok (.ireturn, 1) := by decide +kernel
theorem dX8_whyNot_0 : decode cX8_whyNot 0 = .ok (.aload_n 0, 1) := by decide +kernel
theorem dX8_whyNot_1 : decode cX8_whyNot 1 = .ok (.iload_n 1, 1) := by decide +kernel
theorem dX8_whyNot_2 : decode cX8_whyNot 2 = .ok (.iload_n 2, 1) := by decide +kernel
theorem dX8_whyNot_3 : decode cX8_whyNot 3 = .ok (.invokevirtual 150, 3) := by decide +kernel
theorem dX8_whyNot_6 : decode cX8_whyNot 6 = .ok (.aload_n 0, 1) := by decide +kernel
theorem dX8_whyNot_7 : decode cX8_whyNot 7 = .ok (.getfield 16, 3) := by decide +kernel
theorem dX8_whyNot_10 : decode cX8_whyNot 10 = .ok (.aload_n 0, 1) := by decide +kernel
theorem dX8_whyNot_11 : decode cX8_whyNot 11 = .ok (.getfield 12, 3) := by decide +kernel
theorem dX8_whyNot_14 : decode cX8_whyNot 14 = .ok (.invokevirtual 82, 3) := by decide +kernel
theorem dX8_whyNot_17 : decode cX8_whyNot 17 = .ok (.aload_n 0, 1) := by decide +kernel
theorem dX8_whyNot_18 : decode cX8_whyNot 18 = .ok (.getfield 16, 3) := by decide +kernel
theorem dX8_whyNot_21 : decode cX8_whyNot 21 = .ok (.aload_n 0, 1) := by decide +kernel
theorem dX8_whyNot_22 : decode cX8_whyNot 22 = .ok (.getfield 16, 3) := by decide +kernel
theorem dX8_whyNot_25 : decode cX8_whyNot 25 = .ok (.iload_n 1, 1) := by decide +kernel
theorem dX8_whyNot_26 : decode cX8_whyNot 26 = .ok (.iload_n 2, 1) := by decide +kernel
theorem dX8_whyNot_27 : decode cX8_whyNot 27 = .ok (.invokevirtual 153, 3) := by decide +kernel
theorem dX8_whyNot_30 : decode cX8_whyNot 30 = .ok (.iload_n 3, 1) := by decide +kernel
theorem dX8_whyNot_31 : decode cX8_whyNot 31 = .ok (.iload 4, 2) := by decide +kernel
theorem dX8_whyNot_33 : decode cX8_whyNot 33 = .ok (.invokevirtual 247, 3) := by decide +kernel
theorem dX8_whyNot_36 : decode cX8_whyNot 36 = .ok (.aload_n 0, 1) := by decide +kernel
theorem dX8_whyNot_37 : decode cX8_whyNot 37 = .ok (.getfield 16, 3) := by decide +kernel
theorem dX8_whyNot_40 : decode cX8_whyNot 40 = .ok (.invokestatic 251, 3) := by decide +kernel
theorem dX8_whyNot_43 : decode cX8_whyNot 43 = .ok (.ireturn, 1) := by decide +kernel
theorem dX8_cut_0 : decode cX8_cut 0 = .ok (.aload_n 0, 1) := by decide +kernel
theorem dX8_cut_1 : decode cX8_cut 1 = .ok (.iconst 0, 1) := by decide +kernel
theorem dX8_cut_2 : decode cX8_cut 2 = .ok (.iload_n 1, 1) := by decide +kernel
theorem dX8_cut_3 : decode cX8_cut 3 = .ok (.invokevirtual 150, 3) := by decide +kernel
theorem dX8_cut_6 : decode cX8_cut 6 = .ok (.aload_n 0, 1) := by decide +kernel
theorem dX8_cut_7 : decode cX8_cut 7 = .ok (.getfield 12, 3) := by decide +kernel
theorem dX8_cut_10 : decode cX8_cut 10 = .ok (.iload_n 1, 1) := by decide +kernel
theorem dX8_cut_11 : decode cX8_cut 11 = .ok (.invokestatic 256, 3) := by decide +kernel
theorem dX8_cut_14 : decode cX8_cut 14 = .ok (.ifCond .eq 18, 3) := by decide +kernel
theorem dX8_cut_17 : decode cX8_cut 17 = .ok (.aload_n 0, 1) := by decide +kernel
theorem dX8_cut_18 : decode cX8_cut 18 = .ok (.getfield 12, 3) := by decide +kernel
theorem dX8_cut_21 : decode cX8_cut 21 = .ok (.iconst 0, 1) := by decide +kernel
theorem dX8_cut_22 : decode cX8_cut 22 = .ok (.iload_n 1, 1) := by decide +kernel
theorem dX8_cut_23 : decode cX8_cut 23 = .ok (.invokevirtual 170, 3) := by decide +kernel
theorem dX8_cut_26 : decode cX8_cut 26 = .ok (.invokestatic 173, 3) := by decide +kernel
theorem dX8_cut_29 : decode cX8_cut 29 = .ok (.goto 5, 3) := by decide +kernel
theorem dX8_cut_32 : decode cX8_cut 32 = .ok (.bipush (-9), 2) := by decide +kernel
theorem dX8_cut_34 : decode cX8_cut 34 = .ok (.ireturn, 1) := by decide +kernel
theorem dX8_bestMove_0 : decode cX8_bestMove 0 = .ok (.bipush (-9), 2) := by decide +kernel
theorem dX8_bestMove_2 : decode cX8_bestMove 2 = .ok (.istore_n 1, 1) := by decide +kernel
theorem dX8_bestMove_3 : decode cX8_bestMove 3 = .ok (.bipush (-9), 2) := by decide +kernel
theorem dX8_bestMove_5 : decode cX8_bestMove 5 = .ok (.istore_n 2, 1) := by decide +kernel
theorem dX8_bestMove_6 : decode cX8_bestMove 6 = .ok (.iconst 0, 1) := by decide +kernel
theorem dX8_bestMove_7 : decode cX8_bestMove 7 = .ok (.istore_n 3, 1) := by decide +kernel
theorem dX8_bestMove_8 : decode cX8_bestMove 8 = .ok (.iload_n 3, 1) := by decide +kernel
theorem dX8_bestMove_9 : decode cX8_bestMove 9 = .ok (.aload_n 0, 1) := by decide +kernel
theorem dX8_bestMove_10 : decode cX8_bestMove 10 = .ok (.getfield 12, 3) := by decide +kernel
theorem dX8_bestMove_13 : decode cX8_bestMove 13 = .ok (.iconst 0, 1) := by decide +kernel
theorem dX8_bestMove_14 : decode cX8_bestMove 14 = .ok (.invokevirtual 126, 3) := by decide +kernel
theorem dX8_bestMove_17 : decode cX8_bestMove 17 = .ok (.if_icmp .ge 79, 3) := by decide +kernel
theorem dX8_bestMove_20 : decode cX8_bestMove 20 = .ok (.iconst 0, 1) := by decide +kernel
theorem dX8_bestMove_21 : decode cX8_bestMove 21 = .ok (.istore 4, 2) := by decide +kernel
theorem dX8_bestMove_23 : decode cX8_bestMove 23 = .ok (.iload 4, 2) := by decide +kernel
theorem dX8_bestMove_25 : decode cX8_bestMove 25 = .ok (.iconst 4, 1) := by decide +kernel
theorem dX8_bestMove_26 : decode cX8_bestMove 26 = .ok (.if_icmp .ge 64, 3) := by decide +kernel
theorem dX8_bestMove_29 : decode cX8_bestMove 29 = .ok (.aload_n 0, 1) := by decide +kernel
theorem dX8_bestMove_30 : decode cX8_bestMove 30 = .ok (.getfield 16, 3) := by decide +kernel
theorem dX8_bestMove_33 : decode cX8_bestMove 33 = .ok (.aload_n 0, 1) := by decide +kernel
theorem dX8_bestMove_34 : decode cX8_bestMove 34 = .ok (.getfield 12, 3) := by decide +kernel
theorem dX8_bestMove_37 : decode cX8_bestMove 37 = .ok (.invokevirtual 82, 3) := by decide +kernel
theorem dX8_bestMove_40 : decode cX8_bestMove 40 = .ok (.aload_n 0, 1) := by decide +kernel
theorem dX8_bestMove_41 : decode cX8_bestMove 41 = .ok (.getfield 16, 3) := by decide +kernel
theorem dX8_bestMove_44 : decode cX8_bestMove 44 = .ok (.iload_n 3, 1) := by decide +kernel
theorem dX8_bestMove_45 : decode cX8_bestMove 45 = .ok (.iload 4, 2) := by decide +kernel
theorem dX8_bestMove_47 : decode cX8_bestMove 47 = .ok (.invokestatic 260, 3) := by decide +kernel
theorem dX8_bestMove_50 : decode cX8_bestMove 50 = .ok (.ifCond .eq 13, 3) := by decide +kernel
theorem dX8_bestMove_53 : decode cX8_bestMove 53 = .ok (.aload_n 0, 1) := by decide +kernel
theorem dX8_bestMove_54 : decode cX8_bestMove 54 = .ok (.getfield 16, 3) := by decide +kernel
theorem dX8_bestMove_57 : decode cX8_bestMove 57 = .ok (.invokestatic 95, 3) := by decide +kernel
theorem dX8_bestMove_60 : decode cX8_bestMove 60 = .ok (.goto 5, 3) := by decide +kernel
theorem dX8_bestMove_63 : decode cX8_bestMove 63 = .ok (.bipush (-9), 2) := by decide +kernel
theorem dX8_bestMove_65 : decode cX8_bestMove 65 = .ok (.istore 5, 2) := by decide +kernel
theorem dX8_bestMove_67 : decode cX8_bestMove 67 = .ok (.iload 5, 2) := by decide +kernel
theorem dX8_bestMove_69 : decode cX8_bestMove 69 = .ok (.iload_n 2, 1) := by decide +kernel
theorem dX8_bestMove_70 : decode cX8_bestMove 70 = .ok (.if_icmp .le 14, 3) := by decide +kernel
theorem dX8_bestMove_73 : decode cX8_bestMove 73 = .ok (.iload 5, 2) := by decide +kernel
theorem dX8_bestMove_75 : decode cX8_bestMove 75 = .ok (.istore_n 2, 1) := by decide +kernel
theorem dX8_bestMove_76 : decode cX8_bestMove 76 = .ok (.bipush 10, 2) := by decide +kernel
theorem dX8_bestMove_78 : decode cX8_bestMove 78 = .ok (.iload_n 3, 1) := by decide +kernel
theorem dX8_bestMove_79 : decode cX8_bestMove 79 = .ok (.imul, 1) := by decide +kernel
theorem dX8_bestMove_80 : decode cX8_bestMove 80 = .ok (.iload 4, 2) := by decide +kernel
theorem dX8_bestMove_82 : decode cX8_bestMove 82 = .ok (.iadd, 1) := by decide +kernel
theorem dX8_bestMove_83 : decode cX8_bestMove 83 = .ok (.istore_n 1, 1) := by decide +kernel
theorem dX8_bestMove_84 : decode cX8_bestMove 84 = .ok (.iinc 4 1, 3) := by decide +kernel
theorem dX8_bestMove_87 : decode cX8_bestMove 87 = .ok (.goto (-64), 3) := by decide +kernel
theorem dX8_bestMove_90 : decode cX8_bestMove 90 = .ok (.iinc 3 1, 3) := by decide +kernel
theorem dX8_bestMove_93 : decode cX8_bestMove 93 = .ok (.goto (-85), 3) := by decide +kernel
theorem dX8_bestMove_96 : decode cX8_bestMove 96 = .ok (.iload_n 1, 1) := by decide +kernel
theorem dX8_bestMove_97 : decode cX8_bestMove 97 = .ok (.ireturn, 1) := by decide +kernel
theorem dX8_inRow_0 : decode cX8_inRow 0 = .ok (.iload_n 1, 1) := by decide +kernel
theorem dX8_inRow_1 : decode cX8_inRow 1 = .ok (.iconst 0, 1) := by decide +kernel
theorem dX8_inRow_2 : decode cX8_inRow 2 = .ok (.bipush 15, 2) := by decide +kernel
theorem dX8_inRow_4 : decode cX8_inRow 4 = .ok (.invokestatic 52, 3) := by decide +kernel
theorem dX8_inRow_7 : decode cX8_inRow 7 = .ok (.ifCond .ne 14, 3) := by decide +kernel
theorem dX8_inRow_10 : decode cX8_inRow 10 = .ok (.new 56, 3) := by decide +kernel
theorem dX8_inRow_13 : decode cX8_inRow 13 = .ok (.dup, 1) := by decide +kernel
theorem dX8_inRow_14 : decode cX8_inRow 14 = .ok (.ldc_w 263, 3) := by decide +kernel
theorem dX8_inRow_17 : decode cX8_inRow 17 = .ok (.invokespecial 60, 3) := by decide +kernel
theorem dX8_inRow_20 : decode cX8_inRow 20 = .ok (.athrow, 1) := by decide +kernel
theorem dX8_inRow_21 : decode cX8_inRow 21 = .ok (.iconst 0, 1) := by decide +kernel
theorem dX8_inRow_22 : decode cX8_inRow 22 = .ok (.istore_n 3, 1) := by decide +kernel
theorem dX8_inRow_23 : decode cX8_inRow 23 = .ok (.iconst 0, 1) := by decide +kernel
theorem dX8_inRow_24 : decode cX8_inRow 24 = .ok (.istore 4, 2) := by decide +kernel
theorem dX8_inRow_26 : decode cX8_inRow 26 = .ok (.iload 4, 2) := by decide +kernel
theorem dX8_inRow_28 : decode cX8_inRow 28 = .ok (.bipush 15, 2) := by decide +kernel
theorem dX8_inRow_30 : decode cX8_inRow 30 = .ok (.if_icmp .gt 40, 3) := by decide +kernel
theorem dX8_inRow_33 : decode cX8_inRow 33 = .ok (.aload_n 0, 1) := by decide +kernel
theorem dX8_inRow_34 : decode cX8_inRow 34 = .ok (.getfield 12, 3) := by decide +kernel
theorem dX8_inRow_37 : decode cX8_inRow 37 = .ok (.iload 4, 2) := by decide +kernel
theorem dX8_inRow_39 : decode cX8_inRow 39 = .ok (.iload_n 1, 1) := by decide +kernel
theorem dX8_inRow_40 : decode cX8_inRow 40 = .ok (.invokevirtual 183, 3) := by decide +kernel
theorem dX8_inRow_43 : decode cX8_inRow 43 = .ok (.istore 5, 2) := by decide +kernel
theorem dX8_inRow_45 : decode cX8_inRow 45 = .ok (.iload 5, 2) := by decide +kernel
theorem dX8_inRow_47 : decode cX8_inRow 47 = .ok (.iconst 2, 1) := by decide +kernel
theorem dX8_inRow_48 : decode cX8_inRow 48 = .ok (.if_icmp .eq 13, 3) := by decide +kernel
theorem dX8_inRow_51 : decode cX8_inRow 51 = .ok (.iload_n 2, 1) := by decide +kernel
theorem dX8_inRow_52 : decode cX8_inRow 52 = .ok (.ifCond .eq 12, 3) := by decide +kernel
theorem dX8_inRow_55 : decode cX8_inRow 55 = .ok (.iload 5, 2) := by decide +kernel
theorem dX8_inRow_57 : decode cX8_inRow 57 = .ok (.iconst 1, 1) := by decide +kernel
theorem dX8_inRow_58 : decode cX8_inRow 58 = .ok (.if_icmp .ne 6, 3) := by decide +kernel
theorem dX8_inRow_61 : decode cX8_inRow 61 = .ok (.iinc 3 1, 3) := by decide +kernel
theorem dX8_inRow_64 : decode cX8_inRow 64 = .ok (.iinc 4 1, 3) := by decide +kernel
theorem dX8_inRow_67 : decode cX8_inRow 67 = .ok (.goto (-41), 3) := by decide +kernel
theorem dX8_inRow_70 : decode cX8_inRow 70 = .ok (.iload_n 3, 1) := by decide +kernel
theorem dX8_inRow_71 : decode cX8_inRow 71 = .ok (.ireturn, 1) := by decide +kernel
theorem dX8_cuttings_0 : decode cX8_cuttings 0 = .ok (.aload_n 0, 1) := by decide +kernel
theorem dX8_cuttings_1 : decode cX8_cuttings 1 = .ok (.getfield 12, 3) := by decide +kernel
theorem dX8_cuttings_4 : decode cX8_cuttings 4 = .ok (.getfield 89, 3) := by decide +kernel
theorem dX8_cuttings_7 : decode cX8_cuttings 7 = .ok (.iconst 1, 1) := by decide +kernel
theorem dX8_cuttings_8 : decode cX8_cuttings 8 = .ok (.if_icmp .gt 14, 3) := by decide +kernel
theorem dX8_cuttings_11 : decode cX8_cuttings 11 = .ok (.aload_n 0, 1) := by decide +kernel
theorem dX8_cuttings_12 : decode cX8_cuttings 12 = .ok (.getfield 12, 3) := by decide +kernel
theorem dX8_cuttings_15 : decode cX8_cuttings 15 = .ok (.iconst 0, 1) := by decide +kernel
theorem dX8_cuttings_16 : decode cX8_cuttings 16 = .ok (.invokestatic 106, 3) := by decide +kernel
theorem dX8_cuttings_19 : decode cX8_cuttings 19 = .ok (.ifCond .le 6, 3) := by decide +kernel
theorem dX8_cuttings_22 : decode cX8_cuttings 22 = .ok (.bipush (-9), 2) := by decide +kernel
theorem dX8_cuttings_24 : decode cX8_cuttings 24 = .ok (.ireturn, 1) := by decide +kernel
theorem dX8_cuttings_25 : decode cX8_cuttings 25 = .ok (.aload_n 0, 1) := by decide +kernel
theorem dX8_cuttings_26 : decode cX8_cuttings 26 = .ok (.getfield 12, 3) := by decide +kernel
theorem dX8_cuttings_29 : decode cX8_cuttings 29 = .ok (.aload_n 0, 1) := by decide +kernel
theorem dX8_cuttings_30 : decode cX8_cuttings 30 = .ok (.getfield 41, 3) := by decide +kernel
theorem dX8_cuttings_33 : decode cX8_cuttings 33 = .ok (.invokestatic 265, 3) := by decide +kernel
theorem dX8_cuttings_36 : decode cX8_cuttings 36 = .ok (.ireturn, 1) := by decide +kernel
theorem dX8_runScript_0 : decode cX8_runScript 0 = .ok (.iload_n 1, 1) := by decide +kernel
theorem dX8_runScript_1 : decode cX8_runScript 1 = .ok (.iconst 1, 1) := by decide +kernel
theorem dX8_runScript_2 : decode cX8_runScript 2 = .ok (.iconst 3, 1) := by decide +kernel
theorem dX8_runScript_3 : decode cX8_runScript 3 = .ok (.invokestatic 52, 3) := by decide +kernel
theorem dX8_runScript_6 : decode cX8_runScript 6 = .ok (.ifCond .ne 14, 3) := by decide +kernel
theorem dX8_runScript_9 : decode cX8_runScript 9 = .ok (.new 56, 3) := by decide +kernel
theorem dX8_runScript_12 : decode cX8_runScript 12 = .ok (.dup, 1) := by decide +kernel
theorem dX8_runScript_13 : decode cX8_runScript 13 = .ok (.ldc_w 269, 3) := by decide +kernel
theorem dX8_runScript_16 : decode cX8_runScript 16 = .ok (.invokespecial 60, 3) := by decide +kernel
theorem dX8_runScript_19 : decode cX8_runScript 19 = .ok (.athrow, 1) := by decide +kernel
theorem dX8_runScript_20 : decode cX8_runScript 20 = .ok (.lconst 1, 1) := by decide +kernel
theorem dX8_runScript_21 : decode cX8_runScript 21 = .ok (.lstore 4, 2) := by decide +kernel
theorem dX8_runScript_23 : decode cX8_runScript 23 = .ok (.iconst 1, 1) := by decide +kernel
theorem dX8_runScript_24 : decode cX8_runScript 24 = .ok (.istore 6, 2) := by decide +kernel
theorem dX8_runScript_26 : decode cX8_runScript 26 = .ok (.iload 6, 2) := by decide +kernel
theorem dX8_runScript_28 : decode cX8_runScript 28 = .ok (.iload_n 1, 1) := by decide +kernel
theorem dX8_runScript_29 : decode cX8_runScript 29 = .ok (.if_icmp .ge 17, 3) := by decide +kernel
theorem dX8_runScript_32 : decode cX8_runScript 32 = .ok (.lload 4, 2) := by decide +kernel
theorem dX8_runScript_34 : decode cX8_runScript 34 = .ok (.ldc2_w 271, 3) := by decide +kernel
theorem dX8_runScript_37 : decode cX8_runScript 37 = .ok (.lmul, 1) := by decide +kernel
theorem dX8_runScript_38 : decode cX8_runScript 38 = .ok (.lstore 4, 2) := by decide +kernel
theorem dX8_runScript_40 : decode cX8_runScript 40 = .ok (.iinc 6 1, 3) := by decide +kernel
theorem dX8_runScript_43 : decode cX8_runScript 43 = .ok (.goto (-17), 3) := by decide +kernel
theorem dX8_runScript_46 : decode cX8_runScript 46 = .ok (.lload_n 2, 1) := by decide +kernel
theorem dX8_runScript_47 : decode cX8_runScript 47 = .ok (.lconst 0, 1) := by decide +kernel
theorem dX8_runScript_48 : decode cX8_runScript 48 = .ok (.lcmp, 1) := by decide +kernel
theorem dX8_runScript_49 : decode cX8_runScript 49 = .ok (.ifCond .lt 14, 3) := by decide +kernel
theorem dX8_runScript_52 : decode cX8_runScript 52 = .ok (.lload_n 2, 1) := by decide +kernel
theorem dX8_runScript_53 : decode cX8_runScript 53 = .ok (.lload 4, 2) := by decide +kernel
theorem dX8_runScript_55 : decode cX8_runScript 55 = .ok (.ldiv, 1) := by decide +kernel
theorem dX8_runScript_56 : decode cX8_runScript 56 = .ok (.ldc2_w 271, 3) := by decide +kernel
theorem dX8_runScript_59 : decode cX8_runScript 59 = .ok (.lcmp, 1) := by decide +kernel
theorem dX8_runScript_60 : decode cX8_runScript 60 = .ok (.ifCond .lt 14, 3) := by decide +kernel
theorem dX8_runScript_63 : decode cX8_runScript 63 = .ok (.new 56, 3) := by decide +kernel
theorem dX8_runScript_66 : decode cX8_runScript 66 = .ok (.dup, 1) := by decide +kernel
theorem dX8_runScript_67 : decode cX8_runScript 67 = .ok (.ldc_w 273, 3) := by decide +kernel
theorem dX8_runScript_70 : decode cX8_runScript 70 = .ok (.invokespecial 60, 3) := by decide +kernel
theorem dX8_runScript_73 : decode cX8_runScript 73 = .ok (.athrow, 1) := by decide +kernel
theorem dX8_runScript_74 : decode cX8_runScript 74 = .ok (.aload_n 0, 1) := by decide +kernel
theorem dX8_runScript_75 : decode cX8_runScript 75 = .ok (.getfield 16, 3) := by decide +kernel
theorem dX8_runScript_78 : decode cX8_runScript 78 = .ok (.aload_n 0, 1) := by decide +kernel
theorem dX8_runScript_79 : decode cX8_runScript 79 = .ok (.getfield 12, 3) := by decide +kernel
theorem dX8_runScript_82 : decode cX8_runScript 82 = .ok (.invokevirtual 82, 3) := by decide +kernel
theorem dX8_runScript_85 : decode cX8_runScript 85 = .ok (.iconst 0, 1) := by decide +kernel
theorem dX8_runScript_86 : decode cX8_runScript 86 = .ok (.istore 6, 2) := by decide +kernel
theorem dX8_runScript_88 : decode cX8_runScript 88 = .ok (.iload 6, 2) := by decide +kernel
theorem dX8_runScript_90 : decode cX8_runScript 90 = .ok (.iload_n 1, 1) := by decide +kernel
theorem dX8_runScript_91 : decode cX8_runScript 91 = .ok (.if_icmp .ge 46, 3) := by decide +kernel
theorem dX8_runScript_94 : decode cX8_runScript 94 = .ok (.lload 4, 2) := by decide +kernel
theorem dX8_runScript_96 : decode cX8_runScript 96 = .ok (.lconst 0, 1) := by decide +kernel
theorem dX8_runScript_97 : decode cX8_runScript 97 = .ok (.lcmp, 1) := by decide +kernel
theorem dX8_runScript_98 : decode cX8_runScript 98 = .ok (.ifCond .le 39, 3) := by decide +kernel
theorem dX8_runScript_101 : decode cX8_runScript 101 = .ok (.aload_n 0, 1) := by decide +kernel
theorem dX8_runScript_102 : decode cX8_runScript 102 = .ok (.getfield 16, 3) := by decide +kernel
theorem dX8_runScript_105 : decode cX8_runScript 105 = .ok (.lload_n 2, 1) := by decide +kernel
theorem dX8_runScript_106 : decode cX8_runScript 106 = .ok (.lload 4, 2) := by decide +kernel
theorem dX8_runScript_108 : decode cX8_runScript 108 = .ok (.ldiv, 1) := by decide +kernel
theorem dX8_runScript_109 : decode cX8_runScript 109 = .ok (.ldc2_w 271, 3) := by decide +kernel
theorem dX8_runScript_112 : decode cX8_runScript 112 = .ok (.lrem, 1) := by decide +kernel
theorem dX8_runScript_113 : decode cX8_runScript 113 = .ok (.l2i, 1) := by decide +kernel
theorem dX8_runScript_114 : decode cX8_runScript 114 = .ok (.invokestatic 275, 3) := by decide +kernel
theorem dX8_runScript_117 : decode cX8_runScript 117 = .ok (.ifCond .ne 6, 3) := by decide +kernel
theorem dX8_runScript_120 : decode cX8_runScript 120 = .ok (.iload 6, 2) := by decide +kernel
theorem dX8_runScript_122 : decode cX8_runScript 122 = .ok (.ireturn, 1) := by decide +kernel
theorem dX8_runScript_123 : decode cX8_runScript 123 = .ok (.lload 4, 2) := by decide +kernel
theorem dX8_runScript_125 : decode cX8_runScript 125 = .ok (.ldc2_w 271, 3) := by decide +kernel
theorem dX8_runScript_128 : decode cX8_runScript 128 = .ok (.ldiv, 1) := by decide +kernel
theorem dX8_runScript_129 : decode cX8_runScript 129 = .ok (.lstore 4, 2) := by decide +kernel
theorem dX8_runScript_131 : decode cX8_runScript 131 = .ok (.iinc 6 1, 3) := by decide +kernel
theorem dX8_runScript_134 : decode cX8_runScript 134 = .ok (.goto (-46), 3) := by decide +kernel
theorem dX8_runScript_137 : decode cX8_runScript 137 = .ok (.bipush (-9), 2) := by decide +kernel
theorem dX8_runScript_139 : decode cX8_runScript 139 = .ok (.ireturn, 1) := by decide +kernel
theorem dX8_simulate_0 : decode cX8_simulate 0 = .ok (.iload_n 3, 1) := by decide +kernel
theorem dX8_simulate_1 : decode cX8_simulate 1 = .ok (.iconst 1, 1) := by decide +kernel
theorem dX8_simulate_2 : decode cX8_simulate 2 = .ok (.bipush 60, 2) := by decide +kernel
theorem dX8_simulate_4 : decode cX8_simulate 4 = .ok (.invokestatic 52, 3) := by decide +kernel
theorem dX8_simulate_7 : decode cX8_simulate 7 = .ok (.ifCond .ne 14, 3) := by decide +kernel
theorem dX8_simulate_10 : decode cX8_simulate 10 = .ok (.new 56, 3) := by decide +kernel
theorem dX8_simulate_13 : decode cX8_simulate 13 = .ok (.dup, 1) := by decide +kernel
theorem dX8_simulate_14 : decode cX8_simulate 14 = .ok (.ldc_w 280, 3) := by decide +kernel
theorem dX8_simulate_17 : decode cX8_simulate 17 = .ok (.invokespecial 60, 3) := by decide +kernel
theorem dX8_simulate_20 : decode cX8_simulate 20 = .ok (.athrow, 1) := by decide +kernel
theorem dX8_simulate_21 : decode cX8_simulate 21 = .ok (.aload_n 0, 1) := by decide +kernel
theorem dX8_simulate_22 : decode cX8_simulate 22 = .ok (.getfield 16, 3) := by decide +kernel
theorem dX8_simulate_25 : decode cX8_simulate 25 = .ok (.aload_n 0, 1) := by decide +kernel
theorem dX8_simulate_26 : decode cX8_simulate 26 = .ok (.getfield 12, 3) := by decide +kernel
theorem dX8_simulate_29 : decode cX8_simulate 29 = .ok (.invokevirtual 82, 3) := by decide +kernel
theorem dX8_simulate_32 : decode cX8_simulate 32 = .ok (.aload_n 0, 1) := by decide +kernel
theorem dX8_simulate_33 : decode cX8_simulate 33 = .ok (.getfield 16, 3) := by decide +kernel
theorem dX8_simulate_36 : decode cX8_simulate 36 = .ok (.iconst 0, 1) := by decide +kernel
theorem dX8_simulate_37 : decode cX8_simulate 37 = .ok (.invokevirtual 126, 3) := by decide +kernel
theorem dX8_simulate_40 : decode cX8_simulate 40 = .ok (.istore 4, 2) := by decide +kernel
theorem dX8_simulate_42 : decode cX8_simulate 42 = .ok (.iconst 0, 1) := by decide +kernel
theorem dX8_simulate_43 : decode cX8_simulate 43 = .ok (.istore 5, 2) := by decide +kernel
theorem dX8_simulate_45 : decode cX8_simulate 45 = .ok (.lload_n 1, 1) := by decide +kernel
theorem dX8_simulate_46 : decode cX8_simulate 46 = .ok (.lstore 6, 2) := by decide +kernel
theorem dX8_simulate_48 : decode cX8_simulate 48 = .ok (.iconst 0, 1) := by decide +kernel
theorem dX8_simulate_49 : decode cX8_simulate 49 = .ok (.istore 8, 2) := by decide +kernel
theorem dX8_simulate_51 : decode cX8_simulate 51 = .ok (.iload 8, 2) := by decide +kernel
theorem dX8_simulate_53 : decode cX8_simulate 53 = .ok (.iload_n 3, 1) := by decide +kernel
theorem dX8_simulate_54 : decode cX8_simulate 54 = .ok (.if_icmp .ge 58, 3) := by decide +kernel
theorem dX8_simulate_57 : decode cX8_simulate 57 = .ok (.iload 4, 2) := by decide +kernel
theorem dX8_simulate_59 : decode cX8_simulate 59 = .ok (.ifCond .le 53, 3) := by decide +kernel
theorem dX8_simulate_62 : decode cX8_simulate 62 = .ok (.lload 6, 2) := by decide +kernel
theorem dX8_simulate_64 : decode cX8_simulate 64 = .ok (.ldc2_w 282, 3) := by decide +kernel
theorem dX8_simulate_67 : decode cX8_simulate 67 = .ok (.lmul, 1) := by decide +kernel
theorem dX8_simulate_68 : decode cX8_simulate 68 = .ok (.ldc2_w 284, 3) := by decide +kernel
theorem dX8_simulate_71 : decode cX8_simulate 71 = .ok (.ladd, 1) := by decide +kernel
theorem dX8_simulate_72 : decode cX8_simulate 72 = .ok (.lstore 6, 2) := by decide +kernel
theorem dX8_simulate_74 : decode cX8_simulate 74 = .ok (.lload 6, 2) := by decide +kernel
theorem dX8_simulate_76 : decode cX8_simulate 76 = .ok (.bipush 33, 2) := by decide +kernel
theorem dX8_simulate_78 : decode cX8_simulate 78 = .ok (.lushr, 1) := by decide +kernel
theorem dX8_simulate_79 : decode cX8_simulate 79 = .ok (.l2i, 1) := by decide +kernel
theorem dX8_simulate_80 : decode cX8_simulate 80 = .ok (.istore 9, 2) := by decide +kernel
theorem dX8_simulate_82 : decode cX8_simulate 82 = .ok (.aload_n 0, 1) := by decide +kernel
theorem dX8_simulate_83 : decode cX8_simulate 83 = .ok (.getfield 16, 3) := by decide +kernel
theorem dX8_simulate_86 : decode cX8_simulate 86 = .ok (.iload 9, 2) := by decide +kernel
theorem dX8_simulate_88 : decode cX8_simulate 88 = .ok (.iconst 4, 1) := by decide +kernel
theorem dX8_simulate_89 : decode cX8_simulate 89 = .ok (.idiv, 1) := by decide +kernel
theorem dX8_simulate_90 : decode cX8_simulate 90 = .ok (.iload 4, 2) := by decide +kernel
theorem dX8_simulate_92 : decode cX8_simulate 92 = .ok (.irem, 1) := by decide +kernel
theorem dX8_simulate_93 : decode cX8_simulate 93 = .ok (.iload 9, 2) := by decide +kernel
theorem dX8_simulate_95 : decode cX8_simulate 95 = .ok (.iconst 4, 1) := by decide +kernel
theorem dX8_simulate_96 : decode cX8_simulate 96 = .ok (.irem, 1) := by decide +kernel
theorem dX8_simulate_97 : decode cX8_simulate 97 = .ok (.invokestatic 260, 3) := by decide +kernel
theorem dX8_simulate_100 : decode cX8_simulate 100 = .ok (.ifCond .eq 6, 3) := by decide +kernel
theorem dX8_simulate_103 : decode cX8_simulate 103 = .ok (.iinc 5 1, 3) := by decide +kernel
theorem dX8_simulate_106 : decode cX8_simulate 106 = .ok (.iinc 8 1, 3) := by decide +kernel
theorem dX8_simulate_109 : decode cX8_simulate 109 = .ok (.goto (-58), 3) := by decide +kernel
theorem dX8_simulate_112 : decode cX8_simulate 112 = .ok (.sipush 1000, 3) := by decide +kernel
theorem dX8_simulate_115 : decode cX8_simulate 115 = .ok (.iload 5, 2) := by decide +kernel
theorem dX8_simulate_117 : decode cX8_simulate 117 = .ok (.imul, 1) := by decide +kernel
theorem dX8_simulate_118 : decode cX8_simulate 118 = .ok (.aload_n 0, 1) := by decide +kernel
theorem dX8_simulate_119 : decode cX8_simulate 119 = .ok (.getfield 16, 3) := by decide +kernel
theorem dX8_simulate_122 : decode cX8_simulate 122 = .ok (.invokestatic 95, 3) := by decide +kernel
theorem dX8_simulate_125 : decode cX8_simulate 125 = .ok (.iadd, 1) := by decide +kernel
theorem dX8_simulate_126 : decode cX8_simulate 126 = .ok (.ireturn, 1) := by decide +kernel
theorem dX8_save_0 : decode cX8_save 0 = .ok (.iload_n 1, 1) := by decide +kernel
theorem dX8_save_1 : decode cX8_save 1 = .ok (.invokestatic 286, 3) := by decide +kernel
theorem dX8_save_4 : decode cX8_save 4 = .ok (.aload_n 0, 1) := by decide +kernel
theorem dX8_save_5 : decode cX8_save 5 = .ok (.getfield 26, 3) := by decide +kernel
theorem dX8_save_8 : decode cX8_save 8 = .ok (.iload_n 1, 1) := by decide +kernel
theorem dX8_save_9 : decode cX8_save 9 = .ok (.aaload, 1) := by decide +kernel
theorem dX8_save_10 : decode cX8_save 10 = .ok (.aload_n 0, 1) := by decide +kernel
theorem dX8_save_11 : decode cX8_save 11 = .ok (.getfield 12, 3) := by decide +kernel
theorem dX8_save_14 : decode cX8_save 14 = .ok (.invokevirtual 82, 3) := by decide +kernel
theorem dX8_save_17 : decode cX8_save 17 = .ok (.aload_n 0, 1) := by decide +kernel
theorem dX8_save_18 : decode cX8_save 18 = .ok (.getfield 30, 3) := by decide +kernel
theorem dX8_save_21 : decode cX8_save 21 = .ok (.iload_n 1, 1) := by decide +kernel
theorem dX8_save_22 : decode cX8_save 22 = .ok (.iconst 1, 1) := by decide +kernel
theorem dX8_save_23 : decode cX8_save 23 = .ok (.bastore, 1) := by decide +kernel
theorem dX8_save_24 : decode cX8_save 24 = .ok (.aload_n 0, 1) := by decide +kernel
theorem dX8_save_25 : decode cX8_save 25 = .ok (.getfield 12, 3) := by decide +kernel
theorem dX8_save_28 : decode cX8_save 28 = .ok (.getfield 92, 3) := by decide +kernel
theorem dX8_save_31 : decode cX8_save 31 = .ok (.ireturn, 1) := by decide +kernel
theorem dX8_restore_0 : decode cX8_restore 0 = .ok (.iload_n 1, 1) := by decide +kernel
theorem dX8_restore_1 : decode cX8_restore 1 = .ok (.invokestatic 286, 3) := by decide +kernel
theorem dX8_restore_4 : decode cX8_restore 4 = .ok (.aload_n 0, 1) := by decide +kernel
theorem dX8_restore_5 : decode cX8_restore 5 = .ok (.getfield 30, 3) := by decide +kernel
theorem dX8_restore_8 : decode cX8_restore 8 = .ok (.iload_n 1, 1) := by decide +kernel
theorem dX8_restore_9 : decode cX8_restore 9 = .ok (.baload, 1) := by decide +kernel
theorem dX8_restore_10 : decode cX8_restore 10 = .ok (.ifCond .ne 14, 3) := by decide +kernel
theorem dX8_restore_13 : decode cX8_restore 13 = .ok (.new 67, 3) := by decide +kernel
theorem dX8_restore_16 : decode cX8_restore 16 = .ok (.dup, 1) := by decide +kernel
theorem dX8_restore_17 : decode cX8_restore 17 = .ok (.ldc_w 289, 3) := by decide +kernel
theorem dX8_restore_20 : decode cX8_restore 20 = .ok (.invokespecial 71, 3) := by decide +kernel
theorem dX8_restore_23 : decode cX8_restore 23 = .ok (.athrow, 1) := by decide +kernel
theorem dX8_restore_24 : decode cX8_restore 24 = .ok (.aload_n 0, 1) := by decide +kernel
theorem dX8_restore_25 : decode cX8_restore 25 = .ok (.getfield 12, 3) := by decide +kernel
theorem dX8_restore_28 : decode cX8_restore 28 = .ok (.aload_n 0, 1) := by decide +kernel
theorem dX8_restore_29 : decode cX8_restore 29 = .ok (.getfield 26, 3) := by decide +kernel
theorem dX8_restore_32 : decode cX8_restore 32 = .ok (.iload_n 1, 1) := by decide +kernel
theorem dX8_restore_33 : decode cX8_restore 33 = .ok (.aaload, 1) := by decide +kernel
theorem dX8_restore_34 : decode cX8_restore 34 = .ok (.invokevirtual 82, 3) := by decide +kernel
theorem dX8_restore_37 : decode cX8_restore 37 = .ok (.aload_n 0, 1) := by decide +kernel
theorem dX8_restore_38 : decode cX8_restore 38 = .ok (.getfield 22, 3) := by decide +kernel
theorem dX8_restore_41 : decode cX8_restore 41 = .ok (.invokevirtual 86, 3) := by decide +kernel
theorem dX8_restore_44 : decode cX8_restore 44 = .ok (.aload_n 0, 1) := by decide +kernel
theorem dX8_restore_45 : decode cX8_restore 45 = .ok (.getfield 12, 3) := by decide +kernel
theorem dX8_restore_48 : decode cX8_restore 48 = .ok (.getfield 92, 3) := by decide +kernel
theorem dX8_restore_51 : decode cX8_restore 51 = .ok (.ireturn, 1) := by decide +kernel
theorem dX8_keepDraft_0 : decode cX8_keepDraft 0 = .ok (.aload_n 0, 1) := by decide +kernel
theorem dX8_keepDraft_1 : decode cX8_keepDraft 1 = .ok (.getfield 22, 3) := by decide +kernel
theorem dX8_keepDraft_4 : decode cX8_keepDraft 4 = .ok (.aload_n 0, 1) := by decide +kernel
theorem dX8_keepDraft_5 : decode cX8_keepDraft 5 = .ok (.getfield 12, 3) := by decide +kernel
theorem dX8_keepDraft_8 : decode cX8_keepDraft 8 = .ok (.invokevirtual 291, 3) := by decide +kernel
theorem dX8_keepDraft_11 : decode cX8_keepDraft 11 = .ok (.aload_n 0, 1) := by decide +kernel
theorem dX8_keepDraft_12 : decode cX8_keepDraft 12 = .ok (.getfield 12, 3) := by decide +kernel
theorem dX8_keepDraft_15 : decode cX8_keepDraft 15 = .ok (.aload_n 0, 1) := by decide +kernel
theorem dX8_keepDraft_16 : decode cX8_keepDraft 16 = .ok (.getfield 16, 3) := by decide +kernel
theorem dX8_keepDraft_19 : decode cX8_keepDraft 19 = .ok (.invokevirtual 82, 3) := by decide +kernel
theorem dX8_keepDraft_22 : decode cX8_keepDraft 22 = .ok (.return_, 1) := by decide +kernel
theorem dX8_checkRing_0 : decode cX8_checkRing 0 = .ok (.aload_n 0, 1) := by decide +kernel
theorem dX8_checkRing_1 : decode cX8_checkRing 1 = .ok (.getfield 12, 3) := by decide +kernel
theorem dX8_checkRing_4 : decode cX8_checkRing 4 = .ok (.iload_n 1, 1) := by decide +kernel
theorem dX8_checkRing_5 : decode cX8_checkRing 5 = .ok (.invokevirtual 294, 3) := by decide +kernel
theorem dX8_checkRing_8 : decode cX8_checkRing 8 = .ok (.ifCond .ne 14, 3) := by decide +kernel
theorem dX8_checkRing_11 : decode cX8_checkRing 11 = .ok (.new 298, 3) := by decide +kernel
theorem dX8_checkRing_14 : decode cX8_checkRing 14 = .ok (.dup, 1) := by decide +kernel
theorem dX8_checkRing_15 : decode cX8_checkRing 15 = .ok (.ldc_w 300, 3) := by decide +kernel
theorem dX8_checkRing_18 : decode cX8_checkRing 18 = .ok (.invokespecial 302, 3) := by decide +kernel
theorem dX8_checkRing_21 : decode cX8_checkRing 21 = .ok (.athrow, 1) := by decide +kernel
theorem dX8_checkRing_22 : decode cX8_checkRing 22 = .ok (.return_, 1) := by decide +kernel
theorem dX8_checkCorner_0 : decode cX8_checkCorner 0 = .ok (.aload_n 0, 1) := by decide +kernel
theorem dX8_checkCorner_1 : decode cX8_checkCorner 1 = .ok (.getfield 12, 3) := by decide +kernel
theorem dX8_checkCorner_4 : decode cX8_checkCorner 4 = .ok (.iload_n 1, 1) := by decide +kernel
theorem dX8_checkCorner_5 : decode cX8_checkCorner 5 = .ok (.iload_n 2, 1) := by decide +kernel
theorem dX8_checkCorner_6 : decode cX8_checkCorner 6 = .ok (.invokevirtual 303, 3) := by decide +kernel
theorem dX8_checkCorner_9 : decode cX8_checkCorner 9 = .ok (.ifCond .ne 14, 3) := by decide +kernel
theorem dX8_checkCorner_12 : decode cX8_checkCorner 12 = .ok (.new 298, 3) := by decide +kernel
theorem dX8_checkCorner_15 : decode cX8_checkCorner 15 = .ok (.dup, 1) := by decide +kernel
theorem dX8_checkCorner_16 : decode cX8_checkCorner 16 = .ok (.ldc_w 307, 3) := by decide +kernel
theorem dX8_checkCorner_19 : decode cX8_checkCorner 19 = .ok (.invokespecial 302, 3) := by decide +kernel
theorem dX8_checkCorner_22 : decode cX8_checkCorner 22 = .ok (.athrow, 1) := by decide +kernel
theorem dX8_checkCorner_23 : decode cX8_checkCorner 23 = .ok (.return_, 1) := by decide +kernel
theorem dX8_checkSlot_0 : decode cX8_checkSlot 0 = .ok (.iload_n 0, 1) := by decide +kernel
theorem dX8_checkSlot_1 : decode cX8_checkSlot 1 = .ok (.iconst 0, 1) := by decide +kernel
theorem dX8_checkSlot_2 : decode cX8_checkSlot 2 = .ok (.iconst 1, 1) := by decide +kernel
theorem dX8_checkSlot_3 : decode cX8_checkSlot 3 = .ok (.invokestatic 52, 3) := by decide +kernel
theorem dX8_checkSlot_6 : decode cX8_checkSlot 6 = .ok (.ifCond .ne 14, 3) := by decide +kernel
theorem dX8_checkSlot_9 : decode cX8_checkSlot 9 = .ok (.new 298, 3) := by decide +kernel
theorem dX8_checkSlot_12 : decode cX8_checkSlot 12 = .ok (.dup, 1) := by decide +kernel
theorem dX8_checkSlot_13 : decode cX8_checkSlot 13 = .ok (.ldc_w 309, 3) := by decide +kernel
theorem dX8_checkSlot_16 : decode cX8_checkSlot 16 = .ok (.invokespecial 302, 3) := by decide +kernel
theorem dX8_checkSlot_19 : decode cX8_checkSlot 19 = .ok (.athrow, 1) := by decide +kernel
theorem dX8_checkSlot_20 : decode cX8_checkSlot 20 = .ok (.return_, 1) := by decide +kernel
theorem dX8_inRange_0 : decode cX8_inRange 0 = .ok (.iload_n 1, 1) := by decide +kernel
theorem dX8_inRange_1 : decode cX8_inRange 1 = .ok (.iload_n 0, 1) := by decide +kernel
theorem dX8_inRange_2 : decode cX8_inRange 2 = .ok (.if_icmp .gt 12, 3) := by decide +kernel
theorem dX8_inRange_5 : decode cX8_inRange 5 = .ok (.iload_n 0, 1) := by decide +kernel
theorem dX8_inRange_6 : decode cX8_inRange 6 = .ok (.iload_n 2, 1) := by decide +kernel
theorem dX8_inRange_7 : decode cX8_inRange 7 = .ok (.if_icmp .gt 7, 3) := by decide +kernel
theorem dX8_inRange_10 : decode cX8_inRange 10 = .ok (.iconst 1, 1) := by decide +kernel
theorem dX8_inRange_11 : decode cX8_inRange 11 = .ok (.goto 4, 3) := by decide +kernel
theorem dX8_inRange_14 : decode cX8_inRange 14 = .ok (.iconst 0, 1) := by decide +kernel
theorem dX8_inRange_15 : decode cX8_inRange 15 = .ok (.ireturn, 1) := by decide +kernel
theorem dX9_init_0 : decode cX9_init 0 = .ok (.aload_n 0, 1) := by decide +kernel
theorem dX9_init_1 : decode cX9_init 1 = .ok (.invokespecial 1, 3) := by decide +kernel
theorem dX9_init_4 : decode cX9_init 4 = .ok (.aload_n 0, 1) := by decide +kernel
theorem dX9_init_5 : decode cX9_init 5 = .ok (.bipush 85, 2) := by decide +kernel
theorem dX9_init_7 : decode cX9_init 7 = .ok (.newarray .int, 2) := by decide +kernel
theorem dX9_init_9 : decode cX9_init 9 = .ok (.putfield 7, 3) := by decide +kernel
theorem dX9_init_12 : decode cX9_init 12 = .ok (.aload_n 0, 1) := by decide +kernel
theorem dX9_init_13 : decode cX9_init 13 = .ok (.bipush 85, 2) := by decide +kernel
theorem dX9_init_15 : decode cX9_init 15 = .ok (.newarray .int, 2) := by decide +kernel
theorem dX9_init_17 : decode cX9_init 17 = .ok (.putfield 13, 3) := by decide +kernel
theorem dX9_init_20 : decode cX9_init 20 = .ok (.aload_n 0, 1) := by decide +kernel
theorem dX9_init_21 : decode cX9_init 21 = .ok (.bipush 85, 2) := by decide +kernel
theorem dX9_init_23 : decode cX9_init 23 = .ok (.newarray .int, 2) := by decide +kernel
theorem dX9_init_25 : decode cX9_init 25 = .ok (.putfield 16, 3) := by decide +kernel
theorem dX9_init_28 : decode cX9_init 28 = .ok (.aload_n 0, 1) := by decide +kernel
theorem dX9_init_29 : decode cX9_init 29 = .ok (.sipush 1190, 3) := by decide +kernel
theorem dX9_init_32 : decode cX9_init 32 = .ok (.newarray .int, 2) := by decide +kernel
theorem dX9_init_34 : decode cX9_init 34 = .ok (.putfield 19, 3) := by decide +kernel
theorem dX9_init_37 : decode cX9_init 37 = .ok (.aload_n 0, 1) := by decide +kernel
theorem dX9_init_38 : decode cX9_init 38 = .ok (.sipush 170, 3) := by decide +kernel
theorem dX9_init_41 : decode cX9_init 41 = .ok (.newarray .int, 2) := by decide +kernel
theorem dX9_init_43 : decode cX9_init 43 = .ok (.putfield 22, 3) := by decide +kernel
theorem dX9_init_46 : decode cX9_init 46 = .ok (.aload_n 0, 1) := by decide +kernel
theorem dX9_init_47 : decode cX9_init 47 = .ok (.iconst 2, 1) := by decide +kernel
theorem dX9_init_48 : decode cX9_init 48 = .ok (.newarray .int, 2) := by decide +kernel
theorem dX9_init_50 : decode cX9_init 50 = .ok (.putfield 25, 3) := by decide +kernel
theorem dX9_init_53 : decode cX9_init 53 = .ok (.aload_n 0, 1) := by decide +kernel
theorem dX9_init_54 : decode cX9_init 54 = .ok (.bipush 90, 2) := by decide +kernel
theorem dX9_init_56 : decode cX9_init 56 = .ok (.newarray .int, 2) := by decide +kernel
theorem dX9_init_58 : decode cX9_init 58 = .ok (.putfield 28, 3) := by decide +kernel
theorem dX9_init_61 : decode cX9_init 61 = .ok (.aload_n 0, 1) := by decide +kernel
theorem dX9_init_62 : decode cX9_init 62 = .ok (.bipush 40, 2) := by decide +kernel
theorem dX9_init_64 : decode cX9_init 64 = .ok (.newarray .int, 2) := by decide +kernel
theorem dX9_init_66 : decode cX9_init 66 = .ok (.putfield 31, 3) := by decide +kernel
theorem dX9_init_69 : decode cX9_init 69 = .ok (.aload_n 0, 1) := by decide +kernel
theorem dX9_init_70 : decode cX9_init 70 = .ok (.bipush 40, 2) := by decide +kernel
theorem dX9_init_72 : decode cX9_init 72 = .ok (.newarray .int, 2) := by decide +kernel
theorem dX9_init_74 : decode cX9_init 74 = .ok (.putfield 34, 3) := by decide +kernel
theorem dX9_init_77 : decode cX9_init 77 = .ok (.aload_n 0, 1) := by decide +kernel
theorem dX9_init_78 : decode cX9_init 78 = .ok (.bipush 40, 2) := by decide +kernel
theorem dX9_init_80 : decode cX9_init 80 = .ok (.newarray .int, 2) := by decide +kernel
theorem dX9_init_82 : decode cX9_init 82 = .ok (.putfield 37, 3) := by decide +kernel
theorem dX9_init_85 : decode cX9_init 85 = .ok (.aload_n 0, 1) := by decide +kernel
theorem dX9_init_86 : decode cX9_init 86 = .ok (.bipush 40, 2) := by decide +kernel
theorem dX9_init_88 : decode cX9_init 88 = .ok (.newarray .int, 2) := by decide +kernel
theorem dX9_init_90 : decode cX9_init 90 = .ok (.putfield 40, 3) := by decide +kernel
theorem dX9_init_93 : decode cX9_init 93 = .ok (.aload_n 0, 1) := by decide +kernel
theorem dX9_init_94 : decode cX9_init 94 = .ok (.bipush 40, 2) := by decide +kernel
theorem dX9_init_96 : decode cX9_init 96 = .ok (.newarray .int, 2) := by decide +kernel
theorem dX9_init_98 : decode cX9_init 98 = .ok (.putfield 43, 3) := by decide +kernel
theorem dX9_init_101 : decode cX9_init 101 = .ok (.aload_n 0, 1) := by decide +kernel
theorem dX9_init_102 : decode cX9_init 102 = .ok (.bipush 40, 2) := by decide +kernel
theorem dX9_init_104 : decode cX9_init 104 = .ok (.newarray .int, 2) := by decide +kernel
theorem dX9_init_106 : decode cX9_init 106 = .ok (.putfield 46, 3) := by decide +kernel
theorem dX9_init_109 : decode cX9_init 109 = .ok (.aload_n 0, 1) := by decide +kernel
theorem dX9_init_110 : decode cX9_init 110 = .ok (.bipush 100, 2) := by decide +kernel
theorem dX9_init_112 : decode cX9_init 112 = .ok (.newarray .int, 2) := by decide +kernel
theorem dX9_init_114 : decode cX9_init 114 = .ok (.putfield 49, 3) := by decide +kernel
theorem dX9_init_117 : decode cX9_init 117 = .ok (.aload_n 0, 1) := by decide +kernel
theorem dX9_init_118 : decode cX9_init 118 = .ok (.getfield 7, 3) := by decide +kernel
theorem dX9_init_121 : decode cX9_init 121 = .ok (.iconst 0, 1) := by decide +kernel
theorem dX9_init_122 : decode cX9_init 122 = .ok (.iconst 1, 1) := by decide +kernel
theorem dX9_init_123 : decode cX9_init 123 = .ok (.iastore, 1) := by decide +kernel
theorem dX9_init_124 : decode cX9_init 124 = .ok (.aload_n 0, 1) := by decide +kernel
theorem dX9_init_125 : decode cX9_init 125 = .ok (.getfield 7, 3) := by decide +kernel
theorem dX9_init_128 : decode cX9_init 128 = .ok (.iconst 1, 1) := by decide +kernel
theorem dX9_init_129 : decode cX9_init 129 = .ok (.iconst 4, 1) := by decide +kernel
theorem dX9_init_130 : decode cX9_init 130 = .ok (.iastore, 1) := by decide +kernel
theorem dX9_init_131 : decode cX9_init 131 = .ok (.aload_n 0, 1) := by decide +kernel
theorem dX9_init_132 : decode cX9_init 132 = .ok (.iconst 0, 1) := by decide +kernel
theorem dX9_init_133 : decode cX9_init 133 = .ok (.iconst 1, 1) := by decide +kernel
theorem dX9_init_134 : decode cX9_init 134 = .ok (.iconst 4, 1) := by decide +kernel
theorem dX9_init_135 : decode cX9_init 135 = .ok (.iconst 0, 1) := by decide +kernel
theorem dX9_init_136 : decode cX9_init 136 = .ok (.invokevirtual 52, 3) := by decide +kernel
theorem dX9_init_139 : decode cX9_init 139 = .ok (.aload_n 0, 1) := by decide +kernel
theorem dX9_init_140 : decode cX9_init 140 = .ok (.iconst 0, 1) := by decide +kernel
theorem dX9_init_141 : decode cX9_init 141 = .ok (.iconst 2, 1) := by decide +kernel
theorem dX9_init_142 : decode cX9_init 142 = .ok (.iconst 4, 1) := by decide +kernel
theorem dX9_init_143 : decode cX9_init 143 = .ok (.iconst 4, 1) := by decide +kernel
theorem dX9_init_144 : decode cX9_init 144 = .ok (.invokevirtual 52, 3) := by decide +kernel
theorem dX9_init_147 : decode cX9_init 147 = .ok (.aload_n 0, 1) := by decide +kernel
theorem dX9_init_148 : decode cX9_init 148 = .ok (.iconst 0, 1) := by decide +kernel
theorem dX9_init_149 : decode cX9_init 149 = .ok (.iconst 3, 1) := by decide +kernel
theorem dX9_init_150 : decode cX9_init 150 = .ok (.iconst 0, 1) := by decide +kernel
theorem dX9_init_151 : decode cX9_init 151 = .ok (.iconst 4, 1) := by decide +kernel
theorem dX9_init_152 : decode cX9_init 152 = .ok (.invokevirtual 52, 3) := by decide +kernel
theorem dX9_init_155 : decode cX9_init 155 = .ok (.return_, 1) := by decide +kernel
theorem dX9_thrown_0 : decode cX9_thrown 0 = .ok (.aload_n 0, 1) := by decide +kernel
theorem dX9_thrown_1 : decode cX9_thrown 1 = .ok (.getfield 56, 3) := by decide +kernel
theorem dX9_thrown_4 : decode cX9_thrown 4 = .ok (.ireturn, 1) := by decide +kernel
theorem dX9_copy_0 : decode cX9_copy 0 = .ok (.iconst 0, 1) := by decide +kernel
theorem dX9_copy_1 : decode cX9_copy 1 = .ok (.istore 4, 2) := by decide +kernel
theorem dX9_copy_3 : decode cX9_copy 3 = .ok (.iload 4, 2) := by decide +kernel
theorem dX9_copy_5 : decode cX9_copy 5 = .ok (.bipush 85, 2) := by decide +kernel
theorem dX9_copy_7 : decode cX9_copy 7 = .ok (.if_icmp .ge 21, 3) := by decide +kernel
theorem dX9_copy_10 : decode cX9_copy 10 = .ok (.aload_n 2, 1) := by decide +kernel
theorem dX9_copy_11 : decode cX9_copy 11 = .ok (.iload_n 3, 1) := by decide +kernel
theorem dX9_copy_12 : decode cX9_copy 12 = .ok (.iload 4, 2) := by decide +kernel
theorem dX9_copy_14 : decode cX9_copy 14 = .ok (.iadd, 1) := by decide +kernel
theorem dX9_copy_15 : decode cX9_copy 15 = .ok (.aload_n 0, 1) := by decide +kernel
theorem dX9_copy_16 : decode cX9_copy 16 = .ok (.iload_n 1, 1) := by decide +kernel
theorem dX9_copy_17 : decode cX9_copy 17 = .ok (.iload 4, 2) := by decide +kernel
theorem dX9_copy_19 : decode cX9_copy 19 = .ok (.iadd, 1) := by decide +kernel
theorem dX9_copy_20 : decode cX9_copy 20 = .ok (.iaload, 1) := by decide +kernel
theorem dX9_copy_21 : decode cX9_copy 21 = .ok (.iastore, 1) := by decide +kernel
theorem dX9_copy_22 : decode cX9_copy 22 = .ok (.iinc 4 1, 3) := by decide +kernel
theorem dX9_copy_25 : decode cX9_copy 25 = .ok (.goto (-22), 3) := by decide +kernel
theorem dX9_copy_28 : decode cX9_copy 28 = .ok (.return_, 1) := by decide +kernel
theorem dX9_within_0 : decode cX9_within 0 = .ok (.iload_n 0, 1) := by decide +kernel
theorem dX9_within_1 : decode cX9_within 1 = .ok (.iload_n 1, 1) := by decide +kernel
theorem dX9_within_2 : decode cX9_within 2 = .ok (.if_icmp .lt 12, 3) := by decide +kernel
theorem dX9_within_5 : decode cX9_within 5 = .ok (.iload_n 0, 1) := by decide +kernel
theorem dX9_within_6 : decode cX9_within 6 = .ok (.iload_n 2, 1) := by decide +kernel
theorem dX9_within_7 : decode cX9_within 7 = .ok (.if_icmp .gt 7, 3) := by decide +kernel
theorem dX9_within_10 : decode cX9_within 10 = .ok (.iconst 1, 1) := by decide +kernel
theorem dX9_within_11 : decode cX9_within 11 = .ok (.goto 4, 3) := by decide +kernel
theorem dX9_within_14 : decode cX9_within 14 = .ok (.iconst 0, 1) := by decide +kernel
theorem dX9_within_15 : decode cX9_within 15 = .ok (.ireturn, 1) := by decide +kernel
theorem dX9_size_0 : decode cX9_size 0 = .ok (.iload_n 0, 1) := by decide +kernel
theorem dX9_size_1 : decode cX9_size 1 = .ok (.ifCond .ge 8, 3) := by decide +kernel
theorem dX9_size_4 : decode cX9_size 4 = .ok (.iload_n 0, 1) := by decide +kernel
theorem dX9_size_5 : decode cX9_size 5 = .ok (.ineg, 1) := by decide +kernel
theorem dX9_size_6 : decode cX9_size 6 = .ok (.goto 4, 3) := by decide +kernel
theorem dX9_size_9 : decode cX9_size 9 = .ok (.iload_n 0, 1) := by decide +kernel
theorem dX9_size_10 : decode cX9_size 10 = .ok (.ireturn, 1) := by decide +kernel
theorem dX9_many_0 : decode cX9_many 0 = .ok (.aload_n 0, 1) := by decide +kernel
theorem dX9_many_1 : decode cX9_many 1 = .ok (.getfield 7, 3) := by decide +kernel
theorem dX9_many_4 : decode cX9_many 4 = .ok (.iconst 1, 1) := by decide +kernel
theorem dX9_many_5 : decode cX9_many 5 = .ok (.iload_n 1, 1) := by decide +kernel
theorem dX9_many_6 : decode cX9_many 6 = .ok (.iadd, 1) := by decide +kernel
theorem dX9_many_7 : decode cX9_many 7 = .ok (.iaload, 1) := by decide +kernel
theorem dX9_many_8 : decode cX9_many 8 = .ok (.ireturn, 1) := by decide +kernel
theorem dX9_x_0 : decode cX9_x 0 = .ok (.aload_n 0, 1) := by decide +kernel
theorem dX9_x_1 : decode cX9_x 1 = .ok (.getfield 7, 3) := by decide +kernel
theorem dX9_x_4 : decode cX9_x 4 = .ok (.iconst 5, 1) := by decide +kernel
theorem dX9_x_5 : decode cX9_x 5 = .ok (.bipush 20, 2) := by decide +kernel
theorem dX9_x_7 : decode cX9_x 7 = .ok (.iload_n 1, 1) := by decide +kernel
theorem dX9_x_8 : decode cX9_x 8 = .ok (.imul, 1) := by decide +kernel
theorem dX9_x_9 : decode cX9_x 9 = .ok (.iadd, 1) := by decide +kernel
theorem dX9_x_10 : decode cX9_x 10 = .ok (.iconst 2, 1) := by decide +kernel
theorem dX9_x_11 : decode cX9_x 11 = .ok (.iload_n 2, 1) := by decide +kernel
theorem dX9_x_12 : decode cX9_x 12 = .ok (.imul, 1) := by decide +kernel
theorem dX9_x_13 : decode cX9_x 13 = .ok (.iadd, 1) := by decide +kernel
theorem dX9_x_14 : decode cX9_x 14 = .ok (.iaload, 1) := by decide +kernel
theorem dX9_x_15 : decode cX9_x 15 = .ok (.ireturn, 1) := by decide +kernel
theorem dX9_y_0 : decode cX9_y 0 = .ok (.aload_n 0, 1) := by decide +kernel
theorem dX9_y_1 : decode cX9_y 1 = .ok (.getfield 7, 3) := by decide +kernel
theorem dX9_y_4 : decode cX9_y 4 = .ok (.iconst 5, 1) := by decide +kernel
theorem dX9_y_5 : decode cX9_y 5 = .ok (.bipush 20, 2) := by decide +kernel
theorem dX9_y_7 : decode cX9_y 7 = .ok (.iload_n 1, 1) := by decide +kernel
theorem dX9_y_8 : decode cX9_y 8 = .ok (.imul, 1) := by decide +kernel
theorem dX9_y_9 : decode cX9_y 9 = .ok (.iadd, 1) := by decide +kernel
theorem dX9_y_10 : decode cX9_y 10 = .ok (.iconst 2, 1) := by decide +kernel
theorem dX9_y_11 : decode cX9_y 11 = .ok (.iload_n 2, 1) := by decide +kernel
theorem dX9_y_12 : decode cX9_y 12 = .ok (.imul, 1) := by decide +kernel
theorem dX9_y_13 : decode cX9_y 13 = .ok (.iadd, 1) := by decide +kernel
theorem dX9_y_14 : decode cX9_y 14 = .ok (.iconst 1, 1) := by decide +kernel
theorem dX9_y_15 : decode cX9_y 15 = .ok (.iadd, 1) := by decide +kernel
theorem dX9_y_16 : decode cX9_y 16 = .ok (.iaload, 1) := by decide +kernel
theorem dX9_y_17 : decode cX9_y 17 = .ok (.ireturn, 1) := by decide +kernel
theorem dX9_setCorner_0 : decode cX9_setCorner 0 = .ok (.aload_n 0, 1) := by decide +kernel
theorem dX9_setCorner_1 : decode cX9_setCorner 1 = .ok (.getfield 7, 3) := by decide +kernel
theorem dX9_setCorner_4 : decode cX9_setCorner 4 = .ok (.iconst 5, 1) := by decide +kernel
theorem dX9_setCorner_5 : decode cX9_setCorner 5 = .ok (.bipush 20, 2) := by decide +kernel
theorem dX9_setCorner_7 : decode cX9_setCorner 7 = .ok (.iload_n 1, 1) := by decide +kernel
theorem dX9_setCorner_8 : decode cX9_setCorner 8 = .ok (.imul, 1) := by decide +kernel
theorem dX9_setCorner_9 : decode cX9_setCorner 9 = .ok (.iadd, 1) := by decide +kernel
theorem dX9_setCorner_10 : decode cX9_setCorner 10 = .ok (.iconst 2, 1) := by decide +kernel
theorem dX9_setCorner_11 : decode cX9_setCorner 11 = .ok (.iload_n 2, 1) := by decide +kernel
theorem dX9_setCorner_12 : decode cX9_setCorner 12 = .ok (.imul, 1) := by decide +kernel
theorem dX9_setCorner_13 : decode cX9_setCorner 13 = .ok (.iadd, 1) := by decide +kernel
theorem dX9_setCorner_14 : decode cX9_setCorner 14 = .ok (.iload_n 3, 1) := by decide +kernel
theorem dX9_setCorner_15 : decode cX9_setCorner 15 = .ok (.iastore, 1) := by decide +kernel
theorem dX9_setCorner_16 : decode cX9_setCorner 16 = .ok (.aload_n 0, 1) := by decide +kernel
theorem dX9_setCorner_17 : decode cX9_setCorner 17 = .ok (.getfield 7, 3) := by decide +kernel
theorem dX9_setCorner_20 : decode cX9_setCorner 20 = .ok (.iconst 5, 1) := by decide +kernel
theorem dX9_setCorner_21 : decode cX9_setCorner 21 = .ok (.bipush 20, 2) := by decide +kernel
theorem dX9_setCorner_23 : decode cX9_setCorner 23 = .ok (.iload_n 1, 1) := by decide +kernel
theorem dX9_setCorner_24 : decode cX9_setCorner 24 = .ok (.imul, 1) := by decide +kernel
theorem dX9_setCorner_25 : decode cX9_setCorner 25 = .ok (.iadd, 1) := by decide +kernel
theorem dX9_setCorner_26 : decode cX9_setCorner 26 = .ok (.iconst 2, 1) := by decide +kernel
theorem dX9_setCorner_27 : decode cX9_setCorner 27 = .ok (.iload_n 2, 1) := by decide +kernel
theorem dX9_setCorner_28 : decode cX9_setCorner 28 = .ok (.imul, 1) := by decide +kernel
theorem dX9_setCorner_29 : decode cX9_setCorner 29 = .ok (.iadd, 1) := by decide +kernel
theorem dX9_setCorner_30 : decode cX9_setCorner 30 = .ok (.iconst 1, 1) := by decide +kernel
theorem dX9_setCorner_31 : decode cX9_setCorner 31 = .ok (.iadd, 1) := by decide +kernel
theorem dX9_setCorner_32 : decode cX9_setCorner 32 = .ok (.iload 4, 2) := by decide +kernel
theorem dX9_setCorner_34 : decode cX9_setCorner 34 = .ok (.iastore, 1) := by decide +kernel
theorem dX9_setCorner_35 : decode cX9_setCorner 35 = .ok (.return_, 1) := by decide +kernel
theorem dX9_isRing_0 : decode cX9_isRing 0 = .ok (.iload_n 1, 1) := by decide +kernel
theorem dX9_isRing_1 : decode cX9_isRing 1 = .ok (.iconst 0, 1) := by decide +kernel
theorem dX9_isRing_2 : decode cX9_isRing 2 = .ok (.aload_n 0, 1) := by decide +kernel
theorem dX9_isRing_3 : decode cX9_isRing 3 = .ok (.getfield 7, 3) := by decide +kernel
theorem dX9_isRing_6 : decode cX9_isRing 6 = .ok (.iconst 0, 1) := by decide +kernel
theorem dX9_isRing_7 : decode cX9_isRing 7 = .ok (.iaload, 1) := by decide +kernel
theorem dX9_isRing_8 : decode cX9_isRing 8 = .ok (.iconst 1, 1) := by decide +kernel
theorem dX9_isRing_9 : decode cX9_isRing 9 = .ok (.isub, 1) := by decide +kernel
theorem dX9_isRing_10 : decode cX9_isRing 10 = .ok (.invokestatic 60, 3) := by decide +kernel
theorem dX9_isRing_13 : decode cX9_isRing 13 = .ok (.ireturn, 1) := by decide +kernel
theorem dX9_isCorner_0 : decode cX9_isCorner 0 = .ok (.aload_n 0, 1) := by decide +kernel
theorem dX9_isCorner_1 : decode cX9_isCorner 1 = .ok (.iload_n 1, 1) := by decide +kernel
theorem dX9_isCorner_2 : decode cX9_isCorner 2 = .ok (.invokevirtual 64, 3) := by decide +kernel
theorem dX9_isCorner_5 : decode cX9_isCorner 5 = .ok (.ifCond .eq 22, 3) := by decide +kernel
theorem dX9_isCorner_8 : decode cX9_isCorner 8 = .ok (.iload_n 2, 1) := by decide +kernel
theorem dX9_isCorner_9 : decode cX9_isCorner 9 = .ok (.iconst 0, 1) := by decide +kernel
theorem dX9_isCorner_10 : decode cX9_isCorner 10 = .ok (.aload_n 0, 1) := by decide +kernel
theorem dX9_isCorner_11 : decode cX9_isCorner 11 = .ok (.iload_n 1, 1) := by decide +kernel
theorem dX9_isCorner_12 : decode cX9_isCorner 12 = .ok (.invokevirtual 68, 3) := by decide +kernel
theorem dX9_isCorner_15 : decode cX9_isCorner 15 = .ok (.iconst 1, 1) := by decide +kernel
theorem dX9_isCorner_16 : decode cX9_isCorner 16 = .ok (.isub, 1) := by decide +kernel
theorem dX9_isCorner_17 : decode cX9_isCorner 17 = .ok (.invokestatic 60, 3) := by decide +kernel
theorem dX9_isCorner_20 : decode cX9_isCorner 20 = .ok (.ifCond .eq 7, 3) := by decide +kernel
theorem dX9_isCorner_23 : decode cX9_isCorner 23 = .ok (.iconst 1, 1) := by decide +kernel
theorem dX9_isCorner_24 : decode cX9_isCorner 24 = .ok (.goto 4, 3) := by decide +kernel
theorem dX9_isCorner_27 : decode cX9_isCorner 27 = .ok (.iconst 0, 1) := by decide +kernel
theorem dX9_isCorner_28 : decode cX9_isCorner 28 = .ok (.ireturn, 1) := by decide +kernel
theorem dX9_next_0 : decode cX9_next 0 = .ok (.iload_n 2, 1) := by decide +kernel
theorem dX9_next_1 : decode cX9_next 1 = .ok (.iconst 1, 1) := by decide +kernel
theorem dX9_next_2 : decode cX9_next 2 = .ok (.iadd, 1) := by decide +kernel
theorem dX9_next_3 : decode cX9_next 3 = .ok (.aload_n 0, 1) := by decide +kernel
theorem dX9_next_4 : decode cX9_next 4 = .ok (.iload_n 1, 1) := by decide +kernel
theorem dX9_next_5 : decode cX9_next 5 = .ok (.invokevirtual 68, 3) := by decide +kernel
theorem dX9_next_8 : decode cX9_next 8 = .ok (.if_icmp .ne 7, 3) := by decide +kernel
theorem dX9_next_11 : decode cX9_next 11 = .ok (.iconst 0, 1) := by decide +kernel
theorem dX9_next_12 : decode cX9_next 12 = .ok (.goto 6, 3) := by decide +kernel
theorem dX9_next_15 : decode cX9_next 15 = .ok (.iload_n 2, 1) := by decide +kernel
theorem dX9_next_16 : decode cX9_next 16 = .ok (.iconst 1, 1) := by decide +kernel
theorem dX9_next_17 : decode cX9_next 17 = .ok (.iadd, 1) := by decide +kernel
theorem dX9_next_18 : decode cX9_next 18 = .ok (.ireturn, 1) := by decide +kernel
theorem dX9_before_0 : decode cX9_before 0 = .ok (.iload_n 2, 1) := by decide +kernel
theorem dX9_before_1 : decode cX9_before 1 = .ok (.ifCond .ne 13, 3) := by decide +kernel
theorem dX9_before_4 : decode cX9_before 4 = .ok (.aload_n 0, 1) := by decide +kernel
theorem dX9_before_5 : decode cX9_before 5 = .ok (.iload_n 1, 1) := by decide +kernel
theorem dX9_before_6 : decode cX9_before 6 = .ok (.invokevirtual 68, 3) := by decide +kernel
theorem dX9_before_9 : decode cX9_before 9 = .ok (.iconst 1, 1) := by decide +kernel
theorem dX9_before_10 : decode cX9_before 10 = .ok (.isub, 1) := by decide +kernel
theorem dX9_before_11 : decode cX9_before 11 = .ok (.goto 6, 3) := by decide +kernel
theorem dX9_before_14 : decode cX9_before 14 = .ok (.iload_n 2, 1) := by decide +kernel
theorem dX9_before_15 : decode cX9_before 15 = .ok (.iconst 1, 1) := by decide +kernel
theorem dX9_before_16 : decode cX9_before 16 = .ok (.isub, 1) := by decide +kernel
theorem dX9_before_17 : decode cX9_before 17 = .ok (.ireturn, 1) := by decide +kernel
theorem dX9_cornerMany_0 : decode cX9_cornerMany 0 = .ok (.iconst 0, 1) := by decide +kernel
theorem dX9_cornerMany_1 : decode cX9_cornerMany 1 = .ok (.istore_n 1, 1) := by decide +kernel
theorem dX9_cornerMany_2 : decode cX9_cornerMany 2 = .ok (.iconst 0, 1) := by decide +kernel
theorem dX9_cornerMany_3 : decode cX9_cornerMany 3 = .ok (.istore_n 2, 1) := by decide +kernel
theorem dX9_cornerMany_4 : decode cX9_cornerMany 4 = .ok (.iload_n 2, 1) := by decide +kernel
theorem dX9_cornerMany_5 : decode cX9_cornerMany 5 = .ok (.aload_n 0, 1) := by decide +kernel
theorem dX9_cornerMany_6 : decode cX9_cornerMany 6 = .ok (.getfield 7, 3) := by decide +kernel
theorem dX9_cornerMany_9 : decode cX9_cornerMany 9 = .ok (.iconst 0, 1) := by decide +kernel
theorem dX9_cornerMany_10 : decode cX9_cornerMany 10 = .ok (.iaload, 1) := by decide +kernel
theorem dX9_cornerMany_11 : decode cX9_cornerMany 11 = .ok (.if_icmp .ge 17, 3) := by decide +kernel
theorem dX9_cornerMany_14 : decode cX9_cornerMany 14 = .ok (.iload_n 1, 1) := by decide +kernel
theorem dX9_cornerMany_15 : decode cX9_cornerMany 15 = .ok (.aload_n 0, 1) := by decide +kernel
theorem dX9_cornerMany_16 : decode cX9_cornerMany 16 = .ok (.iload_n 2, 1) := by decide +kernel
theorem dX9_cornerMany_17 : decode cX9_cornerMany 17 = .ok (.invokevirtual 68, 3) := by decide +kernel
theorem dX9_cornerMany_20 : decode cX9_cornerMany 20 = .ok (.iadd, 1) := by decide +kernel
theorem dX9_cornerMany_21 : decode cX9_cornerMany 21 = .ok (.istore_n 1, 1) := by decide +kernel
theorem dX9_cornerMany_22 : decode cX9_cornerMany 22 = .ok (.iinc 2 1, 3) := by decide +kernel
theorem dX9_cornerMany_25 : decode cX9_cornerMany 25 = .ok (.goto (-21), 3) := by decide +kernel
theorem dX9_cornerMany_28 : decode cX9_cornerMany 28 = .ok (.iload_n 1, 1) := by decide +kernel
theorem dX9_cornerMany_29 : decode cX9_cornerMany 29 = .ok (.ireturn, 1) := by decide +kernel
theorem dX9_findSides_0 : decode cX9_findSides 0 = .ok (.aload_n 0, 1) := by decide +kernel
theorem dX9_findSides_1 : decode cX9_findSides 1 = .ok (.iconst 0, 1) := by decide +kernel
theorem dX9_findSides_2 : decode cX9_findSides 2 = .ok (.putfield 72, 3) := by decide +kernel
theorem dX9_findSides_5 : decode cX9_findSides 5 = .ok (.iconst 0, 1) := by decide +kernel
theorem dX9_findSides_6 : decode cX9_findSides 6 = .ok (.istore_n 1, 1) := by decide +kernel
theorem dX9_findSides_7 : decode cX9_findSides 7 = .ok (.iload_n 1, 1) := by decide +kernel
theorem dX9_findSides_8 : decode cX9_findSides 8 = .ok (.aload_n 0, 1) := by decide +kernel
theorem dX9_findSides_9 : decode cX9_findSides 9 = .ok (.getfield 7, 3) := by decide +kernel
theorem dX9_findSides_12 : decode cX9_findSides 12 = .ok (.iconst 0, 1) := by decide +kernel
theorem dX9_findSides_13 : decode cX9_findSides 13 = .ok (.iaload, 1) := by decide +kernel
theorem dX9_findSides_14 : decode cX9_findSides 14 = .ok (.if_icmp .ge 126, 3) := by decide +kernel
theorem dX9_findSides_17 : decode cX9_findSides 17 = .ok (.iconst 0, 1) := by decide +kernel
theorem dX9_findSides_18 : decode cX9_findSides 18 = .ok (.istore_n 2, 1) := by decide +kernel
theorem dX9_findSides_19 : decode cX9_findSides 19 = .ok (.iload_n 2, 1) := by decide +kernel
theorem dX9_findSides_20 : decode cX9_findSides 20 = .ok (.aload_n 0, 1) := by decide +kernel
theorem dX9_findSides_21 : decode cX9_findSides 21 = .ok (.iload_n 1, 1) := by decide +kernel
theorem dX9_findSides_22 : decode cX9_findSides 22 = .ok (.invokevirtual 68, 3) := by decide +kernel
theorem dX9_findSides_25 : decode cX9_findSides 25 = .ok (.if_icmp .ge 109, 3) := by decide +kernel
theorem dX9_findSides_28 : decode cX9_findSides 28 = .ok (.aload_n 0, 1) := by decide +kernel
theorem dX9_findSides_29 : decode cX9_findSides 29 = .ok (.getfield 31, 3) := by decide +kernel
theorem dX9_findSides_32 : decode cX9_findSides 32 = .ok (.aload_n 0, 1) := by decide +kernel
theorem dX9_findSides_33 : decode cX9_findSides 33 = .ok (.getfield 72, 3) := by decide +kernel
theorem dX9_findSides_36 : decode cX9_findSides 36 = .ok (.iload_n 1, 1) := by decide +kernel
theorem dX9_findSides_37 : decode cX9_findSides 37 = .ok (.iastore, 1) := by decide +kernel
theorem dX9_findSides_38 : decode cX9_findSides 38 = .ok (.aload_n 0, 1) := by decide +kernel
theorem dX9_findSides_39 : decode cX9_findSides 39 = .ok (.getfield 34, 3) := by decide +kernel
theorem dX9_findSides_42 : decode cX9_findSides 42 = .ok (.aload_n 0, 1) := by decide +kernel
theorem dX9_findSides_43 : decode cX9_findSides 43 = .ok (.getfield 72, 3) := by decide +kernel
theorem dX9_findSides_46 : decode cX9_findSides 46 = .ok (.iload_n 2, 1) := by decide +kernel
theorem dX9_findSides_47 : decode cX9_findSides 47 = .ok (.iastore, 1) := by decide +kernel
theorem dX9_findSides_48 : decode cX9_findSides 48 = .ok (.aload_n 0, 1) := by decide +kernel
theorem dX9_findSides_49 : decode cX9_findSides 49 = .ok (.getfield 37, 3) := by decide +kernel
theorem dX9_findSides_52 : decode cX9_findSides 52 = .ok (.aload_n 0, 1) := by decide +kernel
theorem dX9_findSides_53 : decode cX9_findSides 53 = .ok (.getfield 72, 3) := by decide +kernel
theorem dX9_findSides_56 : decode cX9_findSides 56 = .ok (.aload_n 0, 1) := by decide +kernel
theorem dX9_findSides_57 : decode cX9_findSides 57 = .ok (.iload_n 1, 1) := by decide +kernel
theorem dX9_findSides_58 : decode cX9_findSides 58 = .ok (.iload_n 2, 1) := by decide +kernel
theorem dX9_findSides_59 : decode cX9_findSides 59 = .ok (.invokevirtual 75, 3) := by decide +kernel
theorem dX9_findSides_62 : decode cX9_findSides 62 = .ok (.iastore, 1) := by decide +kernel
theorem dX9_findSides_63 : decode cX9_findSides 63 = .ok (.aload_n 0, 1) := by decide +kernel
theorem dX9_findSides_64 : decode cX9_findSides 64 = .ok (.getfield 40, 3) := by decide +kernel
theorem dX9_findSides_67 : decode cX9_findSides 67 = .ok (.aload_n 0, 1) := by decide +kernel
theorem dX9_findSides_68 : decode cX9_findSides 68 = .ok (.getfield 72, 3) := by decide +kernel
theorem dX9_findSides_71 : decode cX9_findSides 71 = .ok (.aload_n 0, 1) := by decide +kernel
theorem dX9_findSides_72 : decode cX9_findSides 72 = .ok (.iload_n 1, 1) := by decide +kernel
theorem dX9_findSides_73 : decode cX9_findSides 73 = .ok (.iload_n 2, 1) := by decide +kernel
theorem dX9_findSides_74 : decode cX9_findSides 74 = .ok (.invokevirtual 79, 3) := by decide +kernel
theorem dX9_findSides_77 : decode cX9_findSides 77 = .ok (.iastore, 1) := by decide +kernel
theorem dX9_findSides_78 : decode cX9_findSides 78 = .ok (.aload_n 0, 1) := by decide +kernel
theorem dX9_findSides_79 : decode cX9_findSides 79 = .ok (.getfield 43, 3) := by decide +kernel
theorem dX9_findSides_82 : decode cX9_findSides 82 = .ok (.aload_n 0, 1) := by decide +kernel
theorem dX9_findSides_83 : decode cX9_findSides 83 = .ok (.getfield 72, 3) := by decide +kernel
theorem dX9_findSides_86 : decode cX9_findSides 86 = .ok (.aload_n 0, 1) := by decide +kernel
theorem dX9_findSides_87 : decode cX9_findSides 87 = .ok (.iload_n 1, 1) := by decide +kernel
theorem dX9_findSides_88 : decode cX9_findSides 88 = .ok (.aload_n 0, 1) := by decide +kernel
theorem dX9_findSides_89 : decode cX9_findSides 89 = .ok (.iload_n 1, 1) := by decide +kernel
theorem dX9_findSides_90 : decode cX9_findSides 90 = .ok (.iload_n 2, 1) := by decide +kernel
theorem dX9_findSides_91 : decode cX9_findSides 91 = .ok (.invokevirtual 82, 3) := by decide +kernel
theorem dX9_findSides_94 : decode cX9_findSides 94 = .ok (.invokevirtual 75, 3) := by decide +kernel
theorem dX9_findSides_97 : decode cX9_findSides 97 = .ok (.iastore, 1) := by decide +kernel
theorem dX9_findSides_98 : decode cX9_findSides 98 = .ok (.aload_n 0, 1) := by decide +kernel
theorem dX9_findSides_99 : decode cX9_findSides 99 = .ok (.getfield 46, 3) := by decide +kernel
theorem dX9_findSides_102 : decode cX9_findSides 102 = .ok (.aload_n 0, 1) := by decide +kernel
theorem dX9_findSides_103 : decode cX9_findSides 103 = .ok (.getfield 72, 3) := by decide +kernel
theorem dX9_findSides_106 : decode cX9_findSides 106 = .ok (.aload_n 0, 1) := by decide +kernel
theorem dX9_findSides_107 : decode cX9_findSides 107 = .ok (.iload_n 1, 1) := by decide +kernel
theorem dX9_findSides_108 : decode cX9_findSides 108 = .ok (.aload_n 0, 1) := by decide +kernel
theorem dX9_findSides_109 : decode cX9_findSides 109 = .ok (.iload_n 1, 1) := by decide +kernel
theorem dX9_findSides_110 : decode cX9_findSides 110 = .ok (.iload_n 2, 1) := by decide +kernel
theorem dX9_findSides_111 : decode cX9_findSides 111 = .ok (.invokevirtual 82, 3) := by decide +kernel
theorem dX9_findSides_114 : decode cX9_findSides 114 = .ok (.invokevirtual 79, 3) := by decide +kernel
theorem dX9_findSides_117 : decode cX9_findSides 117 = .ok (.iastore, 1) := by decide +kernel
theorem dX9_findSides_118 : decode cX9_findSides 118 = .ok (.aload_n 0, 1) := by decide +kernel
theorem dX9_findSides_119 : decode cX9_findSides 119 = .ok (.dup, 1) := by decide +kernel
theorem dX9_findSides_120 : decode cX9_findSides 120 = .ok (.getfield 72, 3) := by decide +kernel
theorem dX9_findSides_123 : decode cX9_findSides 123 = .ok (.iconst 1, 1) := by decide +kernel
theorem dX9_findSides_124 : decode cX9_findSides 124 = .ok (.iadd, 1) := by decide +kernel
theorem dX9_findSides_125 : decode cX9_findSides 125 = .ok (.putfield 72, 3) := by decide +kernel
theorem dX9_findSides_128 : decode cX9_findSides 128 = .ok (.iinc 2 1, 3) := by decide +kernel
theorem dX9_findSides_131 : decode cX9_findSides 131 = .ok (.goto (-112), 3) := by decide +kernel
theorem dX9_findSides_134 : decode cX9_findSides 134 = .ok (.iinc 1 1, 3) := by decide +kernel
theorem dX9_findSides_137 : decode cX9_findSides 137 = .ok (.goto (-130), 3) := by decide +kernel
theorem dX9_findSides_140 : decode cX9_findSides 140 = .ok (.return_, 1) := by decide +kernel
theorem dX9_turnOf_0 : decode cX9_turnOf 0 = .ok (.iload_n 2, 1) := by decide +kernel
theorem dX9_turnOf_1 : decode cX9_turnOf 1 = .ok (.iload_n 0, 1) := by decide +kernel
theorem dX9_turnOf_2 : decode cX9_turnOf 2 = .ok (.isub, 1) := by decide +kernel
theorem dX9_turnOf_3 : decode cX9_turnOf 3 = .ok (.iload 5, 2) := by decide +kernel
theorem dX9_turnOf_5 : decode cX9_turnOf 5 = .ok (.iload_n 1, 1) := by decide +kernel
theorem dX9_turnOf_6 : decode cX9_turnOf 6 = .ok (.isub, 1) := by decide +kernel
theorem dX9_turnOf_7 : decode cX9_turnOf 7 = .ok (.imul, 1) := by decide +kernel
theorem dX9_turnOf_8 : decode cX9_turnOf 8 = .ok (.iload_n 3, 1) := by decide +kernel
theorem dX9_turnOf_9 : decode cX9_turnOf 9 = .ok (.iload_n 1, 1) := by decide +kernel
theorem dX9_turnOf_10 : decode cX9_turnOf 10 = .ok (.isub, 1) := by decide +kernel
theorem dX9_turnOf_11 : decode cX9_turnOf 11 = .ok (.iload 4, 2) := by decide +kernel
theorem dX9_turnOf_13 : decode cX9_turnOf 13 = .ok (.iload_n 0, 1) := by decide +kernel
theorem dX9_turnOf_14 : decode cX9_turnOf 14 = .ok (.isub, 1) := by decide +kernel
theorem dX9_turnOf_15 : decode cX9_turnOf 15 = .ok (.imul, 1) := by decide +kernel
theorem dX9_turnOf_16 : decode cX9_turnOf 16 = .ok (.isub, 1) := by decide +kernel
theorem dX9_turnOf_17 : decode cX9_turnOf 17 = .ok (.istore 6, 2) := by decide +kernel
theorem dX9_turnOf_19 : decode cX9_turnOf 19 = .ok (.iload 6, 2) := by decide +kernel
theorem dX9_turnOf_21 : decode cX9_turnOf 21 = .ok (.ifCond .le 7, 3) := by decide +kernel
theorem dX9_turnOf_24 : decode cX9_turnOf 24 = .ok (.iconst 1, 1) := by decide +kernel
theorem dX9_turnOf_25 : decode cX9_turnOf 25 = .ok (.goto 13, 3) := by decide +kernel
theorem dX9_turnOf_28 : decode cX9_turnOf 28 = .ok (.iload 6, 2) := by decide +kernel
theorem dX9_turnOf_30 : decode cX9_turnOf 30 = .ok (.ifCond .ge 7, 3) := by decide +kernel
theorem dX9_turnOf_33 : decode cX9_turnOf 33 = .ok (.iconst (-1), 1) := by decide +kernel
theorem dX9_turnOf_34 : decode cX9_turnOf 34 = .ok (.goto 4, 3) := by decide +kernel
theorem dX9_turnOf_37 : decode cX9_turnOf 37 = .ok (.iconst 0, 1) := by decide +kernel
theorem dX9_turnOf_38 : decode cX9_turnOf 38 = .ok (.ireturn, 1) := by decide +kernel
theorem dX9_isOn_0 : decode cX9_isOn 0 = .ok (.iload 4, 2) := by decide +kernel
theorem dX9_isOn_2 : decode cX9_isOn 2 = .ok (.iload_n 0, 1) := by decide +kernel
theorem dX9_isOn_3 : decode cX9_isOn 3 = .ok (.iload_n 2, 1) := by decide +kernel
theorem dX9_isOn_4 : decode cX9_isOn 4 = .ok (.if_icmp .ge 7, 3) := by decide +kernel
theorem dX9_isOn_7 : decode cX9_isOn 7 = .ok (.iload_n 0, 1) := by decide +kernel
theorem dX9_isOn_8 : decode cX9_isOn 8 = .ok (.goto 4, 3) := by decide +kernel
theorem dX9_isOn_11 : decode cX9_isOn 11 = .ok (.iload_n 2, 1) := by decide +kernel
theorem dX9_isOn_12 : decode cX9_isOn 12 = .ok (.iload_n 0, 1) := by decide +kernel
theorem dX9_isOn_13 : decode cX9_isOn 13 = .ok (.iload_n 2, 1) := by decide +kernel
theorem dX9_isOn_14 : decode cX9_isOn 14 = .ok (.if_icmp .ge 7, 3) := by decide +kernel
theorem dX9_isOn_17 : decode cX9_isOn 17 = .ok (.iload_n 2, 1) := by decide +kernel
theorem dX9_isOn_18 : decode cX9_isOn 18 = .ok (.goto 4, 3) := by decide +kernel
theorem dX9_isOn_21 : decode cX9_isOn 21 = .ok (.iload_n 0, 1) := by decide +kernel
theorem dX9_isOn_22 : decode cX9_isOn 22 = .ok (.invokestatic 60, 3) := by decide +kernel
theorem dX9_isOn_25 : decode cX9_isOn 25 = .ok (.ifCond .eq 35, 3) := by decide +kernel
theorem dX9_isOn_28 : decode cX9_isOn 28 = .ok (.iload 5, 2) := by decide +kernel
theorem dX9_isOn_30 : decode cX9_isOn 30 = .ok (.iload_n 1, 1) := by decide +kernel
theorem dX9_isOn_31 : decode cX9_isOn 31 = .ok (.iload_n 3, 1) := by decide +kernel
theorem dX9_isOn_32 : decode cX9_isOn 32 = .ok (.if_icmp .ge 7, 3) := by decide +kernel
theorem dX9_isOn_35 : decode cX9_isOn 35 = .ok (.iload_n 1, 1) := by decide +kernel
theorem dX9_isOn_36 : decode cX9_isOn 36 = .ok (.goto 4, 3) := by decide +kernel
theorem dX9_isOn_39 : decode cX9_isOn 39 = .ok (.iload_n 3, 1) := by decide +kernel
theorem dX9_isOn_40 : decode cX9_isOn 40 = .ok (.iload_n 1, 1) := by decide +kernel
theorem dX9_isOn_41 : decode cX9_isOn 41 = .ok (.iload_n 3, 1) := by decide +kernel
theorem dX9_isOn_42 : decode cX9_isOn 42 = .ok (.if_icmp .ge 7, 3) := by decide +kernel
theorem dX9_isOn_45 : decode cX9_isOn 45 = .ok (.iload_n 3, 1) := by decide +kernel
theorem dX9_isOn_46 : decode cX9_isOn 46 = .ok (.goto 4, 3) := by decide +kernel
theorem dX9_isOn_49 : decode cX9_isOn 49 = .ok (.iload_n 1, 1) := by decide +kernel
theorem dX9_isOn_50 : decode cX9_isOn 50 = .ok (.invokestatic 60, 3) := by decide +kernel
theorem dX9_isOn_53 : decode cX9_isOn 53 = .ok (.ifCond .eq 7, 3) := by decide +kernel
theorem dX9_isOn_56 : decode cX9_isOn 56 = .ok (.iconst 1, 1) := by decide +kernel
theorem dX9_isOn_57 : decode cX9_isOn 57 = .ok (.goto 4, 3) := by decide +kernel
theorem dX9_isOn_60 : decode cX9_isOn 60 = .ok (.iconst 0, 1) := by decide +kernel
theorem dX9_isOn_61 : decode cX9_isOn 61 = .ok (.istore 6, 2) := by decide +kernel
theorem dX9_isOn_63 : decode cX9_isOn 63 = .ok (.iload 6, 2) := by decide +kernel
theorem dX9_isOn_65 : decode cX9_isOn 65 = .ok (.ifCond .eq 21, 3) := by decide +kernel
theorem dX9_isOn_68 : decode cX9_isOn 68 = .ok (.iload_n 0, 1) := by decide +kernel
theorem dX9_isOn_69 : decode cX9_isOn 69 = .ok (.iload_n 1, 1) := by decide +kernel
theorem dX9_isOn_70 : decode cX9_isOn 70 = .ok (.iload_n 2, 1) := by decide +kernel
theorem dX9_isOn_71 : decode cX9_isOn 71 = .ok (.iload_n 3, 1) := by decide +kernel
theorem dX9_isOn_72 : decode cX9_isOn 72 = .ok (.iload 4, 2) := by decide +kernel
theorem dX9_isOn_74 : decode cX9_isOn 74 = .ok (.iload 5, 2) := by decide +kernel
theorem dX9_isOn_76 : decode cX9_isOn 76 = .ok (.invokestatic 85, 3) := by decide +kernel
theorem dX9_isOn_79 : decode cX9_isOn 79 = .ok (.ifCond .ne 7, 3) := by decide +kernel
theorem dX9_isOn_82 : decode cX9_isOn 82 = .ok (.iconst 1, 1) := by decide +kernel
theorem dX9_isOn_83 : decode cX9_isOn 83 = .ok (.goto 4, 3) := by decide +kernel
theorem dX9_isOn_86 : decode cX9_isOn 86 = .ok (.iconst 0, 1) := by decide +kernel
theorem dX9_isOn_87 : decode cX9_isOn 87 = .ok (.ireturn, 1) := by decide +kernel
theorem dX9_isCrossed_0 : decode cX9_isCrossed 0 = .ok (.aload_n 0, 1) := by decide +kernel
theorem dX9_isCrossed_1 : decode cX9_isCrossed 1 = .ok (.getfield 37, 3) := by decide +kernel
theorem dX9_isCrossed_4 : decode cX9_isCrossed 4 = .ok (.iload_n 1, 1) := by decide +kernel
theorem dX9_isCrossed_5 : decode cX9_isCrossed 5 = .ok (.iaload, 1) := by decide +kernel
theorem dX9_isCrossed_6 : decode cX9_isCrossed 6 = .ok (.aload_n 0, 1) := by decide +kernel
theorem dX9_isCrossed_7 : decode cX9_isCrossed 7 = .ok (.getfield 40, 3) := by decide +kernel
theorem dX9_isCrossed_10 : decode cX9_isCrossed 10 = .ok (.iload_n 1, 1) := by decide +kernel
theorem dX9_isCrossed_11 : decode cX9_isCrossed 11 = .ok (.iaload, 1) := by decide +kernel
theorem dX9_isCrossed_12 : decode cX9_isCrossed 12 = .ok (.aload_n 0, 1) := by decide +kernel
theorem dX9_isCrossed_13 : decode cX9_isCrossed 13 = .ok (.getfield 43, 3) := by decide +kernel
theorem dX9_isCrossed_16 : decode cX9_isCrossed 16 = .ok (.iload_n 1, 1) := by decide +kernel
theorem dX9_isCrossed_17 : decode cX9_isCrossed 17 = .ok (.iaload, 1) := by decide +kernel
theorem dX9_isCrossed_18 : decode cX9_isCrossed 18 = .ok (.aload_n 0, 1) := by decide +kernel
theorem dX9_isCrossed_19 : decode cX9_isCrossed 19 = .ok (.getfield 46, 3) := by decide +kernel
theorem dX9_isCrossed_22 : decode cX9_isCrossed 22 = .ok (.iload_n 1, 1) := by decide +kernel
theorem dX9_isCrossed_23 : decode cX9_isCrossed 23 = .ok (.iaload, 1) := by decide +kernel
theorem dX9_isCrossed_24 : decode cX9_isCrossed 24 = .ok (.iload_n 2, 1) := by decide +kernel
theorem dX9_isCrossed_25 : decode cX9_isCrossed 25 = .ok (.iload_n 3, 1) := by decide +kernel
theorem dX9_isCrossed_26 : decode cX9_isCrossed 26 = .ok (.invokestatic 85, 3) := by decide +kernel
theorem dX9_isCrossed_29 : decode cX9_isCrossed 29 = .ok (.aload_n 0, 1) := by decide +kernel
theorem dX9_isCrossed_30 : decode cX9_isCrossed 30 = .ok (.getfield 37, 3) := by decide +kernel
theorem dX9_isCrossed_33 : decode cX9_isCrossed 33 = .ok (.iload_n 1, 1) := by decide +kernel
theorem dX9_isCrossed_34 : decode cX9_isCrossed 34 = .ok (.iaload, 1) := by decide +kernel
theorem dX9_isCrossed_35 : decode cX9_isCrossed 35 = .ok (.aload_n 0, 1) := by decide +kernel
theorem dX9_isCrossed_36 : decode cX9_isCrossed 36 = .ok (.getfield 40, 3) := by decide +kernel
theorem dX9_isCrossed_39 : decode cX9_isCrossed 39 = .ok (.iload_n 1, 1) := by decide +kernel
theorem dX9_isCrossed_40 : decode cX9_isCrossed 40 = .ok (.iaload, 1) := by decide +kernel
theorem dX9_isCrossed_41 : decode cX9_isCrossed 41 = .ok (.aload_n 0, 1) := by decide +kernel
theorem dX9_isCrossed_42 : decode cX9_isCrossed 42 = .ok (.getfield 43, 3) := by decide +kernel
theorem dX9_isCrossed_45 : decode cX9_isCrossed 45 = .ok (.iload_n 1, 1) := by decide +kernel
theorem dX9_isCrossed_46 : decode cX9_isCrossed 46 = .ok (.iaload, 1) := by decide +kernel
theorem dX9_isCrossed_47 : decode cX9_isCrossed 47 = .ok (.aload_n 0, 1) := by decide +kernel
theorem dX9_isCrossed_48 : decode cX9_isCrossed 48 = .ok (.getfield 46, 3) := by decide +kernel
theorem dX9_isCrossed_51 : decode cX9_isCrossed 51 = .ok (.iload_n 1, 1) := by decide +kernel
theorem dX9_isCrossed_52 : decode cX9_isCrossed 52 = .ok (.iaload, 1) := by decide +kernel
theorem dX9_isCrossed_53 : decode cX9_isCrossed 53 = .ok (.iload 4, 2) := by decide +kernel
theorem dX9_isCrossed_55 : decode cX9_isCrossed 55 = .ok (.iload 5, 2) := by decide +kernel
theorem dX9_isCrossed_57 : decode cX9_isCrossed 57 = .ok (.invokestatic 85, 3) := by decide +kernel
theorem dX9_isCrossed_60 : decode cX9_isCrossed 60 = .ok (.imul, 1) := by decide +kernel
theorem dX9_isCrossed_61 : decode cX9_isCrossed 61 = .ok (.istore 6, 2) := by decide +kernel
theorem dX9_isCrossed_63 : decode cX9_isCrossed 63 = .ok (.iload_n 2, 1) := by decide +kernel
theorem dX9_isCrossed_64 : decode cX9_isCrossed 64 = .ok (.iload_n 3, 1) := by decide +kernel
theorem dX9_isCrossed_65 : decode cX9_isCrossed 65 = .ok (.iload 4, 2) := by decide +kernel
theorem dX9_isCrossed_67 : decode cX9_isCrossed 67 = .ok (.iload 5, 2) := by decide +kernel
theorem dX9_isCrossed_69 : decode cX9_isCrossed 69 = .ok (.aload_n 0, 1) := by decide +kernel
theorem dX9_isCrossed_70 : decode cX9_isCrossed 70 = .ok (.getfield 37, 3) := by decide +kernel
theorem dX9_isCrossed_73 : decode cX9_isCrossed 73 = .ok (.iload_n 1, 1) := by decide +kernel
theorem dX9_isCrossed_74 : decode cX9_isCrossed 74 = .ok (.iaload, 1) := by decide +kernel
theorem dX9_isCrossed_75 : decode cX9_isCrossed 75 = .ok (.aload_n 0, 1) := by decide +kernel
theorem dX9_isCrossed_76 : decode cX9_isCrossed 76 = .ok (.getfield 40, 3) := by decide +kernel
theorem dX9_isCrossed_79 : decode cX9_isCrossed 79 = .ok (.iload_n 1, 1) := by decide +kernel
theorem dX9_isCrossed_80 : decode cX9_isCrossed 80 = .ok (.iaload, 1) := by decide +kernel
theorem dX9_isCrossed_81 : decode cX9_isCrossed 81 = .ok (.invokestatic 85, 3) := by decide +kernel
theorem dX9_isCrossed_84 : decode cX9_isCrossed 84 = .ok (.iload_n 2, 1) := by decide +kernel
theorem dX9_isCrossed_85 : decode cX9_isCrossed 85 = .ok (.iload_n 3, 1) := by decide +kernel
theorem dX9_isCrossed_86 : decode cX9_isCrossed 86 = .ok (.iload 4, 2) := by decide +kernel
theorem dX9_isCrossed_88 : decode cX9_isCrossed 88 = .ok (.iload 5, 2) := by decide +kernel
theorem dX9_isCrossed_90 : decode cX9_isCrossed 90 = .ok (.aload_n 0, 1) := by decide +kernel
theorem dX9_isCrossed_91 : decode cX9_isCrossed 91 = .ok (.getfield 43, 3) := by decide +kernel
theorem dX9_isCrossed_94 : decode cX9_isCrossed 94 = .ok (.iload_n 1, 1) := by decide +kernel
theorem dX9_isCrossed_95 : decode cX9_isCrossed 95 = .ok (.iaload, 1) := by decide +kernel
theorem dX9_isCrossed_96 : decode cX9_isCrossed 96 = .ok (.aload_n 0, 1) := by decide +kernel
theorem dX9_isCrossed_97 : decode cX9_isCrossed 97 = .ok (.getfield 46, 3) := by decide +kernel
theorem dX9_isCrossed_100 : decode cX9_isCrossed 100 = .ok (.iload_n 1, 1) := by decide +kernel
theorem dX9_isCrossed_101 : decode cX9_isCrossed 101 = .ok (.iaload, 1) := by decide +kernel
theorem dX9_isCrossed_102 : decode cX9_isCrossed 102 = .ok (.invokestatic 85, 3) := by decide +kernel
theorem dX9_isCrossed_105 : decode cX9_isCrossed 105 = .ok (.imul, 1) := by decide +kernel
theorem dX9_isCrossed_106 : decode cX9_isCrossed 106 = .ok (.istore 7, 2) := by decide +kernel
theorem dX9_isCrossed_108 : decode cX9_isCrossed 108 = .ok (.iload 6, 2) := by decide +kernel
theorem dX9_isCrossed_110 : decode cX9_isCrossed 110 = .ok (.ifCond .ge 12, 3) := by decide +kernel
theorem dX9_isCrossed_113 : decode cX9_isCrossed 113 = .ok (.iload 7, 2) := by decide +kernel
theorem dX9_isCrossed_115 : decode cX9_isCrossed 115 = .ok (.ifCond .ge 7, 3) := by decide +kernel
theorem dX9_isCrossed_118 : decode cX9_isCrossed 118 = .ok (.iconst 1, 1) := by decide +kernel
theorem dX9_isCrossed_119 : decode cX9_isCrossed 119 = .ok (.goto 4, 3) := by decide +kernel
theorem dX9_isCrossed_122 : decode cX9_isCrossed 122 = .ok (.iconst 0, 1) := by decide +kernel
theorem dX9_isCrossed_123 : decode cX9_isCrossed 123 = .ok (.ireturn, 1) := by decide +kernel
theorem dX9_isMet_0 : decode cX9_isMet 0 = .ok (.aload_n 0, 1) := by decide +kernel
theorem dX9_isMet_1 : decode cX9_isMet 1 = .ok (.getfield 37, 3) := by decide +kernel
theorem dX9_isMet_4 : decode cX9_isMet 4 = .ok (.iload_n 1, 1) := by decide +kernel
theorem dX9_isMet_5 : decode cX9_isMet 5 = .ok (.iaload, 1) := by decide +kernel
theorem dX9_isMet_6 : decode cX9_isMet 6 = .ok (.aload_n 0, 1) := by decide +kernel
theorem dX9_isMet_7 : decode cX9_isMet 7 = .ok (.getfield 40, 3) := by decide +kernel
theorem dX9_isMet_10 : decode cX9_isMet 10 = .ok (.iload_n 1, 1) := by decide +kernel
theorem dX9_isMet_11 : decode cX9_isMet 11 = .ok (.iaload, 1) := by decide +kernel
theorem dX9_isMet_12 : decode cX9_isMet 12 = .ok (.aload_n 0, 1) := by decide +kernel
theorem dX9_isMet_13 : decode cX9_isMet 13 = .ok (.getfield 43, 3) := by decide +kernel
theorem dX9_isMet_16 : decode cX9_isMet 16 = .ok (.iload_n 1, 1) := by decide +kernel
theorem dX9_isMet_17 : decode cX9_isMet 17 = .ok (.iaload, 1) := by decide +kernel
theorem dX9_isMet_18 : decode cX9_isMet 18 = .ok (.aload_n 0, 1) := by decide +kernel
theorem dX9_isMet_19 : decode cX9_isMet 19 = .ok (.getfield 46, 3) := by decide +kernel
theorem dX9_isMet_22 : decode cX9_isMet 22 = .ok (.iload_n 1, 1) := by decide +kernel
theorem dX9_isMet_23 : decode cX9_isMet 23 = .ok (.iaload, 1) := by decide +kernel
theorem dX9_isMet_24 : decode cX9_isMet 24 = .ok (.iload_n 2, 1) := by decide +kernel
theorem dX9_isMet_25 : decode cX9_isMet 25 = .ok (.iload_n 3, 1) := by decide +kernel
theorem dX9_isMet_26 : decode cX9_isMet 26 = .ok (.invokestatic 89, 3) := by decide +kernel
theorem dX9_isMet_29 : decode cX9_isMet 29 = .ok (.ifCond .ne 37, 3) := by decide +kernel
theorem dX9_isMet_32 : decode cX9_isMet 32 = .ok (.aload_n 0, 1) := by decide +kernel
theorem dX9_isMet_33 : decode cX9_isMet 33 = .ok (.getfield 37, 3) := by decide +kernel
theorem dX9_isMet_36 : decode cX9_isMet 36 = .ok (.iload_n 1, 1) := by decide +kernel
theorem dX9_isMet_37 : decode cX9_isMet 37 = .ok (.iaload, 1) := by decide +kernel
theorem dX9_isMet_38 : decode cX9_isMet 38 = .ok (.aload_n 0, 1) := by decide +kernel
theorem dX9_isMet_39 : decode cX9_isMet 39 = .ok (.getfield 40, 3) := by decide +kernel
theorem dX9_isMet_42 : decode cX9_isMet 42 = .ok (.iload_n 1, 1) := by decide +kernel
theorem dX9_isMet_43 : decode cX9_isMet 43 = .ok (.iaload, 1) := by decide +kernel
theorem dX9_isMet_44 : decode cX9_isMet 44 = .ok (.aload_n 0, 1) := by decide +kernel
theorem dX9_isMet_45 : decode cX9_isMet 45 = .ok (.getfield 43, 3) := by decide +kernel
theorem dX9_isMet_48 : decode cX9_isMet 48 = .ok (.iload_n 1, 1) := by decide +kernel
theorem dX9_isMet_49 : decode cX9_isMet 49 = .ok (.iaload, 1) := by decide +kernel
theorem dX9_isMet_50 : decode cX9_isMet 50 = .ok (.aload_n 0, 1) := by decide +kernel
theorem dX9_isMet_51 : decode cX9_isMet 51 = .ok (.getfield 46, 3) := by decide +kernel
theorem dX9_isMet_54 : decode cX9_isMet 54 = .ok (.iload_n 1, 1) := by decide +kernel
theorem dX9_isMet_55 : decode cX9_isMet 55 = .ok (.iaload, 1) := by decide +kernel
theorem dX9_isMet_56 : decode cX9_isMet 56 = .ok (.iload 4, 2) := by decide +kernel
theorem dX9_isMet_58 : decode cX9_isMet 58 = .ok (.iload 5, 2) := by decide +kernel
theorem dX9_isMet_60 : decode cX9_isMet 60 = .ok (.invokestatic 89, 3) := by decide +kernel
theorem dX9_isMet_63 : decode cX9_isMet 63 = .ok (.ifCond .eq 7, 3) := by decide +kernel
theorem dX9_isMet_66 : decode cX9_isMet 66 = .ok (.iconst 1, 1) := by decide +kernel
theorem dX9_isMet_67 : decode cX9_isMet 67 = .ok (.goto 4, 3) := by decide +kernel
theorem dX9_isMet_70 : decode cX9_isMet 70 = .ok (.iconst 0, 1) := by decide +kernel
theorem dX9_isMet_71 : decode cX9_isMet 71 = .ok (.istore 6, 2) := by decide +kernel
theorem dX9_isMet_73 : decode cX9_isMet 73 = .ok (.iload 6, 2) := by decide +kernel
theorem dX9_isMet_75 : decode cX9_isMet 75 = .ok (.ifCond .ne 65, 3) := by decide +kernel
theorem dX9_isMet_78 : decode cX9_isMet 78 = .ok (.iload_n 2, 1) := by decide +kernel
theorem dX9_isMet_79 : decode cX9_isMet 79 = .ok (.iload_n 3, 1) := by decide +kernel
theorem dX9_isMet_80 : decode cX9_isMet 80 = .ok (.iload 4, 2) := by decide +kernel
theorem dX9_isMet_82 : decode cX9_isMet 82 = .ok (.iload 5, 2) := by decide +kernel
theorem dX9_isMet_84 : decode cX9_isMet 84 = .ok (.aload_n 0, 1) := by decide +kernel
theorem dX9_isMet_85 : decode cX9_isMet 85 = .ok (.getfield 37, 3) := by decide +kernel
theorem dX9_isMet_88 : decode cX9_isMet 88 = .ok (.iload_n 1, 1) := by decide +kernel
theorem dX9_isMet_89 : decode cX9_isMet 89 = .ok (.iaload, 1) := by decide +kernel
theorem dX9_isMet_90 : decode cX9_isMet 90 = .ok (.aload_n 0, 1) := by decide +kernel
theorem dX9_isMet_91 : decode cX9_isMet 91 = .ok (.getfield 40, 3) := by decide +kernel
theorem dX9_isMet_94 : decode cX9_isMet 94 = .ok (.iload_n 1, 1) := by decide +kernel
theorem dX9_isMet_95 : decode cX9_isMet 95 = .ok (.iaload, 1) := by decide +kernel
theorem dX9_isMet_96 : decode cX9_isMet 96 = .ok (.invokestatic 89, 3) := by decide +kernel
theorem dX9_isMet_99 : decode cX9_isMet 99 = .ok (.ifCond .ne 41, 3) := by decide +kernel
theorem dX9_isMet_102 : decode cX9_isMet 102 = .ok (.iload_n 2, 1) := by decide +kernel
theorem dX9_isMet_103 : decode cX9_isMet 103 = .ok (.iload_n 3, 1) := by decide +kernel
theorem dX9_isMet_104 : decode cX9_isMet 104 = .ok (.iload 4, 2) := by decide +kernel
theorem dX9_isMet_106 : decode cX9_isMet 106 = .ok (.iload 5, 2) := by decide +kernel
theorem dX9_isMet_108 : decode cX9_isMet 108 = .ok (.aload_n 0, 1) := by decide +kernel
theorem dX9_isMet_109 : decode cX9_isMet 109 = .ok (.getfield 43, 3) := by decide +kernel
theorem dX9_isMet_112 : decode cX9_isMet 112 = .ok (.iload_n 1, 1) := by decide +kernel
theorem dX9_isMet_113 : decode cX9_isMet 113 = .ok (.iaload, 1) := by decide +kernel
theorem dX9_isMet_114 : decode cX9_isMet 114 = .ok (.aload_n 0, 1) := by decide +kernel
theorem dX9_isMet_115 : decode cX9_isMet 115 = .ok (.getfield 46, 3) := by decide +kernel
theorem dX9_isMet_118 : decode cX9_isMet 118 = .ok (.iload_n 1, 1) := by decide +kernel
theorem dX9_isMet_119 : decode cX9_isMet 119 = .ok (.iaload, 1) := by decide +kernel
theorem dX9_isMet_120 : decode cX9_isMet 120 = .ok (.invokestatic 89, 3) := by decide +kernel
theorem dX9_isMet_123 : decode cX9_isMet 123 = .ok (.ifCond .ne 17, 3) := by decide +kernel
theorem dX9_isMet_126 : decode cX9_isMet 126 = .ok (.aload_n 0, 1) := by decide +kernel
theorem dX9_isMet_127 : decode cX9_isMet 127 = .ok (.iload_n 1, 1) := by decide +kernel
theorem dX9_isMet_128 : decode cX9_isMet 128 = .ok (.iload_n 2, 1) := by decide +kernel
theorem dX9_isMet_129 : decode cX9_isMet 129 = .ok (.iload_n 3, 1) := by decide +kernel
theorem dX9_isMet_130 : decode cX9_isMet 130 = .ok (.iload 4, 2) := by decide +kernel
theorem dX9_isMet_132 : decode cX9_isMet 132 = .ok (.iload 5, 2) := by decide +kernel
theorem dX9_isMet_134 : decode cX9_isMet 134 = .ok (.invokevirtual 93, 3) := by decide +kernel
theorem dX9_isMet_137 : decode cX9_isMet 137 = .ok (.ifCond .eq 7, 3) := by decide +kernel
theorem dX9_isMet_140 : decode cX9_isMet 140 = .ok (.iconst 1, 1) := by decide +kernel
theorem dX9_isMet_141 : decode cX9_isMet 141 = .ok (.goto 4, 3) := by decide +kernel
theorem dX9_isMet_144 : decode cX9_isMet 144 = .ok (.iconst 0, 1) := by decide +kernel
theorem dX9_isMet_145 : decode cX9_isMet 145 = .ok (.ireturn, 1) := by decide +kernel
theorem dX9_isSameWay_0 : decode cX9_isSameWay 0 = .ok (.iload_n 0, 1) := by decide +kernel
theorem dX9_isSameWay_1 : decode cX9_isSameWay 1 = .ok (.iload_n 1, 1) := by decide +kernel
theorem dX9_isSameWay_2 : decode cX9_isSameWay 2 = .ok (.iload_n 2, 1) := by decide +kernel
theorem dX9_isSameWay_3 : decode cX9_isSameWay 3 = .ok (.iload_n 3, 1) := by decide +kernel
theorem dX9_isSameWay_4 : decode cX9_isSameWay 4 = .ok (.iload 4, 2) := by decide +kernel
theorem dX9_isSameWay_6 : decode cX9_isSameWay 6 = .ok (.iload 5, 2) := by decide +kernel
theorem dX9_isSameWay_8 : decode cX9_isSameWay 8 = .ok (.invokestatic 85, 3) := by decide +kernel
theorem dX9_isSameWay_11 : decode cX9_isSameWay 11 = .ok (.ifCond .ne 27, 3) := by decide +kernel
theorem dX9_isSameWay_14 : decode cX9_isSameWay 14 = .ok (.iload_n 2, 1) := by decide +kernel
theorem dX9_isSameWay_15 : decode cX9_isSameWay 15 = .ok (.iload_n 0, 1) := by decide +kernel
theorem dX9_isSameWay_16 : decode cX9_isSameWay 16 = .ok (.isub, 1) := by decide +kernel
theorem dX9_isSameWay_17 : decode cX9_isSameWay 17 = .ok (.iload 4, 2) := by decide +kernel
theorem dX9_isSameWay_19 : decode cX9_isSameWay 19 = .ok (.iload_n 0, 1) := by decide +kernel
theorem dX9_isSameWay_20 : decode cX9_isSameWay 20 = .ok (.isub, 1) := by decide +kernel
theorem dX9_isSameWay_21 : decode cX9_isSameWay 21 = .ok (.imul, 1) := by decide +kernel
theorem dX9_isSameWay_22 : decode cX9_isSameWay 22 = .ok (.iload_n 3, 1) := by decide +kernel
theorem dX9_isSameWay_23 : decode cX9_isSameWay 23 = .ok (.iload_n 1, 1) := by decide +kernel
theorem dX9_isSameWay_24 : decode cX9_isSameWay 24 = .ok (.isub, 1) := by decide +kernel
theorem dX9_isSameWay_25 : decode cX9_isSameWay 25 = .ok (.iload 5, 2) := by decide +kernel
theorem dX9_isSameWay_27 : decode cX9_isSameWay 27 = .ok (.iload_n 1, 1) := by decide +kernel
theorem dX9_isSameWay_28 : decode cX9_isSameWay 28 = .ok (.isub, 1) := by decide +kernel
theorem dX9_isSameWay_29 : decode cX9_isSameWay 29 = .ok (.imul, 1) := by decide +kernel
theorem dX9_isSameWay_30 : decode cX9_isSameWay 30 = .ok (.iadd, 1) := by decide +kernel
theorem dX9_isSameWay_31 : decode cX9_isSameWay 31 = .ok (.ifCond .le 7, 3) := by decide +kernel
theorem dX9_isSameWay_34 : decode cX9_isSameWay 34 = .ok (.iconst 1, 1) := by decide +kernel
theorem dX9_isSameWay_35 : decode cX9_isSameWay 35 = .ok (.goto 4, 3) := by decide +kernel
theorem dX9_isSameWay_38 : decode cX9_isSameWay 38 = .ok (.iconst 0, 1) := by decide +kernel
theorem dX9_isSameWay_39 : decode cX9_isSameWay 39 = .ok (.ireturn, 1) := by decide +kernel
theorem dX9_isNext_0 : decode cX9_isNext 0 = .ok (.aload_n 0, 1) := by decide +kernel
theorem dX9_isNext_1 : decode cX9_isNext 1 = .ok (.getfield 31, 3) := by decide +kernel
theorem dX9_isNext_4 : decode cX9_isNext 4 = .ok (.iload_n 1, 1) := by decide +kernel
theorem dX9_isNext_5 : decode cX9_isNext 5 = .ok (.iaload, 1) := by decide +kernel
theorem dX9_isNext_6 : decode cX9_isNext 6 = .ok (.aload_n 0, 1) := by decide +kernel
theorem dX9_isNext_7 : decode cX9_isNext 7 = .ok (.getfield 31, 3) := by decide +kernel
theorem dX9_isNext_10 : decode cX9_isNext 10 = .ok (.iload_n 2, 1) := by decide +kernel
theorem dX9_isNext_11 : decode cX9_isNext 11 = .ok (.iaload, 1) := by decide +kernel
theorem dX9_isNext_12 : decode cX9_isNext 12 = .ok (.if_icmp .ne 32, 3) := by decide +kernel
theorem dX9_isNext_15 : decode cX9_isNext 15 = .ok (.aload_n 0, 1) := by decide +kernel
theorem dX9_isNext_16 : decode cX9_isNext 16 = .ok (.aload_n 0, 1) := by decide +kernel
theorem dX9_isNext_17 : decode cX9_isNext 17 = .ok (.getfield 31, 3) := by decide +kernel
theorem dX9_isNext_20 : decode cX9_isNext 20 = .ok (.iload_n 1, 1) := by decide +kernel
theorem dX9_isNext_21 : decode cX9_isNext 21 = .ok (.iaload, 1) := by decide +kernel
theorem dX9_isNext_22 : decode cX9_isNext 22 = .ok (.aload_n 0, 1) := by decide +kernel
theorem dX9_isNext_23 : decode cX9_isNext 23 = .ok (.getfield 34, 3) := by decide +kernel
theorem dX9_isNext_26 : decode cX9_isNext 26 = .ok (.iload_n 1, 1) := by decide +kernel
theorem dX9_isNext_27 : decode cX9_isNext 27 = .ok (.iaload, 1) := by decide +kernel
theorem dX9_isNext_28 : decode cX9_isNext 28 = .ok (.invokevirtual 82, 3) := by decide +kernel
theorem dX9_isNext_31 : decode cX9_isNext 31 = .ok (.aload_n 0, 1) := by decide +kernel
theorem dX9_isNext_32 : decode cX9_isNext 32 = .ok (.getfield 34, 3) := by decide +kernel
theorem dX9_isNext_35 : decode cX9_isNext 35 = .ok (.iload_n 2, 1) := by decide +kernel
theorem dX9_isNext_36 : decode cX9_isNext 36 = .ok (.iaload, 1) := by decide +kernel
theorem dX9_isNext_37 : decode cX9_isNext 37 = .ok (.if_icmp .ne 7, 3) := by decide +kernel
theorem dX9_isNext_40 : decode cX9_isNext 40 = .ok (.iconst 1, 1) := by decide +kernel
theorem dX9_isNext_41 : decode cX9_isNext 41 = .ok (.goto 4, 3) := by decide +kernel
theorem dX9_isNext_44 : decode cX9_isNext 44 = .ok (.iconst 0, 1) := by decide +kernel
theorem dX9_isNext_45 : decode cX9_isNext 45 = .ok (.ireturn, 1) := by decide +kernel
theorem dX9_areTouching_0 : decode cX9_areTouching 0 = .ok (.aload_n 0, 1) := by decide +kernel
theorem dX9_areTouching_1 : decode cX9_areTouching 1 = .ok (.iload_n 1, 1) := by decide +kernel
theorem dX9_areTouching_2 : decode cX9_areTouching 2 = .ok (.iload_n 2, 1) := by decide +kernel
theorem dX9_areTouching_3 : decode cX9_areTouching 3 = .ok (.invokevirtual 97, 3) := by decide +kernel
theorem dX9_areTouching_6 : decode cX9_areTouching 6 = .ok (.ifCond .eq 43, 3) := by decide +kernel
theorem dX9_areTouching_9 : decode cX9_areTouching 9 = .ok (.aload_n 0, 1) := by decide +kernel
theorem dX9_areTouching_10 : decode cX9_areTouching 10 = .ok (.getfield 43, 3) := by decide +kernel
theorem dX9_areTouching_13 : decode cX9_areTouching 13 = .ok (.iload_n 1, 1) := by decide +kernel
theorem dX9_areTouching_14 : decode cX9_areTouching 14 = .ok (.iaload, 1) := by decide +kernel
theorem dX9_areTouching_15 : decode cX9_areTouching 15 = .ok (.aload_n 0, 1) := by decide +kernel
theorem dX9_areTouching_16 : decode cX9_areTouching 16 = .ok (.getfield 46, 3) := by decide +kernel
theorem dX9_areTouching_19 : decode cX9_areTouching 19 = .ok (.iload_n 1, 1) := by decide +kernel
theorem dX9_areTouching_20 : decode cX9_areTouching 20 = .ok (.iaload, 1) := by decide +kernel
theorem dX9_areTouching_21 : decode cX9_areTouching 21 = .ok (.aload_n 0, 1) := by decide +kernel
theorem dX9_areTouching_22 : decode cX9_areTouching 22 = .ok (.getfield 37, 3) := by decide +kernel
theorem dX9_areTouching_25 : decode cX9_areTouching 25 = .ok (.iload_n 1, 1) := by decide +kernel
theorem dX9_areTouching_26 : decode cX9_areTouching 26 = .ok (.iaload, 1) := by decide +kernel
theorem dX9_areTouching_27 : decode cX9_areTouching 27 = .ok (.aload_n 0, 1) := by decide +kernel
theorem dX9_areTouching_28 : decode cX9_areTouching 28 = .ok (.getfield 40, 3) := by decide +kernel
theorem dX9_areTouching_31 : decode cX9_areTouching 31 = .ok (.iload_n 1, 1) := by decide +kernel
theorem dX9_areTouching_32 : decode cX9_areTouching 32 = .ok (.iaload, 1) := by decide +kernel
theorem dX9_areTouching_33 : decode cX9_areTouching 33 = .ok (.aload_n 0, 1) := by decide +kernel
theorem dX9_areTouching_34 : decode cX9_areTouching 34 = .ok (.getfield 43, 3) := by decide +kernel
theorem dX9_areTouching_37 : decode cX9_areTouching 37 = .ok (.iload_n 2, 1) := by decide +kernel
theorem dX9_areTouching_38 : decode cX9_areTouching 38 = .ok (.iaload, 1) := by decide +kernel
theorem dX9_areTouching_39 : decode cX9_areTouching 39 = .ok (.aload_n 0, 1) := by decide +kernel
theorem dX9_areTouching_40 : decode cX9_areTouching 40 = .ok (.getfield 46, 3) := by decide +kernel
theorem dX9_areTouching_43 : decode cX9_areTouching 43 = .ok (.iload_n 2, 1) := by decide +kernel
theorem dX9_areTouching_44 : decode cX9_areTouching 44 = .ok (.iaload, 1) := by decide +kernel
theorem dX9_areTouching_45 : decode cX9_areTouching 45 = .ok (.invokestatic 101, 3) := by decide +kernel
theorem dX9_areTouching_48 : decode cX9_areTouching 48 = .ok (.ireturn, 1) := by decide +kernel
theorem dX9_areTouching_49 : decode cX9_areTouching 49 = .ok (.aload_n 0, 1) := by decide +kernel
theorem dX9_areTouching_50 : decode cX9_areTouching 50 = .ok (.iload_n 2, 1) := by decide +kernel
theorem dX9_areTouching_51 : decode cX9_areTouching 51 = .ok (.iload_n 1, 1) := by decide +kernel
theorem dX9_areTouching_52 : decode cX9_areTouching 52 = .ok (.invokevirtual 97, 3) := by decide +kernel
theorem dX9_areTouching_55 : decode cX9_areTouching 55 = .ok (.ifCond .eq 43, 3) := by decide +kernel
theorem dX9_areTouching_58 : decode cX9_areTouching 58 = .ok (.aload_n 0, 1) := by decide +kernel
theorem dX9_areTouching_59 : decode cX9_areTouching 59 = .ok (.getfield 43, 3) := by decide +kernel
theorem dX9_areTouching_62 : decode cX9_areTouching 62 = .ok (.iload_n 2, 1) := by decide +kernel
theorem dX9_areTouching_63 : decode cX9_areTouching 63 = .ok (.iaload, 1) := by decide +kernel
theorem dX9_areTouching_64 : decode cX9_areTouching 64 = .ok (.aload_n 0, 1) := by decide +kernel
theorem dX9_areTouching_65 : decode cX9_areTouching 65 = .ok (.getfield 46, 3) := by decide +kernel
theorem dX9_areTouching_68 : decode cX9_areTouching 68 = .ok (.iload_n 2, 1) := by decide +kernel
theorem dX9_areTouching_69 : decode cX9_areTouching 69 = .ok (.iaload, 1) := by decide +kernel
theorem dX9_areTouching_70 : decode cX9_areTouching 70 = .ok (.aload_n 0, 1) := by decide +kernel
theorem dX9_areTouching_71 : decode cX9_areTouching 71 = .ok (.getfield 37, 3) := by decide +kernel
theorem dX9_areTouching_74 : decode cX9_areTouching 74 = .ok (.iload_n 2, 1) := by decide +kernel
theorem dX9_areTouching_75 : decode cX9_areTouching 75 = .ok (.iaload, 1) := by decide +kernel
theorem dX9_areTouching_76 : decode cX9_areTouching 76 = .ok (.aload_n 0, 1) := by decide +kernel
theorem dX9_areTouching_77 : decode cX9_areTouching 77 = .ok (.getfield 40, 3) := by decide +kernel
theorem dX9_areTouching_80 : decode cX9_areTouching 80 = .ok (.iload_n 2, 1) := by decide +kernel
theorem dX9_areTouching_81 : decode cX9_areTouching 81 = .ok (.iaload, 1) := by decide +kernel
theorem dX9_areTouching_82 : decode cX9_areTouching 82 = .ok (.aload_n 0, 1) := by decide +kernel
theorem dX9_areTouching_83 : decode cX9_areTouching 83 = .ok (.getfield 43, 3) := by decide +kernel
theorem dX9_areTouching_86 : decode cX9_areTouching 86 = .ok (.iload_n 1, 1) := by decide +kernel
theorem dX9_areTouching_87 : decode cX9_areTouching 87 = .ok (.iaload, 1) := by decide +kernel
theorem dX9_areTouching_88 : decode cX9_areTouching 88 = .ok (.aload_n 0, 1) := by decide +kernel
theorem dX9_areTouching_89 : decode cX9_areTouching 89 = .ok (.getfield 46, 3) := by decide +kernel
theorem dX9_areTouching_92 : decode cX9_areTouching 92 = .ok (.iload_n 1, 1) := by decide +kernel
theorem dX9_areTouching_93 : decode cX9_areTouching 93 = .ok (.iaload, 1) := by decide +kernel
theorem dX9_areTouching_94 : decode cX9_areTouching 94 = .ok (.invokestatic 101, 3) := by decide +kernel
theorem dX9_areTouching_97 : decode cX9_areTouching 97 = .ok (.ireturn, 1) := by decide +kernel
theorem dX9_areTouching_98 : decode cX9_areTouching 98 = .ok (.aload_n 0, 1) := by decide +kernel
theorem dX9_areTouching_99 : decode cX9_areTouching 99 = .ok (.iload_n 1, 1) := by decide +kernel
theorem dX9_areTouching_100 : decode cX9_areTouching 100 = .ok (.aload_n 0, 1) := by decide +kernel
theorem dX9_areTouching_101 : decode cX9_areTouching 101 = .ok (.getfield 37, 3) := by decide +kernel
theorem dX9_areTouching_104 : decode cX9_areTouching 104 = .ok (.iload_n 2, 1) := by decide +kernel
theorem dX9_areTouching_105 : decode cX9_areTouching 105 = .ok (.iaload, 1) := by decide +kernel
theorem dX9_areTouching_106 : decode cX9_areTouching 106 = .ok (.aload_n 0, 1) := by decide +kernel
theorem dX9_areTouching_107 : decode cX9_areTouching 107 = .ok (.getfield 40, 3) := by decide +kernel
theorem dX9_areTouching_110 : decode cX9_areTouching 110 = .ok (.iload_n 2, 1) := by decide +kernel
theorem dX9_areTouching_111 : decode cX9_areTouching 111 = .ok (.iaload, 1) := by decide +kernel
theorem dX9_areTouching_112 : decode cX9_areTouching 112 = .ok (.aload_n 0, 1) := by decide +kernel
theorem dX9_areTouching_113 : decode cX9_areTouching 113 = .ok (.getfield 43, 3) := by decide +kernel
theorem dX9_areTouching_116 : decode cX9_areTouching 116 = .ok (.iload_n 2, 1) := by decide +kernel
theorem dX9_areTouching_117 : decode cX9_areTouching 117 = .ok (.iaload, 1) := by decide +kernel
theorem dX9_areTouching_118 : decode cX9_areTouching 118 = .ok (.aload_n 0, 1) := by decide +kernel
theorem dX9_areTouching_119 : decode cX9_areTouching 119 = .ok (.getfield 46, 3) := by decide +kernel
theorem dX9_areTouching_122 : decode cX9_areTouching 122 = .ok (.iload_n 2, 1) := by decide +kernel
theorem dX9_areTouching_123 : decode cX9_areTouching 123 = .ok (.iaload, 1) := by decide +kernel
theorem dX9_areTouching_124 : decode cX9_areTouching 124 = .ok (.invokevirtual 104, 3) := by decide +kernel
theorem dX9_areTouching_127 : decode cX9_areTouching 127 = .ok (.ireturn, 1) := by decide +kernel
theorem dX9_surrounds_0 : decode cX9_surrounds 0 = .ok (.iconst 0, 1) := by decide +kernel
theorem dX9_surrounds_1 : decode cX9_surrounds 1 = .ok (.istore 4, 2) := by decide +kernel
theorem dX9_surrounds_3 : decode cX9_surrounds 3 = .ok (.iconst 0, 1) := by decide +kernel
theorem dX9_surrounds_4 : decode cX9_surrounds 4 = .ok (.istore 5, 2) := by decide +kernel
theorem dX9_surrounds_6 : decode cX9_surrounds 6 = .ok (.iload 5, 2) := by decide +kernel
theorem dX9_surrounds_8 : decode cX9_surrounds 8 = .ok (.aload_n 0, 1) := by decide +kernel
theorem dX9_surrounds_9 : decode cX9_surrounds 9 = .ok (.iload_n 1, 1) := by decide +kernel
theorem dX9_surrounds_10 : decode cX9_surrounds 10 = .ok (.invokevirtual 68, 3) := by decide +kernel
theorem dX9_surrounds_13 : decode cX9_surrounds 13 = .ok (.if_icmp .ge 165, 3) := by decide +kernel
theorem dX9_surrounds_16 : decode cX9_surrounds 16 = .ok (.iconst 2, 1) := by decide +kernel
theorem dX9_surrounds_17 : decode cX9_surrounds 17 = .ok (.aload_n 0, 1) := by decide +kernel
theorem dX9_surrounds_18 : decode cX9_surrounds 18 = .ok (.iload_n 1, 1) := by decide +kernel
theorem dX9_surrounds_19 : decode cX9_surrounds 19 = .ok (.iload 5, 2) := by decide +kernel
theorem dX9_surrounds_21 : decode cX9_surrounds 21 = .ok (.invokevirtual 75, 3) := by decide +kernel
theorem dX9_surrounds_24 : decode cX9_surrounds 24 = .ok (.imul, 1) := by decide +kernel
theorem dX9_surrounds_25 : decode cX9_surrounds 25 = .ok (.istore 6, 2) := by decide +kernel
theorem dX9_surrounds_27 : decode cX9_surrounds 27 = .ok (.iconst 2, 1) := by decide +kernel
theorem dX9_surrounds_28 : decode cX9_surrounds 28 = .ok (.aload_n 0, 1) := by decide +kernel
theorem dX9_surrounds_29 : decode cX9_surrounds 29 = .ok (.iload_n 1, 1) := by decide +kernel
theorem dX9_surrounds_30 : decode cX9_surrounds 30 = .ok (.iload 5, 2) := by decide +kernel
theorem dX9_surrounds_32 : decode cX9_surrounds 32 = .ok (.invokevirtual 79, 3) := by decide +kernel
theorem dX9_surrounds_35 : decode cX9_surrounds 35 = .ok (.imul, 1) := by decide +kernel
theorem dX9_surrounds_36 : decode cX9_surrounds 36 = .ok (.istore 7, 2) := by decide +kernel
theorem dX9_surrounds_38 : decode cX9_surrounds 38 = .ok (.iconst 2, 1) := by decide +kernel
theorem dX9_surrounds_39 : decode cX9_surrounds 39 = .ok (.aload_n 0, 1) := by decide +kernel
theorem dX9_surrounds_40 : decode cX9_surrounds 40 = .ok (.iload_n 1, 1) := by decide +kernel
theorem dX9_surrounds_41 : decode cX9_surrounds 41 = .ok (.aload_n 0, 1) := by decide +kernel
theorem dX9_surrounds_42 : decode cX9_surrounds 42 = .ok (.iload_n 1, 1) := by decide +kernel
theorem dX9_surrounds_43 : decode cX9_surrounds 43 = .ok (.iload 5, 2) := by decide +kernel
theorem dX9_surrounds_45 : decode cX9_surrounds 45 = .ok (.invokevirtual 82, 3) := by decide +kernel
theorem dX9_surrounds_48 : decode cX9_surrounds 48 = .ok (.invokevirtual 75, 3) := by decide +kernel
theorem dX9_surrounds_51 : decode cX9_surrounds 51 = .ok (.imul, 1) := by decide +kernel
theorem dX9_surrounds_52 : decode cX9_surrounds 52 = .ok (.istore 8, 2) := by decide +kernel
theorem dX9_surrounds_54 : decode cX9_surrounds 54 = .ok (.iconst 2, 1) := by decide +kernel
theorem dX9_surrounds_55 : decode cX9_surrounds 55 = .ok (.aload_n 0, 1) := by decide +kernel
theorem dX9_surrounds_56 : decode cX9_surrounds 56 = .ok (.iload_n 1, 1) := by decide +kernel
theorem dX9_surrounds_57 : decode cX9_surrounds 57 = .ok (.aload_n 0, 1) := by decide +kernel
theorem dX9_surrounds_58 : decode cX9_surrounds 58 = .ok (.iload_n 1, 1) := by decide +kernel
theorem dX9_surrounds_59 : decode cX9_surrounds 59 = .ok (.iload 5, 2) := by decide +kernel
theorem dX9_surrounds_61 : decode cX9_surrounds 61 = .ok (.invokevirtual 82, 3) := by decide +kernel
theorem dX9_surrounds_64 : decode cX9_surrounds 64 = .ok (.invokevirtual 79, 3) := by decide +kernel
theorem dX9_surrounds_67 : decode cX9_surrounds 67 = .ok (.imul, 1) := by decide +kernel
theorem dX9_surrounds_68 : decode cX9_surrounds 68 = .ok (.istore 9, 2) := by decide +kernel
theorem dX9_surrounds_70 : decode cX9_surrounds 70 = .ok (.iload 8, 2) := by decide +kernel
theorem dX9_surrounds_72 : decode cX9_surrounds 72 = .ok (.iload 6, 2) := by decide +kernel
theorem dX9_surrounds_74 : decode cX9_surrounds 74 = .ok (.isub, 1) := by decide +kernel
theorem dX9_surrounds_75 : decode cX9_surrounds 75 = .ok (.iload_n 3, 1) := by decide +kernel
theorem dX9_surrounds_76 : decode cX9_surrounds 76 = .ok (.iload 7, 2) := by decide +kernel
theorem dX9_surrounds_78 : decode cX9_surrounds 78 = .ok (.isub, 1) := by decide +kernel
theorem dX9_surrounds_79 : decode cX9_surrounds 79 = .ok (.imul, 1) := by decide +kernel
theorem dX9_surrounds_80 : decode cX9_surrounds 80 = .ok (.iload_n 2, 1) := by decide +kernel
theorem dX9_surrounds_81 : decode cX9_surrounds 81 = .ok (.iload 6, 2) := by decide +kernel
theorem dX9_surrounds_83 : decode cX9_surrounds 83 = .ok (.isub, 1) := by decide +kernel
theorem dX9_surrounds_84 : decode cX9_surrounds 84 = .ok (.iload 9, 2) := by decide +kernel
theorem dX9_surrounds_86 : decode cX9_surrounds 86 = .ok (.iload 7, 2) := by decide +kernel
theorem dX9_surrounds_88 : decode cX9_surrounds 88 = .ok (.isub, 1) := by decide +kernel
theorem dX9_surrounds_89 : decode cX9_surrounds 89 = .ok (.imul, 1) := by decide +kernel
theorem dX9_surrounds_90 : decode cX9_surrounds 90 = .ok (.isub, 1) := by decide +kernel
theorem dX9_surrounds_91 : decode cX9_surrounds 91 = .ok (.istore 10, 2) := by decide +kernel
theorem dX9_surrounds_93 : decode cX9_surrounds 93 = .ok (.iload 9, 2) := by decide +kernel
theorem dX9_surrounds_95 : decode cX9_surrounds 95 = .ok (.iload 7, 2) := by decide +kernel
theorem dX9_surrounds_97 : decode cX9_surrounds 97 = .ok (.if_icmp .le 16, 3) := by decide +kernel
theorem dX9_surrounds_100 : decode cX9_surrounds 100 = .ok (.iload 10, 2) := by decide +kernel
theorem dX9_surrounds_102 : decode cX9_surrounds 102 = .ok (.ifCond .le 7, 3) := by decide +kernel
theorem dX9_surrounds_105 : decode cX9_surrounds 105 = .ok (.iconst 1, 1) := by decide +kernel
theorem dX9_surrounds_106 : decode cX9_surrounds 106 = .ok (.goto 17, 3) := by decide +kernel
theorem dX9_surrounds_109 : decode cX9_surrounds 109 = .ok (.iconst 0, 1) := by decide +kernel
theorem dX9_surrounds_110 : decode cX9_surrounds 110 = .ok (.goto 13, 3) := by decide +kernel
theorem dX9_surrounds_113 : decode cX9_surrounds 113 = .ok (.iload 10, 2) := by decide +kernel
theorem dX9_surrounds_115 : decode cX9_surrounds 115 = .ok (.ifCond .ge 7, 3) := by decide +kernel
theorem dX9_surrounds_118 : decode cX9_surrounds 118 = .ok (.iconst 1, 1) := by decide +kernel
theorem dX9_surrounds_119 : decode cX9_surrounds 119 = .ok (.goto 4, 3) := by decide +kernel
theorem dX9_surrounds_122 : decode cX9_surrounds 122 = .ok (.iconst 0, 1) := by decide +kernel
theorem dX9_surrounds_123 : decode cX9_surrounds 123 = .ok (.istore 11, 2) := by decide +kernel
theorem dX9_surrounds_125 : decode cX9_surrounds 125 = .ok (.iload 7, 2) := by decide +kernel
theorem dX9_surrounds_127 : decode cX9_surrounds 127 = .ok (.iload_n 3, 1) := by decide +kernel
theorem dX9_surrounds_128 : decode cX9_surrounds 128 = .ok (.if_icmp .le 7, 3) := by decide +kernel
theorem dX9_surrounds_131 : decode cX9_surrounds 131 = .ok (.iconst 1, 1) := by decide +kernel
theorem dX9_surrounds_132 : decode cX9_surrounds 132 = .ok (.goto 4, 3) := by decide +kernel
theorem dX9_surrounds_135 : decode cX9_surrounds 135 = .ok (.iconst 0, 1) := by decide +kernel
theorem dX9_surrounds_136 : decode cX9_surrounds 136 = .ok (.iload 9, 2) := by decide +kernel
theorem dX9_surrounds_138 : decode cX9_surrounds 138 = .ok (.iload_n 3, 1) := by decide +kernel
theorem dX9_surrounds_139 : decode cX9_surrounds 139 = .ok (.if_icmp .le 7, 3) := by decide +kernel
theorem dX9_surrounds_142 : decode cX9_surrounds 142 = .ok (.iconst 1, 1) := by decide +kernel
theorem dX9_surrounds_143 : decode cX9_surrounds 143 = .ok (.goto 4, 3) := by decide +kernel
theorem dX9_surrounds_146 : decode cX9_surrounds 146 = .ok (.iconst 0, 1) := by decide +kernel
theorem dX9_surrounds_147 : decode cX9_surrounds 147 = .ok (.if_icmp .eq 21, 3) := by decide +kernel
theorem dX9_surrounds_150 : decode cX9_surrounds 150 = .ok (.iload 11, 2) := by decide +kernel
theorem dX9_surrounds_152 : decode cX9_surrounds 152 = .ok (.ifCond .eq 16, 3) := by decide +kernel
theorem dX9_surrounds_155 : decode cX9_surrounds 155 = .ok (.iload 4, 2) := by decide +kernel
theorem dX9_surrounds_157 : decode cX9_surrounds 157 = .ok (.ifCond .ne 7, 3) := by decide +kernel
theorem dX9_surrounds_160 : decode cX9_surrounds 160 = .ok (.iconst 1, 1) := by decide +kernel
theorem dX9_surrounds_161 : decode cX9_surrounds 161 = .ok (.goto 9, 3) := by decide +kernel
theorem dX9_surrounds_164 : decode cX9_surrounds 164 = .ok (.iconst 0, 1) := by decide +kernel
theorem dX9_surrounds_165 : decode cX9_surrounds 165 = .ok (.goto 5, 3) := by decide +kernel
theorem dX9_surrounds_168 : decode cX9_surrounds 168 = .ok (.iload 4, 2) := by decide +kernel
theorem dX9_surrounds_170 : decode cX9_surrounds 170 = .ok (.istore 4, 2) := by decide +kernel
theorem dX9_surrounds_172 : decode cX9_surrounds 172 = .ok (.iinc 5 1, 3) := by decide +kernel
theorem dX9_surrounds_175 : decode cX9_surrounds 175 = .ok (.goto (-169), 3) := by decide +kernel
theorem dX9_surrounds_178 : decode cX9_surrounds 178 = .ok (.iload 4, 2) := by decide +kernel
theorem dX9_surrounds_180 : decode cX9_surrounds 180 = .ok (.ireturn, 1) := by decide +kernel
theorem dX9_isRule5_0 : decode cX9_isRule5 0 = .ok (.iconst 1, 1) := by decide +kernel
theorem dX9_isRule5_1 : decode cX9_isRule5 1 = .ok (.istore_n 1, 1) := by decide +kernel
theorem dX9_isRule5_2 : decode cX9_isRule5 2 = .ok (.iconst 1, 1) := by decide +kernel
theorem dX9_isRule5_3 : decode cX9_isRule5 3 = .ok (.istore_n 2, 1) := by decide +kernel
theorem dX9_isRule5_4 : decode cX9_isRule5 4 = .ok (.iload_n 2, 1) := by decide +kernel
theorem dX9_isRule5_5 : decode cX9_isRule5 5 = .ok (.aload_n 0, 1) := by decide +kernel
theorem dX9_isRule5_6 : decode cX9_isRule5 6 = .ok (.getfield 7, 3) := by decide +kernel
theorem dX9_isRule5_9 : decode cX9_isRule5 9 = .ok (.iconst 0, 1) := by decide +kernel
theorem dX9_isRule5_10 : decode cX9_isRule5 10 = .ok (.iaload, 1) := by decide +kernel
theorem dX9_isRule5_11 : decode cX9_isRule5 11 = .ok (.if_icmp .ge 97, 3) := by decide +kernel
theorem dX9_isRule5_14 : decode cX9_isRule5 14 = .ok (.iconst 0, 1) := by decide +kernel
theorem dX9_isRule5_15 : decode cX9_isRule5 15 = .ok (.istore_n 3, 1) := by decide +kernel
theorem dX9_isRule5_16 : decode cX9_isRule5 16 = .ok (.iload_n 3, 1) := by decide +kernel
theorem dX9_isRule5_17 : decode cX9_isRule5 17 = .ok (.aload_n 0, 1) := by decide +kernel
theorem dX9_isRule5_18 : decode cX9_isRule5 18 = .ok (.iload_n 2, 1) := by decide +kernel
theorem dX9_isRule5_19 : decode cX9_isRule5 19 = .ok (.invokevirtual 68, 3) := by decide +kernel
theorem dX9_isRule5_22 : decode cX9_isRule5 22 = .ok (.if_icmp .ge 80, 3) := by decide +kernel
theorem dX9_isRule5_25 : decode cX9_isRule5 25 = .ok (.iconst 0, 1) := by decide +kernel
theorem dX9_isRule5_26 : decode cX9_isRule5 26 = .ok (.istore 4, 2) := by decide +kernel
theorem dX9_isRule5_28 : decode cX9_isRule5 28 = .ok (.iload 4, 2) := by decide +kernel
theorem dX9_isRule5_30 : decode cX9_isRule5 30 = .ok (.aload_n 0, 1) := by decide +kernel
theorem dX9_isRule5_31 : decode cX9_isRule5 31 = .ok (.getfield 7, 3) := by decide +kernel
theorem dX9_isRule5_34 : decode cX9_isRule5 34 = .ok (.iconst 0, 1) := by decide +kernel
theorem dX9_isRule5_35 : decode cX9_isRule5 35 = .ok (.iaload, 1) := by decide +kernel
theorem dX9_isRule5_36 : decode cX9_isRule5 36 = .ok (.if_icmp .ge 60, 3) := by decide +kernel
theorem dX9_isRule5_39 : decode cX9_isRule5 39 = .ok (.iload_n 1, 1) := by decide +kernel
theorem dX9_isRule5_40 : decode cX9_isRule5 40 = .ok (.ifCond .eq 48, 3) := by decide +kernel
theorem dX9_isRule5_43 : decode cX9_isRule5 43 = .ok (.iload 4, 2) := by decide +kernel
theorem dX9_isRule5_45 : decode cX9_isRule5 45 = .ok (.iload_n 2, 1) := by decide +kernel
theorem dX9_isRule5_46 : decode cX9_isRule5 46 = .ok (.if_icmp .eq 38, 3) := by decide +kernel
theorem dX9_isRule5_49 : decode cX9_isRule5 49 = .ok (.aload_n 0, 1) := by decide +kernel
theorem dX9_isRule5_50 : decode cX9_isRule5 50 = .ok (.iload 4, 2) := by decide +kernel
theorem dX9_isRule5_52 : decode cX9_isRule5 52 = .ok (.iconst 2, 1) := by decide +kernel
theorem dX9_isRule5_53 : decode cX9_isRule5 53 = .ok (.aload_n 0, 1) := by decide +kernel
theorem dX9_isRule5_54 : decode cX9_isRule5 54 = .ok (.iload_n 2, 1) := by decide +kernel
theorem dX9_isRule5_55 : decode cX9_isRule5 55 = .ok (.iload_n 3, 1) := by decide +kernel
theorem dX9_isRule5_56 : decode cX9_isRule5 56 = .ok (.invokevirtual 75, 3) := by decide +kernel
theorem dX9_isRule5_59 : decode cX9_isRule5 59 = .ok (.imul, 1) := by decide +kernel
theorem dX9_isRule5_60 : decode cX9_isRule5 60 = .ok (.iconst 2, 1) := by decide +kernel
theorem dX9_isRule5_61 : decode cX9_isRule5 61 = .ok (.aload_n 0, 1) := by decide +kernel
theorem dX9_isRule5_62 : decode cX9_isRule5 62 = .ok (.iload_n 2, 1) := by decide +kernel
theorem dX9_isRule5_63 : decode cX9_isRule5 63 = .ok (.iload_n 3, 1) := by decide +kernel
theorem dX9_isRule5_64 : decode cX9_isRule5 64 = .ok (.invokevirtual 79, 3) := by decide +kernel
theorem dX9_isRule5_67 : decode cX9_isRule5 67 = .ok (.imul, 1) := by decide +kernel
theorem dX9_isRule5_68 : decode cX9_isRule5 68 = .ok (.invokevirtual 107, 3) := by decide +kernel
theorem dX9_isRule5_71 : decode cX9_isRule5 71 = .ok (.iload 4, 2) := by decide +kernel
theorem dX9_isRule5_73 : decode cX9_isRule5 73 = .ok (.ifCond .ne 7, 3) := by decide +kernel
theorem dX9_isRule5_76 : decode cX9_isRule5 76 = .ok (.iconst 1, 1) := by decide +kernel
theorem dX9_isRule5_77 : decode cX9_isRule5 77 = .ok (.goto 4, 3) := by decide +kernel
theorem dX9_isRule5_80 : decode cX9_isRule5 80 = .ok (.iconst 0, 1) := by decide +kernel
theorem dX9_isRule5_81 : decode cX9_isRule5 81 = .ok (.if_icmp .ne 7, 3) := by decide +kernel
theorem dX9_isRule5_84 : decode cX9_isRule5 84 = .ok (.iconst 1, 1) := by decide +kernel
