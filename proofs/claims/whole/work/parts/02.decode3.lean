theorem dX9_isRule5_85 : decode cX9_isRule5 85 = .ok (.goto 4, 3) := by decide +kernel
theorem dX9_isRule5_88 : decode cX9_isRule5 88 = .ok (.iconst 0, 1) := by decide +kernel
theorem dX9_isRule5_89 : decode cX9_isRule5 89 = .ok (.istore_n 1, 1) := by decide +kernel
theorem dX9_isRule5_90 : decode cX9_isRule5 90 = .ok (.iinc 4 1, 3) := by decide +kernel
theorem dX9_isRule5_93 : decode cX9_isRule5 93 = .ok (.goto (-65), 3) := by decide +kernel
theorem dX9_isRule5_96 : decode cX9_isRule5 96 = .ok (.iinc 3 1, 3) := by decide +kernel
theorem dX9_isRule5_99 : decode cX9_isRule5 99 = .ok (.goto (-83), 3) := by decide +kernel
theorem dX9_isRule5_102 : decode cX9_isRule5 102 = .ok (.iinc 2 1, 3) := by decide +kernel
theorem dX9_isRule5_105 : decode cX9_isRule5 105 = .ok (.goto (-101), 3) := by decide +kernel
theorem dX9_isRule5_108 : decode cX9_isRule5 108 = .ok (.iload_n 1, 1) := by decide +kernel
theorem dX9_isRule5_109 : decode cX9_isRule5 109 = .ok (.ireturn, 1) := by decide +kernel
theorem dX9_broken_0 : decode cX9_broken 0 = .ok (.aload_n 0, 1) := by decide +kernel
theorem dX9_broken_1 : decode cX9_broken 1 = .ok (.invokevirtual 110, 3) := by decide +kernel
theorem dX9_broken_4 : decode cX9_broken 4 = .ok (.iconst 0, 1) := by decide +kernel
theorem dX9_broken_5 : decode cX9_broken 5 = .ok (.istore_n 1, 1) := by decide +kernel
theorem dX9_broken_6 : decode cX9_broken 6 = .ok (.iload_n 1, 1) := by decide +kernel
theorem dX9_broken_7 : decode cX9_broken 7 = .ok (.aload_n 0, 1) := by decide +kernel
theorem dX9_broken_8 : decode cX9_broken 8 = .ok (.getfield 72, 3) := by decide +kernel
theorem dX9_broken_11 : decode cX9_broken 11 = .ok (.if_icmp .ge 41, 3) := by decide +kernel
theorem dX9_broken_14 : decode cX9_broken 14 = .ok (.aload_n 0, 1) := by decide +kernel
theorem dX9_broken_15 : decode cX9_broken 15 = .ok (.getfield 37, 3) := by decide +kernel
theorem dX9_broken_18 : decode cX9_broken 18 = .ok (.iload_n 1, 1) := by decide +kernel
theorem dX9_broken_19 : decode cX9_broken 19 = .ok (.iaload, 1) := by decide +kernel
theorem dX9_broken_20 : decode cX9_broken 20 = .ok (.iconst 0, 1) := by decide +kernel
theorem dX9_broken_21 : decode cX9_broken 21 = .ok (.bipush 15, 2) := by decide +kernel
theorem dX9_broken_23 : decode cX9_broken 23 = .ok (.invokestatic 60, 3) := by decide +kernel
theorem dX9_broken_26 : decode cX9_broken 26 = .ok (.ifCond .eq 18, 3) := by decide +kernel
theorem dX9_broken_29 : decode cX9_broken 29 = .ok (.aload_n 0, 1) := by decide +kernel
theorem dX9_broken_30 : decode cX9_broken 30 = .ok (.getfield 40, 3) := by decide +kernel
theorem dX9_broken_33 : decode cX9_broken 33 = .ok (.iload_n 1, 1) := by decide +kernel
theorem dX9_broken_34 : decode cX9_broken 34 = .ok (.iaload, 1) := by decide +kernel
theorem dX9_broken_35 : decode cX9_broken 35 = .ok (.iconst 0, 1) := by decide +kernel
theorem dX9_broken_36 : decode cX9_broken 36 = .ok (.bipush 15, 2) := by decide +kernel
theorem dX9_broken_38 : decode cX9_broken 38 = .ok (.invokestatic 60, 3) := by decide +kernel
theorem dX9_broken_41 : decode cX9_broken 41 = .ok (.ifCond .ne 5, 3) := by decide +kernel
theorem dX9_broken_44 : decode cX9_broken 44 = .ok (.iconst 1, 1) := by decide +kernel
theorem dX9_broken_45 : decode cX9_broken 45 = .ok (.ireturn, 1) := by decide +kernel
theorem dX9_broken_46 : decode cX9_broken 46 = .ok (.iinc 1 1, 3) := by decide +kernel
theorem dX9_broken_49 : decode cX9_broken 49 = .ok (.goto (-43), 3) := by decide +kernel
theorem dX9_broken_52 : decode cX9_broken 52 = .ok (.iconst 0, 1) := by decide +kernel
theorem dX9_broken_53 : decode cX9_broken 53 = .ok (.istore_n 1, 1) := by decide +kernel
theorem dX9_broken_54 : decode cX9_broken 54 = .ok (.iload_n 1, 1) := by decide +kernel
theorem dX9_broken_55 : decode cX9_broken 55 = .ok (.aload_n 0, 1) := by decide +kernel
theorem dX9_broken_56 : decode cX9_broken 56 = .ok (.getfield 72, 3) := by decide +kernel
theorem dX9_broken_59 : decode cX9_broken 59 = .ok (.if_icmp .ge 41, 3) := by decide +kernel
theorem dX9_broken_62 : decode cX9_broken 62 = .ok (.aload_n 0, 1) := by decide +kernel
theorem dX9_broken_63 : decode cX9_broken 63 = .ok (.getfield 37, 3) := by decide +kernel
theorem dX9_broken_66 : decode cX9_broken 66 = .ok (.iload_n 1, 1) := by decide +kernel
theorem dX9_broken_67 : decode cX9_broken 67 = .ok (.iaload, 1) := by decide +kernel
theorem dX9_broken_68 : decode cX9_broken 68 = .ok (.aload_n 0, 1) := by decide +kernel
theorem dX9_broken_69 : decode cX9_broken 69 = .ok (.getfield 43, 3) := by decide +kernel
theorem dX9_broken_72 : decode cX9_broken 72 = .ok (.iload_n 1, 1) := by decide +kernel
theorem dX9_broken_73 : decode cX9_broken 73 = .ok (.iaload, 1) := by decide +kernel
theorem dX9_broken_74 : decode cX9_broken 74 = .ok (.if_icmp .ne 20, 3) := by decide +kernel
theorem dX9_broken_77 : decode cX9_broken 77 = .ok (.aload_n 0, 1) := by decide +kernel
theorem dX9_broken_78 : decode cX9_broken 78 = .ok (.getfield 40, 3) := by decide +kernel
theorem dX9_broken_81 : decode cX9_broken 81 = .ok (.iload_n 1, 1) := by decide +kernel
theorem dX9_broken_82 : decode cX9_broken 82 = .ok (.iaload, 1) := by decide +kernel
theorem dX9_broken_83 : decode cX9_broken 83 = .ok (.aload_n 0, 1) := by decide +kernel
theorem dX9_broken_84 : decode cX9_broken 84 = .ok (.getfield 46, 3) := by decide +kernel
theorem dX9_broken_87 : decode cX9_broken 87 = .ok (.iload_n 1, 1) := by decide +kernel
theorem dX9_broken_88 : decode cX9_broken 88 = .ok (.iaload, 1) := by decide +kernel
theorem dX9_broken_89 : decode cX9_broken 89 = .ok (.if_icmp .ne 5, 3) := by decide +kernel
theorem dX9_broken_92 : decode cX9_broken 92 = .ok (.iconst 2, 1) := by decide +kernel
theorem dX9_broken_93 : decode cX9_broken 93 = .ok (.ireturn, 1) := by decide +kernel
theorem dX9_broken_94 : decode cX9_broken 94 = .ok (.iinc 1 1, 3) := by decide +kernel
theorem dX9_broken_97 : decode cX9_broken 97 = .ok (.goto (-43), 3) := by decide +kernel
theorem dX9_broken_100 : decode cX9_broken 100 = .ok (.iconst 0, 1) := by decide +kernel
theorem dX9_broken_101 : decode cX9_broken 101 = .ok (.istore_n 1, 1) := by decide +kernel
theorem dX9_broken_102 : decode cX9_broken 102 = .ok (.iconst 0, 1) := by decide +kernel
theorem dX9_broken_103 : decode cX9_broken 103 = .ok (.istore_n 2, 1) := by decide +kernel
theorem dX9_broken_104 : decode cX9_broken 104 = .ok (.iconst 0, 1) := by decide +kernel
theorem dX9_broken_105 : decode cX9_broken 105 = .ok (.istore_n 3, 1) := by decide +kernel
theorem dX9_broken_106 : decode cX9_broken 106 = .ok (.iload_n 3, 1) := by decide +kernel
theorem dX9_broken_107 : decode cX9_broken 107 = .ok (.aload_n 0, 1) := by decide +kernel
theorem dX9_broken_108 : decode cX9_broken 108 = .ok (.getfield 72, 3) := by decide +kernel
theorem dX9_broken_111 : decode cX9_broken 111 = .ok (.if_icmp .ge 90, 3) := by decide +kernel
theorem dX9_broken_114 : decode cX9_broken 114 = .ok (.iconst 0, 1) := by decide +kernel
theorem dX9_broken_115 : decode cX9_broken 115 = .ok (.istore 4, 2) := by decide +kernel
theorem dX9_broken_117 : decode cX9_broken 117 = .ok (.iload 4, 2) := by decide +kernel
theorem dX9_broken_119 : decode cX9_broken 119 = .ok (.iload_n 3, 1) := by decide +kernel
theorem dX9_broken_120 : decode cX9_broken 120 = .ok (.if_icmp .ge 75, 3) := by decide +kernel
theorem dX9_broken_123 : decode cX9_broken 123 = .ok (.iload_n 1, 1) := by decide +kernel
theorem dX9_broken_124 : decode cX9_broken 124 = .ok (.ifCond .ne 39, 3) := by decide +kernel
theorem dX9_broken_127 : decode cX9_broken 127 = .ok (.aload_n 0, 1) := by decide +kernel
theorem dX9_broken_128 : decode cX9_broken 128 = .ok (.iload_n 3, 1) := by decide +kernel
theorem dX9_broken_129 : decode cX9_broken 129 = .ok (.aload_n 0, 1) := by decide +kernel
theorem dX9_broken_130 : decode cX9_broken 130 = .ok (.getfield 37, 3) := by decide +kernel
theorem dX9_broken_133 : decode cX9_broken 133 = .ok (.iload 4, 2) := by decide +kernel
theorem dX9_broken_135 : decode cX9_broken 135 = .ok (.iaload, 1) := by decide +kernel
theorem dX9_broken_136 : decode cX9_broken 136 = .ok (.aload_n 0, 1) := by decide +kernel
theorem dX9_broken_137 : decode cX9_broken 137 = .ok (.getfield 40, 3) := by decide +kernel
theorem dX9_broken_140 : decode cX9_broken 140 = .ok (.iload 4, 2) := by decide +kernel
theorem dX9_broken_142 : decode cX9_broken 142 = .ok (.iaload, 1) := by decide +kernel
theorem dX9_broken_143 : decode cX9_broken 143 = .ok (.aload_n 0, 1) := by decide +kernel
theorem dX9_broken_144 : decode cX9_broken 144 = .ok (.getfield 43, 3) := by decide +kernel
theorem dX9_broken_147 : decode cX9_broken 147 = .ok (.iload 4, 2) := by decide +kernel
theorem dX9_broken_149 : decode cX9_broken 149 = .ok (.iaload, 1) := by decide +kernel
theorem dX9_broken_150 : decode cX9_broken 150 = .ok (.aload_n 0, 1) := by decide +kernel
theorem dX9_broken_151 : decode cX9_broken 151 = .ok (.getfield 46, 3) := by decide +kernel
theorem dX9_broken_154 : decode cX9_broken 154 = .ok (.iload 4, 2) := by decide +kernel
theorem dX9_broken_156 : decode cX9_broken 156 = .ok (.iaload, 1) := by decide +kernel
theorem dX9_broken_157 : decode cX9_broken 157 = .ok (.invokevirtual 93, 3) := by decide +kernel
theorem dX9_broken_160 : decode cX9_broken 160 = .ok (.ifCond .eq 7, 3) := by decide +kernel
theorem dX9_broken_163 : decode cX9_broken 163 = .ok (.iconst 1, 1) := by decide +kernel
theorem dX9_broken_164 : decode cX9_broken 164 = .ok (.goto 4, 3) := by decide +kernel
theorem dX9_broken_167 : decode cX9_broken 167 = .ok (.iconst 0, 1) := by decide +kernel
theorem dX9_broken_168 : decode cX9_broken 168 = .ok (.istore_n 1, 1) := by decide +kernel
theorem dX9_broken_169 : decode cX9_broken 169 = .ok (.iload_n 2, 1) := by decide +kernel
theorem dX9_broken_170 : decode cX9_broken 170 = .ok (.ifCond .ne 13, 3) := by decide +kernel
theorem dX9_broken_173 : decode cX9_broken 173 = .ok (.aload_n 0, 1) := by decide +kernel
theorem dX9_broken_174 : decode cX9_broken 174 = .ok (.iload_n 3, 1) := by decide +kernel
theorem dX9_broken_175 : decode cX9_broken 175 = .ok (.iload 4, 2) := by decide +kernel
theorem dX9_broken_177 : decode cX9_broken 177 = .ok (.invokevirtual 113, 3) := by decide +kernel
theorem dX9_broken_180 : decode cX9_broken 180 = .ok (.ifCond .eq 7, 3) := by decide +kernel
theorem dX9_broken_183 : decode cX9_broken 183 = .ok (.iconst 1, 1) := by decide +kernel
theorem dX9_broken_184 : decode cX9_broken 184 = .ok (.goto 4, 3) := by decide +kernel
theorem dX9_broken_187 : decode cX9_broken 187 = .ok (.iconst 0, 1) := by decide +kernel
theorem dX9_broken_188 : decode cX9_broken 188 = .ok (.istore_n 2, 1) := by decide +kernel
theorem dX9_broken_189 : decode cX9_broken 189 = .ok (.iinc 4 1, 3) := by decide +kernel
theorem dX9_broken_192 : decode cX9_broken 192 = .ok (.goto (-75), 3) := by decide +kernel
theorem dX9_broken_195 : decode cX9_broken 195 = .ok (.iinc 3 1, 3) := by decide +kernel
theorem dX9_broken_198 : decode cX9_broken 198 = .ok (.goto (-92), 3) := by decide +kernel
theorem dX9_broken_201 : decode cX9_broken 201 = .ok (.iload_n 1, 1) := by decide +kernel
theorem dX9_broken_202 : decode cX9_broken 202 = .ok (.ifCond .eq 7, 3) := by decide +kernel
theorem dX9_broken_205 : decode cX9_broken 205 = .ok (.iconst 3, 1) := by decide +kernel
theorem dX9_broken_206 : decode cX9_broken 206 = .ok (.goto 23, 3) := by decide +kernel
theorem dX9_broken_209 : decode cX9_broken 209 = .ok (.iload_n 2, 1) := by decide +kernel
theorem dX9_broken_210 : decode cX9_broken 210 = .ok (.ifCond .eq 7, 3) := by decide +kernel
theorem dX9_broken_213 : decode cX9_broken 213 = .ok (.iconst 4, 1) := by decide +kernel
theorem dX9_broken_214 : decode cX9_broken 214 = .ok (.goto 15, 3) := by decide +kernel
theorem dX9_broken_217 : decode cX9_broken 217 = .ok (.aload_n 0, 1) := by decide +kernel
theorem dX9_broken_218 : decode cX9_broken 218 = .ok (.invokevirtual 116, 3) := by decide +kernel
theorem dX9_broken_221 : decode cX9_broken 221 = .ok (.ifCond .eq 7, 3) := by decide +kernel
theorem dX9_broken_224 : decode cX9_broken 224 = .ok (.iconst 0, 1) := by decide +kernel
theorem dX9_broken_225 : decode cX9_broken 225 = .ok (.goto 4, 3) := by decide +kernel
theorem dX9_broken_228 : decode cX9_broken 228 = .ok (.iconst 5, 1) := by decide +kernel
theorem dX9_broken_229 : decode cX9_broken 229 = .ok (.ireturn, 1) := by decide +kernel
theorem dX9_append_0 : decode cX9_append 0 = .ok (.aload_n 0, 1) := by decide +kernel
theorem dX9_append_1 : decode cX9_append 1 = .ok (.iload_n 1, 1) := by decide +kernel
theorem dX9_append_2 : decode cX9_append 2 = .ok (.iconst 0, 1) := by decide +kernel
theorem dX9_append_3 : decode cX9_append 3 = .ok (.sipush 255, 3) := by decide +kernel
theorem dX9_append_6 : decode cX9_append 6 = .ok (.invokestatic 60, 3) := by decide +kernel
theorem dX9_append_9 : decode cX9_append 9 = .ok (.ifCond .ne 7, 3) := by decide +kernel
theorem dX9_append_12 : decode cX9_append 12 = .ok (.iconst 1, 1) := by decide +kernel
theorem dX9_append_13 : decode cX9_append 13 = .ok (.goto 17, 3) := by decide +kernel
theorem dX9_append_16 : decode cX9_append 16 = .ok (.aload_n 0, 1) := by decide +kernel
theorem dX9_append_17 : decode cX9_append 17 = .ok (.getfield 120, 3) := by decide +kernel
theorem dX9_append_20 : decode cX9_append 20 = .ok (.bipush 90, 2) := by decide +kernel
theorem dX9_append_22 : decode cX9_append 22 = .ok (.if_icmp .ne 7, 3) := by decide +kernel
theorem dX9_append_25 : decode cX9_append 25 = .ok (.iconst 2, 1) := by decide +kernel
theorem dX9_append_26 : decode cX9_append 26 = .ok (.goto 4, 3) := by decide +kernel
theorem dX9_append_29 : decode cX9_append 29 = .ok (.iconst 0, 1) := by decide +kernel
theorem dX9_append_30 : decode cX9_append 30 = .ok (.putfield 56, 3) := by decide +kernel
theorem dX9_append_33 : decode cX9_append 33 = .ok (.aload_n 0, 1) := by decide +kernel
theorem dX9_append_34 : decode cX9_append 34 = .ok (.getfield 56, 3) := by decide +kernel
theorem dX9_append_37 : decode cX9_append 37 = .ok (.ifCond .le 5, 3) := by decide +kernel
theorem dX9_append_40 : decode cX9_append 40 = .ok (.iconst 0, 1) := by decide +kernel
theorem dX9_append_41 : decode cX9_append 41 = .ok (.ireturn, 1) := by decide +kernel
theorem dX9_append_42 : decode cX9_append 42 = .ok (.aload_n 0, 1) := by decide +kernel
theorem dX9_append_43 : decode cX9_append 43 = .ok (.getfield 28, 3) := by decide +kernel
theorem dX9_append_46 : decode cX9_append 46 = .ok (.aload_n 0, 1) := by decide +kernel
theorem dX9_append_47 : decode cX9_append 47 = .ok (.getfield 120, 3) := by decide +kernel
theorem dX9_append_50 : decode cX9_append 50 = .ok (.iload_n 1, 1) := by decide +kernel
theorem dX9_append_51 : decode cX9_append 51 = .ok (.iastore, 1) := by decide +kernel
theorem dX9_append_52 : decode cX9_append 52 = .ok (.aload_n 0, 1) := by decide +kernel
theorem dX9_append_53 : decode cX9_append 53 = .ok (.dup, 1) := by decide +kernel
theorem dX9_append_54 : decode cX9_append 54 = .ok (.getfield 120, 3) := by decide +kernel
theorem dX9_append_57 : decode cX9_append 57 = .ok (.iconst 1, 1) := by decide +kernel
theorem dX9_append_58 : decode cX9_append 58 = .ok (.iadd, 1) := by decide +kernel
theorem dX9_append_59 : decode cX9_append 59 = .ok (.putfield 120, 3) := by decide +kernel
theorem dX9_append_62 : decode cX9_append 62 = .ok (.aload_n 0, 1) := by decide +kernel
theorem dX9_append_63 : decode cX9_append 63 = .ok (.getfield 120, 3) := by decide +kernel
theorem dX9_append_66 : decode cX9_append 66 = .ok (.ireturn, 1) := by decide +kernel
theorem dX9_clearText_0 : decode cX9_clearText 0 = .ok (.aload_n 0, 1) := by decide +kernel
theorem dX9_clearText_1 : decode cX9_clearText 1 = .ok (.iconst 0, 1) := by decide +kernel
theorem dX9_clearText_2 : decode cX9_clearText 2 = .ok (.putfield 56, 3) := by decide +kernel
theorem dX9_clearText_5 : decode cX9_clearText 5 = .ok (.aload_n 0, 1) := by decide +kernel
theorem dX9_clearText_6 : decode cX9_clearText 6 = .ok (.getfield 120, 3) := by decide +kernel
theorem dX9_clearText_9 : decode cX9_clearText 9 = .ok (.istore_n 1, 1) := by decide +kernel
theorem dX9_clearText_10 : decode cX9_clearText 10 = .ok (.aload_n 0, 1) := by decide +kernel
theorem dX9_clearText_11 : decode cX9_clearText 11 = .ok (.iconst 0, 1) := by decide +kernel
theorem dX9_clearText_12 : decode cX9_clearText 12 = .ok (.putfield 120, 3) := by decide +kernel
theorem dX9_clearText_15 : decode cX9_clearText 15 = .ok (.iload_n 1, 1) := by decide +kernel
theorem dX9_clearText_16 : decode cX9_clearText 16 = .ok (.ireturn, 1) := by decide +kernel
theorem dX9_isLetter_0 : decode cX9_isLetter 0 = .ok (.iload_n 1, 1) := by decide +kernel
theorem dX9_isLetter_1 : decode cX9_isLetter 1 = .ok (.aload_n 0, 1) := by decide +kernel
theorem dX9_isLetter_2 : decode cX9_isLetter 2 = .ok (.getfield 120, 3) := by decide +kernel
theorem dX9_isLetter_5 : decode cX9_isLetter 5 = .ok (.if_icmp .ge 23, 3) := by decide +kernel
theorem dX9_isLetter_8 : decode cX9_isLetter 8 = .ok (.aload_n 0, 1) := by decide +kernel
theorem dX9_isLetter_9 : decode cX9_isLetter 9 = .ok (.getfield 28, 3) := by decide +kernel
theorem dX9_isLetter_12 : decode cX9_isLetter 12 = .ok (.iload_n 1, 1) := by decide +kernel
theorem dX9_isLetter_13 : decode cX9_isLetter 13 = .ok (.iaload, 1) := by decide +kernel
theorem dX9_isLetter_14 : decode cX9_isLetter 14 = .ok (.bipush 97, 2) := by decide +kernel
theorem dX9_isLetter_16 : decode cX9_isLetter 16 = .ok (.bipush 112, 2) := by decide +kernel
theorem dX9_isLetter_18 : decode cX9_isLetter 18 = .ok (.invokestatic 60, 3) := by decide +kernel
theorem dX9_isLetter_21 : decode cX9_isLetter 21 = .ok (.ifCond .eq 7, 3) := by decide +kernel
theorem dX9_isLetter_24 : decode cX9_isLetter 24 = .ok (.iconst 1, 1) := by decide +kernel
theorem dX9_isLetter_25 : decode cX9_isLetter 25 = .ok (.goto 4, 3) := by decide +kernel
theorem dX9_isLetter_28 : decode cX9_isLetter 28 = .ok (.iconst 0, 1) := by decide +kernel
theorem dX9_isLetter_29 : decode cX9_isLetter 29 = .ok (.ireturn, 1) := by decide +kernel
theorem dX9_readText_0 : decode cX9_readText 0 = .ok (.aload_n 0, 1) := by decide +kernel
theorem dX9_readText_1 : decode cX9_readText 1 = .ok (.getfield 7, 3) := by decide +kernel
theorem dX9_readText_4 : decode cX9_readText 4 = .ok (.iconst 0, 1) := by decide +kernel
theorem dX9_readText_5 : decode cX9_readText 5 = .ok (.iconst 0, 1) := by decide +kernel
theorem dX9_readText_6 : decode cX9_readText 6 = .ok (.iastore, 1) := by decide +kernel
theorem dX9_readText_7 : decode cX9_readText 7 = .ok (.aload_n 0, 1) := by decide +kernel
theorem dX9_readText_8 : decode cX9_readText 8 = .ok (.getfield 120, 3) := by decide +kernel
theorem dX9_readText_11 : decode cX9_readText 11 = .ok (.ifCond .eq 14, 3) := by decide +kernel
theorem dX9_readText_14 : decode cX9_readText 14 = .ok (.aload_n 0, 1) := by decide +kernel
theorem dX9_readText_15 : decode cX9_readText 15 = .ok (.getfield 28, 3) := by decide +kernel
theorem dX9_readText_18 : decode cX9_readText 18 = .ok (.iconst 0, 1) := by decide +kernel
theorem dX9_readText_19 : decode cX9_readText 19 = .ok (.iaload, 1) := by decide +kernel
theorem dX9_readText_20 : decode cX9_readText 20 = .ok (.bipush 70, 2) := by decide +kernel
theorem dX9_readText_22 : decode cX9_readText 22 = .ok (.if_icmp .eq 5, 3) := by decide +kernel
theorem dX9_readText_25 : decode cX9_readText 25 = .ok (.iconst 0, 1) := by decide +kernel
theorem dX9_readText_26 : decode cX9_readText 26 = .ok (.ireturn, 1) := by decide +kernel
theorem dX9_readText_27 : decode cX9_readText 27 = .ok (.iconst 1, 1) := by decide +kernel
theorem dX9_readText_28 : decode cX9_readText 28 = .ok (.istore_n 1, 1) := by decide +kernel
theorem dX9_readText_29 : decode cX9_readText 29 = .ok (.aload_n 0, 1) := by decide +kernel
theorem dX9_readText_30 : decode cX9_readText 30 = .ok (.getfield 7, 3) := by decide +kernel
theorem dX9_readText_33 : decode cX9_readText 33 = .ok (.iconst 0, 1) := by decide +kernel
theorem dX9_readText_34 : decode cX9_readText 34 = .ok (.iaload, 1) := by decide +kernel
theorem dX9_readText_35 : decode cX9_readText 35 = .ok (.istore_n 2, 1) := by decide +kernel
theorem dX9_readText_36 : decode cX9_readText 36 = .ok (.iload_n 1, 1) := by decide +kernel
theorem dX9_readText_37 : decode cX9_readText 37 = .ok (.istore_n 3, 1) := by decide +kernel
theorem dX9_readText_38 : decode cX9_readText 38 = .ok (.aload_n 0, 1) := by decide +kernel
theorem dX9_readText_39 : decode cX9_readText 39 = .ok (.getfield 7, 3) := by decide +kernel
theorem dX9_readText_42 : decode cX9_readText 42 = .ok (.iconst 1, 1) := by decide +kernel
theorem dX9_readText_43 : decode cX9_readText 43 = .ok (.iload_n 2, 1) := by decide +kernel
theorem dX9_readText_44 : decode cX9_readText 44 = .ok (.iadd, 1) := by decide +kernel
theorem dX9_readText_45 : decode cX9_readText 45 = .ok (.iconst 0, 1) := by decide +kernel
theorem dX9_readText_46 : decode cX9_readText 46 = .ok (.iastore, 1) := by decide +kernel
theorem dX9_readText_47 : decode cX9_readText 47 = .ok (.aload_n 0, 1) := by decide +kernel
theorem dX9_readText_48 : decode cX9_readText 48 = .ok (.iload_n 1, 1) := by decide +kernel
theorem dX9_readText_49 : decode cX9_readText 49 = .ok (.invokevirtual 123, 3) := by decide +kernel
theorem dX9_readText_52 : decode cX9_readText 52 = .ok (.ifCond .eq 71, 3) := by decide +kernel
theorem dX9_readText_55 : decode cX9_readText 55 = .ok (.aload_n 0, 1) := by decide +kernel
theorem dX9_readText_56 : decode cX9_readText 56 = .ok (.iload_n 1, 1) := by decide +kernel
theorem dX9_readText_57 : decode cX9_readText 57 = .ok (.iconst 1, 1) := by decide +kernel
theorem dX9_readText_58 : decode cX9_readText 58 = .ok (.iadd, 1) := by decide +kernel
theorem dX9_readText_59 : decode cX9_readText 59 = .ok (.invokevirtual 123, 3) := by decide +kernel
theorem dX9_readText_62 : decode cX9_readText 62 = .ok (.ifCond .eq 61, 3) := by decide +kernel
theorem dX9_readText_65 : decode cX9_readText 65 = .ok (.aload_n 0, 1) := by decide +kernel
theorem dX9_readText_66 : decode cX9_readText 66 = .ok (.iload_n 2, 1) := by decide +kernel
theorem dX9_readText_67 : decode cX9_readText 67 = .ok (.invokevirtual 68, 3) := by decide +kernel
theorem dX9_readText_70 : decode cX9_readText 70 = .ok (.bipush 10, 2) := by decide +kernel
theorem dX9_readText_72 : decode cX9_readText 72 = .ok (.if_icmp .ge 51, 3) := by decide +kernel
theorem dX9_readText_75 : decode cX9_readText 75 = .ok (.aload_n 0, 1) := by decide +kernel
theorem dX9_readText_76 : decode cX9_readText 76 = .ok (.iload_n 2, 1) := by decide +kernel
theorem dX9_readText_77 : decode cX9_readText 77 = .ok (.aload_n 0, 1) := by decide +kernel
theorem dX9_readText_78 : decode cX9_readText 78 = .ok (.iload_n 2, 1) := by decide +kernel
theorem dX9_readText_79 : decode cX9_readText 79 = .ok (.invokevirtual 68, 3) := by decide +kernel
theorem dX9_readText_82 : decode cX9_readText 82 = .ok (.aload_n 0, 1) := by decide +kernel
theorem dX9_readText_83 : decode cX9_readText 83 = .ok (.getfield 28, 3) := by decide +kernel
theorem dX9_readText_86 : decode cX9_readText 86 = .ok (.iload_n 1, 1) := by decide +kernel
theorem dX9_readText_87 : decode cX9_readText 87 = .ok (.iaload, 1) := by decide +kernel
theorem dX9_readText_88 : decode cX9_readText 88 = .ok (.bipush 97, 2) := by decide +kernel
theorem dX9_readText_90 : decode cX9_readText 90 = .ok (.isub, 1) := by decide +kernel
theorem dX9_readText_91 : decode cX9_readText 91 = .ok (.aload_n 0, 1) := by decide +kernel
theorem dX9_readText_92 : decode cX9_readText 92 = .ok (.getfield 28, 3) := by decide +kernel
theorem dX9_readText_95 : decode cX9_readText 95 = .ok (.iload_n 1, 1) := by decide +kernel
theorem dX9_readText_96 : decode cX9_readText 96 = .ok (.iconst 1, 1) := by decide +kernel
theorem dX9_readText_97 : decode cX9_readText 97 = .ok (.iadd, 1) := by decide +kernel
theorem dX9_readText_98 : decode cX9_readText 98 = .ok (.iaload, 1) := by decide +kernel
theorem dX9_readText_99 : decode cX9_readText 99 = .ok (.bipush 97, 2) := by decide +kernel
theorem dX9_readText_101 : decode cX9_readText 101 = .ok (.isub, 1) := by decide +kernel
theorem dX9_readText_102 : decode cX9_readText 102 = .ok (.invokevirtual 52, 3) := by decide +kernel
theorem dX9_readText_105 : decode cX9_readText 105 = .ok (.aload_n 0, 1) := by decide +kernel
theorem dX9_readText_106 : decode cX9_readText 106 = .ok (.getfield 7, 3) := by decide +kernel
theorem dX9_readText_109 : decode cX9_readText 109 = .ok (.iconst 1, 1) := by decide +kernel
theorem dX9_readText_110 : decode cX9_readText 110 = .ok (.iload_n 2, 1) := by decide +kernel
theorem dX9_readText_111 : decode cX9_readText 111 = .ok (.iadd, 1) := by decide +kernel
theorem dX9_readText_112 : decode cX9_readText 112 = .ok (.dup2, 1) := by decide +kernel
theorem dX9_readText_113 : decode cX9_readText 113 = .ok (.iaload, 1) := by decide +kernel
theorem dX9_readText_114 : decode cX9_readText 114 = .ok (.iconst 1, 1) := by decide +kernel
theorem dX9_readText_115 : decode cX9_readText 115 = .ok (.iadd, 1) := by decide +kernel
theorem dX9_readText_116 : decode cX9_readText 116 = .ok (.iastore, 1) := by decide +kernel
theorem dX9_readText_117 : decode cX9_readText 117 = .ok (.iinc 1 2, 3) := by decide +kernel
theorem dX9_readText_120 : decode cX9_readText 120 = .ok (.goto (-73), 3) := by decide +kernel
theorem dX9_readText_123 : decode cX9_readText 123 = .ok (.aload_n 0, 1) := by decide +kernel
theorem dX9_readText_124 : decode cX9_readText 124 = .ok (.iload_n 1, 1) := by decide +kernel
theorem dX9_readText_125 : decode cX9_readText 125 = .ok (.invokevirtual 123, 3) := by decide +kernel
theorem dX9_readText_128 : decode cX9_readText 128 = .ok (.ifCond .eq 17, 3) := by decide +kernel
theorem dX9_readText_131 : decode cX9_readText 131 = .ok (.aload_n 0, 1) := by decide +kernel
theorem dX9_readText_132 : decode cX9_readText 132 = .ok (.iload_n 2, 1) := by decide +kernel
theorem dX9_readText_133 : decode cX9_readText 133 = .ok (.invokevirtual 68, 3) := by decide +kernel
theorem dX9_readText_136 : decode cX9_readText 136 = .ok (.bipush 10, 2) := by decide +kernel
theorem dX9_readText_138 : decode cX9_readText 138 = .ok (.if_icmp .ge 7, 3) := by decide +kernel
theorem dX9_readText_141 : decode cX9_readText 141 = .ok (.iconst 1, 1) := by decide +kernel
theorem dX9_readText_142 : decode cX9_readText 142 = .ok (.goto 4, 3) := by decide +kernel
theorem dX9_readText_145 : decode cX9_readText 145 = .ok (.iconst 0, 1) := by decide +kernel
theorem dX9_readText_146 : decode cX9_readText 146 = .ok (.istore 4, 2) := by decide +kernel
theorem dX9_readText_148 : decode cX9_readText 148 = .ok (.iload 4, 2) := by decide +kernel
theorem dX9_readText_150 : decode cX9_readText 150 = .ok (.ifCond .eq 7, 3) := by decide +kernel
theorem dX9_readText_153 : decode cX9_readText 153 = .ok (.iload_n 1, 1) := by decide +kernel
theorem dX9_readText_154 : decode cX9_readText 154 = .ok (.iconst 1, 1) := by decide +kernel
theorem dX9_readText_155 : decode cX9_readText 155 = .ok (.iadd, 1) := by decide +kernel
theorem dX9_readText_156 : decode cX9_readText 156 = .ok (.ireturn, 1) := by decide +kernel
theorem dX9_readText_157 : decode cX9_readText 157 = .ok (.iload_n 1, 1) := by decide +kernel
theorem dX9_readText_158 : decode cX9_readText 158 = .ok (.aload_n 0, 1) := by decide +kernel
theorem dX9_readText_159 : decode cX9_readText 159 = .ok (.getfield 120, 3) := by decide +kernel
theorem dX9_readText_162 : decode cX9_readText 162 = .ok (.if_icmp .ne 7, 3) := by decide +kernel
theorem dX9_readText_165 : decode cX9_readText 165 = .ok (.iconst 1, 1) := by decide +kernel
theorem dX9_readText_166 : decode cX9_readText 166 = .ok (.goto 4, 3) := by decide +kernel
theorem dX9_readText_169 : decode cX9_readText 169 = .ok (.iconst 0, 1) := by decide +kernel
theorem dX9_readText_170 : decode cX9_readText 170 = .ok (.istore 5, 2) := by decide +kernel
theorem dX9_readText_172 : decode cX9_readText 172 = .ok (.iload 5, 2) := by decide +kernel
theorem dX9_readText_174 : decode cX9_readText 174 = .ok (.ifCond .ne 25, 3) := by decide +kernel
theorem dX9_readText_177 : decode cX9_readText 177 = .ok (.aload_n 0, 1) := by decide +kernel
theorem dX9_readText_178 : decode cX9_readText 178 = .ok (.getfield 28, 3) := by decide +kernel
theorem dX9_readText_181 : decode cX9_readText 181 = .ok (.iload_n 1, 1) := by decide +kernel
theorem dX9_readText_182 : decode cX9_readText 182 = .ok (.iaload, 1) := by decide +kernel
theorem dX9_readText_183 : decode cX9_readText 183 = .ok (.bipush 47, 2) := by decide +kernel
theorem dX9_readText_185 : decode cX9_readText 185 = .ok (.if_icmp .ne 14, 3) := by decide +kernel
theorem dX9_readText_188 : decode cX9_readText 188 = .ok (.iload_n 2, 1) := by decide +kernel
theorem dX9_readText_189 : decode cX9_readText 189 = .ok (.iconst 1, 1) := by decide +kernel
theorem dX9_readText_190 : decode cX9_readText 190 = .ok (.iadd, 1) := by decide +kernel
theorem dX9_readText_191 : decode cX9_readText 191 = .ok (.iconst 4, 1) := by decide +kernel
theorem dX9_readText_192 : decode cX9_readText 192 = .ok (.if_icmp .ge 7, 3) := by decide +kernel
theorem dX9_readText_195 : decode cX9_readText 195 = .ok (.iconst 1, 1) := by decide +kernel
theorem dX9_readText_196 : decode cX9_readText 196 = .ok (.goto 4, 3) := by decide +kernel
theorem dX9_readText_199 : decode cX9_readText 199 = .ok (.iconst 0, 1) := by decide +kernel
theorem dX9_readText_200 : decode cX9_readText 200 = .ok (.istore 6, 2) := by decide +kernel
theorem dX9_readText_202 : decode cX9_readText 202 = .ok (.aload_n 0, 1) := by decide +kernel
theorem dX9_readText_203 : decode cX9_readText 203 = .ok (.iload_n 2, 1) := by decide +kernel
theorem dX9_readText_204 : decode cX9_readText 204 = .ok (.invokevirtual 68, 3) := by decide +kernel
theorem dX9_readText_207 : decode cX9_readText 207 = .ok (.iconst 3, 1) := by decide +kernel
theorem dX9_readText_208 : decode cX9_readText 208 = .ok (.if_icmp .lt 13, 3) := by decide +kernel
theorem dX9_readText_211 : decode cX9_readText 211 = .ok (.iload 5, 2) := by decide +kernel
theorem dX9_readText_213 : decode cX9_readText 213 = .ok (.ifCond .ne 10, 3) := by decide +kernel
theorem dX9_readText_216 : decode cX9_readText 216 = .ok (.iload 6, 2) := by decide +kernel
theorem dX9_readText_218 : decode cX9_readText 218 = .ok (.ifCond .ne 5, 3) := by decide +kernel
theorem dX9_readText_221 : decode cX9_readText 221 = .ok (.iload_n 1, 1) := by decide +kernel
theorem dX9_readText_222 : decode cX9_readText 222 = .ok (.ireturn, 1) := by decide +kernel
theorem dX9_readText_223 : decode cX9_readText 223 = .ok (.aload_n 0, 1) := by decide +kernel
theorem dX9_readText_224 : decode cX9_readText 224 = .ok (.getfield 7, 3) := by decide +kernel
theorem dX9_readText_227 : decode cX9_readText 227 = .ok (.iconst 0, 1) := by decide +kernel
theorem dX9_readText_228 : decode cX9_readText 228 = .ok (.dup2, 1) := by decide +kernel
theorem dX9_readText_229 : decode cX9_readText 229 = .ok (.iaload, 1) := by decide +kernel
theorem dX9_readText_230 : decode cX9_readText 230 = .ok (.iconst 1, 1) := by decide +kernel
theorem dX9_readText_231 : decode cX9_readText 231 = .ok (.iadd, 1) := by decide +kernel
theorem dX9_readText_232 : decode cX9_readText 232 = .ok (.iastore, 1) := by decide +kernel
theorem dX9_readText_233 : decode cX9_readText 233 = .ok (.aload_n 0, 1) := by decide +kernel
theorem dX9_readText_234 : decode cX9_readText 234 = .ok (.invokevirtual 126, 3) := by decide +kernel
theorem dX9_readText_237 : decode cX9_readText 237 = .ok (.ifCond .le 5, 3) := by decide +kernel
theorem dX9_readText_240 : decode cX9_readText 240 = .ok (.iload_n 3, 1) := by decide +kernel
theorem dX9_readText_241 : decode cX9_readText 241 = .ok (.ireturn, 1) := by decide +kernel
theorem dX9_readText_242 : decode cX9_readText 242 = .ok (.iload 5, 2) := by decide +kernel
theorem dX9_readText_244 : decode cX9_readText 244 = .ok (.ifCond .eq 6, 3) := by decide +kernel
theorem dX9_readText_247 : decode cX9_readText 247 = .ok (.bipush (-9), 2) := by decide +kernel
theorem dX9_readText_249 : decode cX9_readText 249 = .ok (.ireturn, 1) := by decide +kernel
theorem dX9_readText_250 : decode cX9_readText 250 = .ok (.iinc 1 1, 3) := by decide +kernel
theorem dX9_readText_253 : decode cX9_readText 253 = .ok (.goto (-224), 3) := by decide +kernel
theorem dX9_errorPosition_0 : decode cX9_errorPosition 0 = .ok (.aload_n 0, 1) := by decide +kernel
theorem dX9_errorPosition_1 : decode cX9_errorPosition 1 = .ok (.iconst 0, 1) := by decide +kernel
theorem dX9_errorPosition_2 : decode cX9_errorPosition 2 = .ok (.putfield 56, 3) := by decide +kernel
theorem dX9_errorPosition_5 : decode cX9_errorPosition 5 = .ok (.aload_n 0, 1) := by decide +kernel
theorem dX9_errorPosition_6 : decode cX9_errorPosition 6 = .ok (.getfield 7, 3) := by decide +kernel
theorem dX9_errorPosition_9 : decode cX9_errorPosition 9 = .ok (.iconst 0, 1) := by decide +kernel
theorem dX9_errorPosition_10 : decode cX9_errorPosition 10 = .ok (.aload_n 0, 1) := by decide +kernel
theorem dX9_errorPosition_11 : decode cX9_errorPosition 11 = .ok (.getfield 13, 3) := by decide +kernel
theorem dX9_errorPosition_14 : decode cX9_errorPosition 14 = .ok (.iconst 0, 1) := by decide +kernel
theorem dX9_errorPosition_15 : decode cX9_errorPosition 15 = .ok (.invokestatic 130, 3) := by decide +kernel
theorem dX9_errorPosition_18 : decode cX9_errorPosition 18 = .ok (.aload_n 0, 1) := by decide +kernel
theorem dX9_errorPosition_19 : decode cX9_errorPosition 19 = .ok (.invokevirtual 134, 3) := by decide +kernel
theorem dX9_errorPosition_22 : decode cX9_errorPosition 22 = .ok (.istore_n 1, 1) := by decide +kernel
theorem dX9_errorPosition_23 : decode cX9_errorPosition 23 = .ok (.aload_n 0, 1) := by decide +kernel
theorem dX9_errorPosition_24 : decode cX9_errorPosition 24 = .ok (.getfield 13, 3) := by decide +kernel
theorem dX9_errorPosition_27 : decode cX9_errorPosition 27 = .ok (.iconst 0, 1) := by decide +kernel
theorem dX9_errorPosition_28 : decode cX9_errorPosition 28 = .ok (.aload_n 0, 1) := by decide +kernel
theorem dX9_errorPosition_29 : decode cX9_errorPosition 29 = .ok (.getfield 7, 3) := by decide +kernel
theorem dX9_errorPosition_32 : decode cX9_errorPosition 32 = .ok (.iconst 0, 1) := by decide +kernel
theorem dX9_errorPosition_33 : decode cX9_errorPosition 33 = .ok (.invokestatic 130, 3) := by decide +kernel
theorem dX9_errorPosition_36 : decode cX9_errorPosition 36 = .ok (.iload_n 1, 1) := by decide +kernel
theorem dX9_errorPosition_37 : decode cX9_errorPosition 37 = .ok (.ireturn, 1) := by decide +kernel
theorem dX9_load_0 : decode cX9_load 0 = .ok (.aload_n 0, 1) := by decide +kernel
theorem dX9_load_1 : decode cX9_load 1 = .ok (.getfield 7, 3) := by decide +kernel
theorem dX9_load_4 : decode cX9_load 4 = .ok (.iconst 0, 1) := by decide +kernel
theorem dX9_load_5 : decode cX9_load 5 = .ok (.aload_n 0, 1) := by decide +kernel
theorem dX9_load_6 : decode cX9_load 6 = .ok (.getfield 13, 3) := by decide +kernel
theorem dX9_load_9 : decode cX9_load 9 = .ok (.iconst 0, 1) := by decide +kernel
theorem dX9_load_10 : decode cX9_load 10 = .ok (.invokestatic 130, 3) := by decide +kernel
theorem dX9_load_13 : decode cX9_load 13 = .ok (.aload_n 0, 1) := by decide +kernel
theorem dX9_load_14 : decode cX9_load 14 = .ok (.aload_n 0, 1) := by decide +kernel
theorem dX9_load_15 : decode cX9_load 15 = .ok (.invokevirtual 134, 3) := by decide +kernel
theorem dX9_load_18 : decode cX9_load 18 = .ok (.bipush (-9), 2) := by decide +kernel
theorem dX9_load_20 : decode cX9_load 20 = .ok (.if_icmp .ne 7, 3) := by decide +kernel
theorem dX9_load_23 : decode cX9_load 23 = .ok (.iconst 0, 1) := by decide +kernel
theorem dX9_load_24 : decode cX9_load 24 = .ok (.goto 4, 3) := by decide +kernel
theorem dX9_load_27 : decode cX9_load 27 = .ok (.iconst 1, 1) := by decide +kernel
theorem dX9_load_28 : decode cX9_load 28 = .ok (.putfield 56, 3) := by decide +kernel
theorem dX9_load_31 : decode cX9_load 31 = .ok (.aload_n 0, 1) := by decide +kernel
theorem dX9_load_32 : decode cX9_load 32 = .ok (.getfield 56, 3) := by decide +kernel
theorem dX9_load_35 : decode cX9_load 35 = .ok (.ifCond .le 18, 3) := by decide +kernel
theorem dX9_load_38 : decode cX9_load 38 = .ok (.aload_n 0, 1) := by decide +kernel
theorem dX9_load_39 : decode cX9_load 39 = .ok (.getfield 13, 3) := by decide +kernel
theorem dX9_load_42 : decode cX9_load 42 = .ok (.iconst 0, 1) := by decide +kernel
theorem dX9_load_43 : decode cX9_load 43 = .ok (.aload_n 0, 1) := by decide +kernel
theorem dX9_load_44 : decode cX9_load 44 = .ok (.getfield 7, 3) := by decide +kernel
theorem dX9_load_47 : decode cX9_load 47 = .ok (.iconst 0, 1) := by decide +kernel
theorem dX9_load_48 : decode cX9_load 48 = .ok (.invokestatic 130, 3) := by decide +kernel
theorem dX9_load_51 : decode cX9_load 51 = .ok (.iconst 0, 1) := by decide +kernel
theorem dX9_load_52 : decode cX9_load 52 = .ok (.ireturn, 1) := by decide +kernel
theorem dX9_load_53 : decode cX9_load 53 = .ok (.aload_n 0, 1) := by decide +kernel
theorem dX9_load_54 : decode cX9_load 54 = .ok (.iconst 0, 1) := by decide +kernel
theorem dX9_load_55 : decode cX9_load 55 = .ok (.putfield 137, 3) := by decide +kernel
theorem dX9_load_58 : decode cX9_load 58 = .ok (.aload_n 0, 1) := by decide +kernel
theorem dX9_load_59 : decode cX9_load 59 = .ok (.getfield 25, 3) := by decide +kernel
theorem dX9_load_62 : decode cX9_load 62 = .ok (.iconst 0, 1) := by decide +kernel
theorem dX9_load_63 : decode cX9_load 63 = .ok (.iconst 0, 1) := by decide +kernel
theorem dX9_load_64 : decode cX9_load 64 = .ok (.iastore, 1) := by decide +kernel
theorem dX9_load_65 : decode cX9_load 65 = .ok (.aload_n 0, 1) := by decide +kernel
theorem dX9_load_66 : decode cX9_load 66 = .ok (.getfield 25, 3) := by decide +kernel
theorem dX9_load_69 : decode cX9_load 69 = .ok (.iconst 1, 1) := by decide +kernel
theorem dX9_load_70 : decode cX9_load 70 = .ok (.iconst 0, 1) := by decide +kernel
theorem dX9_load_71 : decode cX9_load 71 = .ok (.iastore, 1) := by decide +kernel
theorem dX9_load_72 : decode cX9_load 72 = .ok (.aload_n 0, 1) := by decide +kernel
theorem dX9_load_73 : decode cX9_load 73 = .ok (.getfield 7, 3) := by decide +kernel
theorem dX9_load_76 : decode cX9_load 76 = .ok (.iconst 0, 1) := by decide +kernel
theorem dX9_load_77 : decode cX9_load 77 = .ok (.iaload, 1) := by decide +kernel
theorem dX9_load_78 : decode cX9_load 78 = .ok (.ireturn, 1) := by decide +kernel
theorem dX9_sumOf_0 : decode cX9_sumOf 0 = .ok (.iconst 0, 1) := by decide +kernel
theorem dX9_sumOf_1 : decode cX9_sumOf 1 = .ok (.istore_n 2, 1) := by decide +kernel
theorem dX9_sumOf_2 : decode cX9_sumOf 2 = .ok (.iconst 0, 1) := by decide +kernel
theorem dX9_sumOf_3 : decode cX9_sumOf 3 = .ok (.istore_n 3, 1) := by decide +kernel
theorem dX9_sumOf_4 : decode cX9_sumOf 4 = .ok (.iload_n 3, 1) := by decide +kernel
theorem dX9_sumOf_5 : decode cX9_sumOf 5 = .ok (.aload_n 0, 1) := by decide +kernel
theorem dX9_sumOf_6 : decode cX9_sumOf 6 = .ok (.iload_n 1, 1) := by decide +kernel
theorem dX9_sumOf_7 : decode cX9_sumOf 7 = .ok (.invokevirtual 68, 3) := by decide +kernel
theorem dX9_sumOf_10 : decode cX9_sumOf 10 = .ok (.if_icmp .ge 49, 3) := by decide +kernel
theorem dX9_sumOf_13 : decode cX9_sumOf 13 = .ok (.aload_n 0, 1) := by decide +kernel
theorem dX9_sumOf_14 : decode cX9_sumOf 14 = .ok (.iload_n 1, 1) := by decide +kernel
theorem dX9_sumOf_15 : decode cX9_sumOf 15 = .ok (.iload_n 3, 1) := by decide +kernel
theorem dX9_sumOf_16 : decode cX9_sumOf 16 = .ok (.invokevirtual 82, 3) := by decide +kernel
theorem dX9_sumOf_19 : decode cX9_sumOf 19 = .ok (.istore 4, 2) := by decide +kernel
theorem dX9_sumOf_21 : decode cX9_sumOf 21 = .ok (.iload_n 2, 1) := by decide +kernel
theorem dX9_sumOf_22 : decode cX9_sumOf 22 = .ok (.aload_n 0, 1) := by decide +kernel
theorem dX9_sumOf_23 : decode cX9_sumOf 23 = .ok (.iload_n 1, 1) := by decide +kernel
theorem dX9_sumOf_24 : decode cX9_sumOf 24 = .ok (.iload_n 3, 1) := by decide +kernel
theorem dX9_sumOf_25 : decode cX9_sumOf 25 = .ok (.invokevirtual 75, 3) := by decide +kernel
theorem dX9_sumOf_28 : decode cX9_sumOf 28 = .ok (.aload_n 0, 1) := by decide +kernel
theorem dX9_sumOf_29 : decode cX9_sumOf 29 = .ok (.iload_n 1, 1) := by decide +kernel
theorem dX9_sumOf_30 : decode cX9_sumOf 30 = .ok (.iload 4, 2) := by decide +kernel
theorem dX9_sumOf_32 : decode cX9_sumOf 32 = .ok (.invokevirtual 79, 3) := by decide +kernel
theorem dX9_sumOf_35 : decode cX9_sumOf 35 = .ok (.imul, 1) := by decide +kernel
theorem dX9_sumOf_36 : decode cX9_sumOf 36 = .ok (.aload_n 0, 1) := by decide +kernel
theorem dX9_sumOf_37 : decode cX9_sumOf 37 = .ok (.iload_n 1, 1) := by decide +kernel
theorem dX9_sumOf_38 : decode cX9_sumOf 38 = .ok (.iload 4, 2) := by decide +kernel
theorem dX9_sumOf_40 : decode cX9_sumOf 40 = .ok (.invokevirtual 75, 3) := by decide +kernel
theorem dX9_sumOf_43 : decode cX9_sumOf 43 = .ok (.aload_n 0, 1) := by decide +kernel
theorem dX9_sumOf_44 : decode cX9_sumOf 44 = .ok (.iload_n 1, 1) := by decide +kernel
theorem dX9_sumOf_45 : decode cX9_sumOf 45 = .ok (.iload_n 3, 1) := by decide +kernel
theorem dX9_sumOf_46 : decode cX9_sumOf 46 = .ok (.invokevirtual 79, 3) := by decide +kernel
theorem dX9_sumOf_49 : decode cX9_sumOf 49 = .ok (.imul, 1) := by decide +kernel
theorem dX9_sumOf_50 : decode cX9_sumOf 50 = .ok (.isub, 1) := by decide +kernel
theorem dX9_sumOf_51 : decode cX9_sumOf 51 = .ok (.iadd, 1) := by decide +kernel
theorem dX9_sumOf_52 : decode cX9_sumOf 52 = .ok (.istore_n 2, 1) := by decide +kernel
theorem dX9_sumOf_53 : decode cX9_sumOf 53 = .ok (.iinc 3 1, 3) := by decide +kernel
theorem dX9_sumOf_56 : decode cX9_sumOf 56 = .ok (.goto (-52), 3) := by decide +kernel
theorem dX9_sumOf_59 : decode cX9_sumOf 59 = .ok (.iload_n 2, 1) := by decide +kernel
theorem dX9_sumOf_60 : decode cX9_sumOf 60 = .ok (.ireturn, 1) := by decide +kernel
theorem dX9_area_0 : decode cX9_area 0 = .ok (.aload_n 0, 1) := by decide +kernel
theorem dX9_area_1 : decode cX9_area 1 = .ok (.iconst 0, 1) := by decide +kernel
theorem dX9_area_2 : decode cX9_area 2 = .ok (.invokevirtual 140, 3) := by decide +kernel
theorem dX9_area_5 : decode cX9_area 5 = .ok (.invokestatic 143, 3) := by decide +kernel
theorem dX9_area_8 : decode cX9_area 8 = .ok (.istore_n 1, 1) := by decide +kernel
theorem dX9_area_9 : decode cX9_area 9 = .ok (.iconst 1, 1) := by decide +kernel
theorem dX9_area_10 : decode cX9_area 10 = .ok (.istore_n 2, 1) := by decide +kernel
theorem dX9_area_11 : decode cX9_area 11 = .ok (.iload_n 2, 1) := by decide +kernel
theorem dX9_area_12 : decode cX9_area 12 = .ok (.aload_n 0, 1) := by decide +kernel
theorem dX9_area_13 : decode cX9_area 13 = .ok (.getfield 7, 3) := by decide +kernel
theorem dX9_area_16 : decode cX9_area 16 = .ok (.iconst 0, 1) := by decide +kernel
theorem dX9_area_17 : decode cX9_area 17 = .ok (.iaload, 1) := by decide +kernel
theorem dX9_area_18 : decode cX9_area 18 = .ok (.if_icmp .ge 20, 3) := by decide +kernel
theorem dX9_area_21 : decode cX9_area 21 = .ok (.iload_n 1, 1) := by decide +kernel
theorem dX9_area_22 : decode cX9_area 22 = .ok (.aload_n 0, 1) := by decide +kernel
theorem dX9_area_23 : decode cX9_area 23 = .ok (.iload_n 2, 1) := by decide +kernel
theorem dX9_area_24 : decode cX9_area 24 = .ok (.invokevirtual 140, 3) := by decide +kernel
theorem dX9_area_27 : decode cX9_area 27 = .ok (.invokestatic 143, 3) := by decide +kernel
theorem dX9_area_30 : decode cX9_area 30 = .ok (.isub, 1) := by decide +kernel
theorem dX9_area_31 : decode cX9_area 31 = .ok (.istore_n 1, 1) := by decide +kernel
theorem dX9_area_32 : decode cX9_area 32 = .ok (.iinc 2 1, 3) := by decide +kernel
theorem dX9_area_35 : decode cX9_area 35 = .ok (.goto (-24), 3) := by decide +kernel
theorem dX9_area_38 : decode cX9_area 38 = .ok (.iload_n 1, 1) := by decide +kernel
theorem dX9_area_39 : decode cX9_area 39 = .ok (.ireturn, 1) := by decide +kernel
theorem dX9_divisor_0 : decode cX9_divisor 0 = .ok (.iload_n 0, 1) := by decide +kernel
theorem dX9_divisor_1 : decode cX9_divisor 1 = .ok (.invokestatic 143, 3) := by decide +kernel
theorem dX9_divisor_4 : decode cX9_divisor 4 = .ok (.istore_n 2, 1) := by decide +kernel
theorem dX9_divisor_5 : decode cX9_divisor 5 = .ok (.iload_n 1, 1) := by decide +kernel
theorem dX9_divisor_6 : decode cX9_divisor 6 = .ok (.invokestatic 143, 3) := by decide +kernel
theorem dX9_divisor_9 : decode cX9_divisor 9 = .ok (.istore_n 3, 1) := by decide +kernel
theorem dX9_divisor_10 : decode cX9_divisor 10 = .ok (.iload_n 3, 1) := by decide +kernel
theorem dX9_divisor_11 : decode cX9_divisor 11 = .ok (.ifCond .le 16, 3) := by decide +kernel
theorem dX9_divisor_14 : decode cX9_divisor 14 = .ok (.iload_n 2, 1) := by decide +kernel
theorem dX9_divisor_15 : decode cX9_divisor 15 = .ok (.iload_n 3, 1) := by decide +kernel
theorem dX9_divisor_16 : decode cX9_divisor 16 = .ok (.irem, 1) := by decide +kernel
theorem dX9_divisor_17 : decode cX9_divisor 17 = .ok (.istore 4, 2) := by decide +kernel
theorem dX9_divisor_19 : decode cX9_divisor 19 = .ok (.iload_n 3, 1) := by decide +kernel
theorem dX9_divisor_20 : decode cX9_divisor 20 = .ok (.istore_n 2, 1) := by decide +kernel
theorem dX9_divisor_21 : decode cX9_divisor 21 = .ok (.iload 4, 2) := by decide +kernel
theorem dX9_divisor_23 : decode cX9_divisor 23 = .ok (.istore_n 3, 1) := by decide +kernel
theorem dX9_divisor_24 : decode cX9_divisor 24 = .ok (.goto (-14), 3) := by decide +kernel
theorem dX9_divisor_27 : decode cX9_divisor 27 = .ok (.iload_n 2, 1) := by decide +kernel
theorem dX9_divisor_28 : decode cX9_divisor 28 = .ok (.ireturn, 1) := by decide +kernel
theorem dX9_pointsOf_0 : decode cX9_pointsOf 0 = .ok (.aload_n 0, 1) := by decide +kernel
theorem dX9_pointsOf_1 : decode cX9_pointsOf 1 = .ok (.iload_n 1, 1) := by decide +kernel
theorem dX9_pointsOf_2 : decode cX9_pointsOf 2 = .ok (.iload_n 2, 1) := by decide +kernel
theorem dX9_pointsOf_3 : decode cX9_pointsOf 3 = .ok (.invokevirtual 82, 3) := by decide +kernel
theorem dX9_pointsOf_6 : decode cX9_pointsOf 6 = .ok (.istore_n 3, 1) := by decide +kernel
theorem dX9_pointsOf_7 : decode cX9_pointsOf 7 = .ok (.aload_n 0, 1) := by decide +kernel
theorem dX9_pointsOf_8 : decode cX9_pointsOf 8 = .ok (.iload_n 1, 1) := by decide +kernel
theorem dX9_pointsOf_9 : decode cX9_pointsOf 9 = .ok (.iload_n 3, 1) := by decide +kernel
theorem dX9_pointsOf_10 : decode cX9_pointsOf 10 = .ok (.invokevirtual 75, 3) := by decide +kernel
theorem dX9_pointsOf_13 : decode cX9_pointsOf 13 = .ok (.aload_n 0, 1) := by decide +kernel
theorem dX9_pointsOf_14 : decode cX9_pointsOf 14 = .ok (.iload_n 1, 1) := by decide +kernel
theorem dX9_pointsOf_15 : decode cX9_pointsOf 15 = .ok (.iload_n 2, 1) := by decide +kernel
theorem dX9_pointsOf_16 : decode cX9_pointsOf 16 = .ok (.invokevirtual 75, 3) := by decide +kernel
theorem dX9_pointsOf_19 : decode cX9_pointsOf 19 = .ok (.isub, 1) := by decide +kernel
theorem dX9_pointsOf_20 : decode cX9_pointsOf 20 = .ok (.aload_n 0, 1) := by decide +kernel
theorem dX9_pointsOf_21 : decode cX9_pointsOf 21 = .ok (.iload_n 1, 1) := by decide +kernel
theorem dX9_pointsOf_22 : decode cX9_pointsOf 22 = .ok (.iload_n 3, 1) := by decide +kernel
theorem dX9_pointsOf_23 : decode cX9_pointsOf 23 = .ok (.invokevirtual 79, 3) := by decide +kernel
theorem dX9_pointsOf_26 : decode cX9_pointsOf 26 = .ok (.aload_n 0, 1) := by decide +kernel
theorem dX9_pointsOf_27 : decode cX9_pointsOf 27 = .ok (.iload_n 1, 1) := by decide +kernel
theorem dX9_pointsOf_28 : decode cX9_pointsOf 28 = .ok (.iload_n 2, 1) := by decide +kernel
theorem dX9_pointsOf_29 : decode cX9_pointsOf 29 = .ok (.invokevirtual 79, 3) := by decide +kernel
theorem dX9_pointsOf_32 : decode cX9_pointsOf 32 = .ok (.isub, 1) := by decide +kernel
theorem dX9_pointsOf_33 : decode cX9_pointsOf 33 = .ok (.invokestatic 146, 3) := by decide +kernel
theorem dX9_pointsOf_36 : decode cX9_pointsOf 36 = .ok (.ireturn, 1) := by decide +kernel
theorem dX9_ringPoints_0 : decode cX9_ringPoints 0 = .ok (.iconst 0, 1) := by decide +kernel
theorem dX9_ringPoints_1 : decode cX9_ringPoints 1 = .ok (.istore_n 2, 1) := by decide +kernel
theorem dX9_ringPoints_2 : decode cX9_ringPoints 2 = .ok (.iconst 0, 1) := by decide +kernel
theorem dX9_ringPoints_3 : decode cX9_ringPoints 3 = .ok (.istore_n 3, 1) := by decide +kernel
theorem dX9_ringPoints_4 : decode cX9_ringPoints 4 = .ok (.iload_n 3, 1) := by decide +kernel
theorem dX9_ringPoints_5 : decode cX9_ringPoints 5 = .ok (.aload_n 0, 1) := by decide +kernel
theorem dX9_ringPoints_6 : decode cX9_ringPoints 6 = .ok (.iload_n 1, 1) := by decide +kernel
theorem dX9_ringPoints_7 : decode cX9_ringPoints 7 = .ok (.invokevirtual 68, 3) := by decide +kernel
theorem dX9_ringPoints_10 : decode cX9_ringPoints 10 = .ok (.if_icmp .ge 18, 3) := by decide +kernel
theorem dX9_ringPoints_13 : decode cX9_ringPoints 13 = .ok (.iload_n 2, 1) := by decide +kernel
theorem dX9_ringPoints_14 : decode cX9_ringPoints 14 = .ok (.aload_n 0, 1) := by decide +kernel
theorem dX9_ringPoints_15 : decode cX9_ringPoints 15 = .ok (.iload_n 1, 1) := by decide +kernel
theorem dX9_ringPoints_16 : decode cX9_ringPoints 16 = .ok (.iload_n 3, 1) := by decide +kernel
theorem dX9_ringPoints_17 : decode cX9_ringPoints 17 = .ok (.invokevirtual 149, 3) := by decide +kernel
theorem dX9_ringPoints_20 : decode cX9_ringPoints 20 = .ok (.iadd, 1) := by decide +kernel
theorem dX9_ringPoints_21 : decode cX9_ringPoints 21 = .ok (.istore_n 2, 1) := by decide +kernel
theorem dX9_ringPoints_22 : decode cX9_ringPoints 22 = .ok (.iinc 3 1, 3) := by decide +kernel
theorem dX9_ringPoints_25 : decode cX9_ringPoints 25 = .ok (.goto (-21), 3) := by decide +kernel
theorem dX9_ringPoints_28 : decode cX9_ringPoints 28 = .ok (.iload_n 2, 1) := by decide +kernel
theorem dX9_ringPoints_29 : decode cX9_ringPoints 29 = .ok (.ireturn, 1) := by decide +kernel
theorem dX9_bend_0 : decode cX9_bend 0 = .ok (.aload_n 0, 1) := by decide +kernel
theorem dX9_bend_1 : decode cX9_bend 1 = .ok (.iload_n 1, 1) := by decide +kernel
theorem dX9_bend_2 : decode cX9_bend 2 = .ok (.iload_n 2, 1) := by decide +kernel
theorem dX9_bend_3 : decode cX9_bend 3 = .ok (.invokevirtual 152, 3) := by decide +kernel
theorem dX9_bend_6 : decode cX9_bend 6 = .ok (.istore_n 3, 1) := by decide +kernel
theorem dX9_bend_7 : decode cX9_bend 7 = .ok (.aload_n 0, 1) := by decide +kernel
theorem dX9_bend_8 : decode cX9_bend 8 = .ok (.iload_n 1, 1) := by decide +kernel
theorem dX9_bend_9 : decode cX9_bend 9 = .ok (.iload_n 2, 1) := by decide +kernel
theorem dX9_bend_10 : decode cX9_bend 10 = .ok (.invokevirtual 82, 3) := by decide +kernel
theorem dX9_bend_13 : decode cX9_bend 13 = .ok (.istore 4, 2) := by decide +kernel
theorem dX9_bend_15 : decode cX9_bend 15 = .ok (.aload_n 0, 1) := by decide +kernel
theorem dX9_bend_16 : decode cX9_bend 16 = .ok (.iload_n 1, 1) := by decide +kernel
theorem dX9_bend_17 : decode cX9_bend 17 = .ok (.iload_n 2, 1) := by decide +kernel
theorem dX9_bend_18 : decode cX9_bend 18 = .ok (.invokevirtual 75, 3) := by decide +kernel
theorem dX9_bend_21 : decode cX9_bend 21 = .ok (.aload_n 0, 1) := by decide +kernel
theorem dX9_bend_22 : decode cX9_bend 22 = .ok (.iload_n 1, 1) := by decide +kernel
theorem dX9_bend_23 : decode cX9_bend 23 = .ok (.iload_n 3, 1) := by decide +kernel
theorem dX9_bend_24 : decode cX9_bend 24 = .ok (.invokevirtual 75, 3) := by decide +kernel
theorem dX9_bend_27 : decode cX9_bend 27 = .ok (.isub, 1) := by decide +kernel
theorem dX9_bend_28 : decode cX9_bend 28 = .ok (.aload_n 0, 1) := by decide +kernel
theorem dX9_bend_29 : decode cX9_bend 29 = .ok (.iload_n 1, 1) := by decide +kernel
theorem dX9_bend_30 : decode cX9_bend 30 = .ok (.iload 4, 2) := by decide +kernel
theorem dX9_bend_32 : decode cX9_bend 32 = .ok (.invokevirtual 79, 3) := by decide +kernel
theorem dX9_bend_35 : decode cX9_bend 35 = .ok (.aload_n 0, 1) := by decide +kernel
theorem dX9_bend_36 : decode cX9_bend 36 = .ok (.iload_n 1, 1) := by decide +kernel
theorem dX9_bend_37 : decode cX9_bend 37 = .ok (.iload_n 2, 1) := by decide +kernel
theorem dX9_bend_38 : decode cX9_bend 38 = .ok (.invokevirtual 79, 3) := by decide +kernel
theorem dX9_bend_41 : decode cX9_bend 41 = .ok (.isub, 1) := by decide +kernel
theorem dX9_bend_42 : decode cX9_bend 42 = .ok (.imul, 1) := by decide +kernel
theorem dX9_bend_43 : decode cX9_bend 43 = .ok (.aload_n 0, 1) := by decide +kernel
theorem dX9_bend_44 : decode cX9_bend 44 = .ok (.iload_n 1, 1) := by decide +kernel
theorem dX9_bend_45 : decode cX9_bend 45 = .ok (.iload_n 2, 1) := by decide +kernel
theorem dX9_bend_46 : decode cX9_bend 46 = .ok (.invokevirtual 79, 3) := by decide +kernel
theorem dX9_bend_49 : decode cX9_bend 49 = .ok (.aload_n 0, 1) := by decide +kernel
theorem dX9_bend_50 : decode cX9_bend 50 = .ok (.iload_n 1, 1) := by decide +kernel
theorem dX9_bend_51 : decode cX9_bend 51 = .ok (.iload_n 3, 1) := by decide +kernel
theorem dX9_bend_52 : decode cX9_bend 52 = .ok (.invokevirtual 79, 3) := by decide +kernel
theorem dX9_bend_55 : decode cX9_bend 55 = .ok (.isub, 1) := by decide +kernel
theorem dX9_bend_56 : decode cX9_bend 56 = .ok (.aload_n 0, 1) := by decide +kernel
theorem dX9_bend_57 : decode cX9_bend 57 = .ok (.iload_n 1, 1) := by decide +kernel
theorem dX9_bend_58 : decode cX9_bend 58 = .ok (.iload 4, 2) := by decide +kernel
theorem dX9_bend_60 : decode cX9_bend 60 = .ok (.invokevirtual 75, 3) := by decide +kernel
theorem dX9_bend_63 : decode cX9_bend 63 = .ok (.aload_n 0, 1) := by decide +kernel
theorem dX9_bend_64 : decode cX9_bend 64 = .ok (.iload_n 1, 1) := by decide +kernel
theorem dX9_bend_65 : decode cX9_bend 65 = .ok (.iload_n 2, 1) := by decide +kernel
theorem dX9_bend_66 : decode cX9_bend 66 = .ok (.invokevirtual 75, 3) := by decide +kernel
theorem dX9_bend_69 : decode cX9_bend 69 = .ok (.isub, 1) := by decide +kernel
theorem dX9_bend_70 : decode cX9_bend 70 = .ok (.imul, 1) := by decide +kernel
theorem dX9_bend_71 : decode cX9_bend 71 = .ok (.isub, 1) := by decide +kernel
theorem dX9_bend_72 : decode cX9_bend 72 = .ok (.ireturn, 1) := by decide +kernel
theorem dX9_kind_0 : decode cX9_kind 0 = .ok (.aload_n 0, 1) := by decide +kernel
theorem dX9_kind_1 : decode cX9_kind 1 = .ok (.iload_n 1, 1) := by decide +kernel
theorem dX9_kind_2 : decode cX9_kind 2 = .ok (.iload_n 2, 1) := by decide +kernel
theorem dX9_kind_3 : decode cX9_kind 3 = .ok (.invokevirtual 155, 3) := by decide +kernel
theorem dX9_kind_6 : decode cX9_kind 6 = .ok (.istore_n 3, 1) := by decide +kernel
theorem dX9_kind_7 : decode cX9_kind 7 = .ok (.iload_n 3, 1) := by decide +kernel
theorem dX9_kind_8 : decode cX9_kind 8 = .ok (.ifCond .ne 7, 3) := by decide +kernel
theorem dX9_kind_11 : decode cX9_kind 11 = .ok (.iconst 0, 1) := by decide +kernel
theorem dX9_kind_12 : decode cX9_kind 12 = .ok (.goto 33, 3) := by decide +kernel
theorem dX9_kind_15 : decode cX9_kind 15 = .ok (.iload_n 3, 1) := by decide +kernel
theorem dX9_kind_16 : decode cX9_kind 16 = .ok (.ifCond .le 7, 3) := by decide +kernel
theorem dX9_kind_19 : decode cX9_kind 19 = .ok (.iconst 1, 1) := by decide +kernel
theorem dX9_kind_20 : decode cX9_kind 20 = .ok (.goto 4, 3) := by decide +kernel
theorem dX9_kind_23 : decode cX9_kind 23 = .ok (.iconst 0, 1) := by decide +kernel
theorem dX9_kind_24 : decode cX9_kind 24 = .ok (.aload_n 0, 1) := by decide +kernel
theorem dX9_kind_25 : decode cX9_kind 25 = .ok (.iload_n 1, 1) := by decide +kernel
theorem dX9_kind_26 : decode cX9_kind 26 = .ok (.invokevirtual 140, 3) := by decide +kernel
theorem dX9_kind_29 : decode cX9_kind 29 = .ok (.ifCond .le 7, 3) := by decide +kernel
theorem dX9_kind_32 : decode cX9_kind 32 = .ok (.iconst 1, 1) := by decide +kernel
theorem dX9_kind_33 : decode cX9_kind 33 = .ok (.goto 4, 3) := by decide +kernel
theorem dX9_kind_36 : decode cX9_kind 36 = .ok (.iconst 0, 1) := by decide +kernel
theorem dX9_kind_37 : decode cX9_kind 37 = .ok (.if_icmp .ne 7, 3) := by decide +kernel
theorem dX9_kind_40 : decode cX9_kind 40 = .ok (.iconst 1, 1) := by decide +kernel
theorem dX9_kind_41 : decode cX9_kind 41 = .ok (.goto 4, 3) := by decide +kernel
theorem dX9_kind_44 : decode cX9_kind 44 = .ok (.iconst (-1), 1) := by decide +kernel
theorem dX9_kind_45 : decode cX9_kind 45 = .ok (.ireturn, 1) := by decide +kernel
theorem dX9_where_0 : decode cX9_where 0 = .ok (.iconst 0, 1) := by decide +kernel
theorem dX9_where_1 : decode cX9_where 1 = .ok (.istore_n 3, 1) := by decide +kernel
theorem dX9_where_2 : decode cX9_where 2 = .ok (.iload_n 3, 1) := by decide +kernel
theorem dX9_where_3 : decode cX9_where 3 = .ok (.aload_n 0, 1) := by decide +kernel
theorem dX9_where_4 : decode cX9_where 4 = .ok (.getfield 7, 3) := by decide +kernel
theorem dX9_where_7 : decode cX9_where 7 = .ok (.iconst 0, 1) := by decide +kernel
theorem dX9_where_8 : decode cX9_where 8 = .ok (.iaload, 1) := by decide +kernel
theorem dX9_where_9 : decode cX9_where 9 = .ok (.if_icmp .ge 75, 3) := by decide +kernel
theorem dX9_where_12 : decode cX9_where 12 = .ok (.iconst 0, 1) := by decide +kernel
theorem dX9_where_13 : decode cX9_where 13 = .ok (.istore 4, 2) := by decide +kernel
theorem dX9_where_15 : decode cX9_where 15 = .ok (.iload 4, 2) := by decide +kernel
theorem dX9_where_17 : decode cX9_where 17 = .ok (.aload_n 0, 1) := by decide +kernel
theorem dX9_where_18 : decode cX9_where 18 = .ok (.iload_n 3, 1) := by decide +kernel
theorem dX9_where_19 : decode cX9_where 19 = .ok (.invokevirtual 68, 3) := by decide +kernel
theorem dX9_where_22 : decode cX9_where 22 = .ok (.if_icmp .ge 56, 3) := by decide +kernel
theorem dX9_where_25 : decode cX9_where 25 = .ok (.aload_n 0, 1) := by decide +kernel
theorem dX9_where_26 : decode cX9_where 26 = .ok (.iload_n 3, 1) := by decide +kernel
theorem dX9_where_27 : decode cX9_where 27 = .ok (.iload 4, 2) := by decide +kernel
theorem dX9_where_29 : decode cX9_where 29 = .ok (.invokevirtual 82, 3) := by decide +kernel
theorem dX9_where_32 : decode cX9_where 32 = .ok (.istore 5, 2) := by decide +kernel
theorem dX9_where_34 : decode cX9_where 34 = .ok (.aload_n 0, 1) := by decide +kernel
theorem dX9_where_35 : decode cX9_where 35 = .ok (.iload_n 3, 1) := by decide +kernel
theorem dX9_where_36 : decode cX9_where 36 = .ok (.iload 4, 2) := by decide +kernel
theorem dX9_where_38 : decode cX9_where 38 = .ok (.invokevirtual 75, 3) := by decide +kernel
theorem dX9_where_41 : decode cX9_where 41 = .ok (.aload_n 0, 1) := by decide +kernel
theorem dX9_where_42 : decode cX9_where 42 = .ok (.iload_n 3, 1) := by decide +kernel
theorem dX9_where_43 : decode cX9_where 43 = .ok (.iload 4, 2) := by decide +kernel
theorem dX9_where_45 : decode cX9_where 45 = .ok (.invokevirtual 79, 3) := by decide +kernel
theorem dX9_where_48 : decode cX9_where 48 = .ok (.aload_n 0, 1) := by decide +kernel
theorem dX9_where_49 : decode cX9_where 49 = .ok (.iload_n 3, 1) := by decide +kernel
theorem dX9_where_50 : decode cX9_where 50 = .ok (.iload 5, 2) := by decide +kernel
theorem dX9_where_52 : decode cX9_where 52 = .ok (.invokevirtual 75, 3) := by decide +kernel
theorem dX9_where_55 : decode cX9_where 55 = .ok (.aload_n 0, 1) := by decide +kernel
theorem dX9_where_56 : decode cX9_where 56 = .ok (.iload_n 3, 1) := by decide +kernel
theorem dX9_where_57 : decode cX9_where 57 = .ok (.iload 5, 2) := by decide +kernel
theorem dX9_where_59 : decode cX9_where 59 = .ok (.invokevirtual 79, 3) := by decide +kernel
theorem dX9_where_62 : decode cX9_where 62 = .ok (.iload_n 1, 1) := by decide +kernel
theorem dX9_where_63 : decode cX9_where 63 = .ok (.iload_n 2, 1) := by decide +kernel
theorem dX9_where_64 : decode cX9_where 64 = .ok (.invokestatic 89, 3) := by decide +kernel
theorem dX9_where_67 : decode cX9_where 67 = .ok (.ifCond .eq 5, 3) := by decide +kernel
theorem dX9_where_70 : decode cX9_where 70 = .ok (.iconst 1, 1) := by decide +kernel
theorem dX9_where_71 : decode cX9_where 71 = .ok (.ireturn, 1) := by decide +kernel
theorem dX9_where_72 : decode cX9_where 72 = .ok (.iinc 4 1, 3) := by decide +kernel
theorem dX9_where_75 : decode cX9_where 75 = .ok (.goto (-60), 3) := by decide +kernel
theorem dX9_where_78 : decode cX9_where 78 = .ok (.iinc 3 1, 3) := by decide +kernel
theorem dX9_where_81 : decode cX9_where 81 = .ok (.goto (-79), 3) := by decide +kernel
theorem dX9_where_84 : decode cX9_where 84 = .ok (.aload_n 0, 1) := by decide +kernel
theorem dX9_where_85 : decode cX9_where 85 = .ok (.iconst 2, 1) := by decide +kernel
theorem dX9_where_86 : decode cX9_where 86 = .ok (.iload_n 1, 1) := by decide +kernel
theorem dX9_where_87 : decode cX9_where 87 = .ok (.imul, 1) := by decide +kernel
theorem dX9_where_88 : decode cX9_where 88 = .ok (.iconst 2, 1) := by decide +kernel
theorem dX9_where_89 : decode cX9_where 89 = .ok (.iload_n 2, 1) := by decide +kernel
theorem dX9_where_90 : decode cX9_where 90 = .ok (.imul, 1) := by decide +kernel
theorem dX9_where_91 : decode cX9_where 91 = .ok (.invokevirtual 158, 3) := by decide +kernel
theorem dX9_where_94 : decode cX9_where 94 = .ok (.ireturn, 1) := by decide +kernel
theorem dX9_whereNotOn_0 : decode cX9_whereNotOn 0 = .ok (.aload_n 0, 1) := by decide +kernel
theorem dX9_whereNotOn_1 : decode cX9_whereNotOn 1 = .ok (.iconst 0, 1) := by decide +kernel
theorem dX9_whereNotOn_2 : decode cX9_whereNotOn 2 = .ok (.iload_n 1, 1) := by decide +kernel
theorem dX9_whereNotOn_3 : decode cX9_whereNotOn 3 = .ok (.iload_n 2, 1) := by decide +kernel
theorem dX9_whereNotOn_4 : decode cX9_whereNotOn 4 = .ok (.invokevirtual 107, 3) := by decide +kernel
theorem dX9_whereNotOn_7 : decode cX9_whereNotOn 7 = .ok (.ifCond .eq 7, 3) := by decide +kernel
theorem dX9_whereNotOn_10 : decode cX9_whereNotOn 10 = .ok (.iconst 2, 1) := by decide +kernel
theorem dX9_whereNotOn_11 : decode cX9_whereNotOn 11 = .ok (.goto 4, 3) := by decide +kernel
theorem dX9_whereNotOn_14 : decode cX9_whereNotOn 14 = .ok (.iconst 0, 1) := by decide +kernel
theorem dX9_whereNotOn_15 : decode cX9_whereNotOn 15 = .ok (.istore_n 3, 1) := by decide +kernel
theorem dX9_whereNotOn_16 : decode cX9_whereNotOn 16 = .ok (.iconst 1, 1) := by decide +kernel
theorem dX9_whereNotOn_17 : decode cX9_whereNotOn 17 = .ok (.istore 4, 2) := by decide +kernel
theorem dX9_whereNotOn_19 : decode cX9_whereNotOn 19 = .ok (.iload 4, 2) := by decide +kernel
theorem dX9_whereNotOn_21 : decode cX9_whereNotOn 21 = .ok (.aload_n 0, 1) := by decide +kernel
theorem dX9_whereNotOn_22 : decode cX9_whereNotOn 22 = .ok (.getfield 7, 3) := by decide +kernel
theorem dX9_whereNotOn_25 : decode cX9_whereNotOn 25 = .ok (.iconst 0, 1) := by decide +kernel
theorem dX9_whereNotOn_26 : decode cX9_whereNotOn 26 = .ok (.iaload, 1) := by decide +kernel
theorem dX9_whereNotOn_27 : decode cX9_whereNotOn 27 = .ok (.if_icmp .ge 31, 3) := by decide +kernel
theorem dX9_whereNotOn_30 : decode cX9_whereNotOn 30 = .ok (.iload_n 3, 1) := by decide +kernel
theorem dX9_whereNotOn_31 : decode cX9_whereNotOn 31 = .ok (.iconst 2, 1) := by decide +kernel
theorem dX9_whereNotOn_32 : decode cX9_whereNotOn 32 = .ok (.if_icmp .ne 26, 3) := by decide +kernel
theorem dX9_whereNotOn_35 : decode cX9_whereNotOn 35 = .ok (.aload_n 0, 1) := by decide +kernel
theorem dX9_whereNotOn_36 : decode cX9_whereNotOn 36 = .ok (.iload 4, 2) := by decide +kernel
theorem dX9_whereNotOn_38 : decode cX9_whereNotOn 38 = .ok (.iload_n 1, 1) := by decide +kernel
theorem dX9_whereNotOn_39 : decode cX9_whereNotOn 39 = .ok (.iload_n 2, 1) := by decide +kernel
theorem dX9_whereNotOn_40 : decode cX9_whereNotOn 40 = .ok (.invokevirtual 107, 3) := by decide +kernel
theorem dX9_whereNotOn_43 : decode cX9_whereNotOn 43 = .ok (.ifCond .eq 7, 3) := by decide +kernel
theorem dX9_whereNotOn_46 : decode cX9_whereNotOn 46 = .ok (.iconst 3, 1) := by decide +kernel
theorem dX9_whereNotOn_47 : decode cX9_whereNotOn 47 = .ok (.goto 4, 3) := by decide +kernel
theorem dX9_whereNotOn_50 : decode cX9_whereNotOn 50 = .ok (.iconst 2, 1) := by decide +kernel
theorem dX9_whereNotOn_51 : decode cX9_whereNotOn 51 = .ok (.istore_n 3, 1) := by decide +kernel
theorem dX9_whereNotOn_52 : decode cX9_whereNotOn 52 = .ok (.iinc 4 1, 3) := by decide +kernel
theorem dX9_whereNotOn_55 : decode cX9_whereNotOn 55 = .ok (.goto (-36), 3) := by decide +kernel
theorem dX9_whereNotOn_58 : decode cX9_whereNotOn 58 = .ok (.iload_n 3, 1) := by decide +kernel
theorem dX9_whereNotOn_59 : decode cX9_whereNotOn 59 = .ok (.ireturn, 1) := by decide +kernel
theorem dX9_isInTheWay_0 : decode cX9_isInTheWay 0 = .ok (.aload_n 0, 1) := by decide +kernel
theorem dX9_isInTheWay_1 : decode cX9_isInTheWay 1 = .ok (.getfield 37, 3) := by decide +kernel
theorem dX9_isInTheWay_4 : decode cX9_isInTheWay 4 = .ok (.iload_n 1, 1) := by decide +kernel
theorem dX9_isInTheWay_5 : decode cX9_isInTheWay 5 = .ok (.iaload, 1) := by decide +kernel
theorem dX9_isInTheWay_6 : decode cX9_isInTheWay 6 = .ok (.iload_n 2, 1) := by decide +kernel
theorem dX9_isInTheWay_7 : decode cX9_isInTheWay 7 = .ok (.if_icmp .ne 13, 3) := by decide +kernel
theorem dX9_isInTheWay_10 : decode cX9_isInTheWay 10 = .ok (.aload_n 0, 1) := by decide +kernel
theorem dX9_isInTheWay_11 : decode cX9_isInTheWay 11 = .ok (.getfield 40, 3) := by decide +kernel
theorem dX9_isInTheWay_14 : decode cX9_isInTheWay 14 = .ok (.iload_n 1, 1) := by decide +kernel
theorem dX9_isInTheWay_15 : decode cX9_isInTheWay 15 = .ok (.iaload, 1) := by decide +kernel
theorem dX9_isInTheWay_16 : decode cX9_isInTheWay 16 = .ok (.iload_n 3, 1) := by decide +kernel
theorem dX9_isInTheWay_17 : decode cX9_isInTheWay 17 = .ok (.if_icmp .eq 23, 3) := by decide +kernel
theorem dX9_isInTheWay_20 : decode cX9_isInTheWay 20 = .ok (.aload_n 0, 1) := by decide +kernel
theorem dX9_isInTheWay_21 : decode cX9_isInTheWay 21 = .ok (.getfield 43, 3) := by decide +kernel
theorem dX9_isInTheWay_24 : decode cX9_isInTheWay 24 = .ok (.iload_n 1, 1) := by decide +kernel
theorem dX9_isInTheWay_25 : decode cX9_isInTheWay 25 = .ok (.iaload, 1) := by decide +kernel
theorem dX9_isInTheWay_26 : decode cX9_isInTheWay 26 = .ok (.iload_n 2, 1) := by decide +kernel
theorem dX9_isInTheWay_27 : decode cX9_isInTheWay 27 = .ok (.if_icmp .ne 17, 3) := by decide +kernel
theorem dX9_isInTheWay_30 : decode cX9_isInTheWay 30 = .ok (.aload_n 0, 1) := by decide +kernel
theorem dX9_isInTheWay_31 : decode cX9_isInTheWay 31 = .ok (.getfield 46, 3) := by decide +kernel
theorem dX9_isInTheWay_34 : decode cX9_isInTheWay 34 = .ok (.iload_n 1, 1) := by decide +kernel
theorem dX9_isInTheWay_35 : decode cX9_isInTheWay 35 = .ok (.iaload, 1) := by decide +kernel
theorem dX9_isInTheWay_36 : decode cX9_isInTheWay 36 = .ok (.iload_n 3, 1) := by decide +kernel
theorem dX9_isInTheWay_37 : decode cX9_isInTheWay 37 = .ok (.if_icmp .ne 7, 3) := by decide +kernel
theorem dX9_isInTheWay_40 : decode cX9_isInTheWay 40 = .ok (.iconst 1, 1) := by decide +kernel
theorem dX9_isInTheWay_41 : decode cX9_isInTheWay 41 = .ok (.goto 4, 3) := by decide +kernel
theorem dX9_isInTheWay_44 : decode cX9_isInTheWay 44 = .ok (.iconst 0, 1) := by decide +kernel
theorem dX9_isInTheWay_45 : decode cX9_isInTheWay 45 = .ok (.istore 6, 2) := by decide +kernel
theorem dX9_isInTheWay_47 : decode cX9_isInTheWay 47 = .ok (.aload_n 0, 1) := by decide +kernel
theorem dX9_isInTheWay_48 : decode cX9_isInTheWay 48 = .ok (.getfield 37, 3) := by decide +kernel
theorem dX9_isInTheWay_51 : decode cX9_isInTheWay 51 = .ok (.iload_n 1, 1) := by decide +kernel
theorem dX9_isInTheWay_52 : decode cX9_isInTheWay 52 = .ok (.iaload, 1) := by decide +kernel
theorem dX9_isInTheWay_53 : decode cX9_isInTheWay 53 = .ok (.iload 4, 2) := by decide +kernel
theorem dX9_isInTheWay_55 : decode cX9_isInTheWay 55 = .ok (.if_icmp .ne 14, 3) := by decide +kernel
theorem dX9_isInTheWay_58 : decode cX9_isInTheWay 58 = .ok (.aload_n 0, 1) := by decide +kernel
theorem dX9_isInTheWay_59 : decode cX9_isInTheWay 59 = .ok (.getfield 40, 3) := by decide +kernel
theorem dX9_isInTheWay_62 : decode cX9_isInTheWay 62 = .ok (.iload_n 1, 1) := by decide +kernel
theorem dX9_isInTheWay_63 : decode cX9_isInTheWay 63 = .ok (.iaload, 1) := by decide +kernel
theorem dX9_isInTheWay_64 : decode cX9_isInTheWay 64 = .ok (.iload 5, 2) := by decide +kernel
theorem dX9_isInTheWay_66 : decode cX9_isInTheWay 66 = .ok (.if_icmp .eq 25, 3) := by decide +kernel
theorem dX9_isInTheWay_69 : decode cX9_isInTheWay 69 = .ok (.aload_n 0, 1) := by decide +kernel
theorem dX9_isInTheWay_70 : decode cX9_isInTheWay 70 = .ok (.getfield 43, 3) := by decide +kernel
theorem dX9_isInTheWay_73 : decode cX9_isInTheWay 73 = .ok (.iload_n 1, 1) := by decide +kernel
theorem dX9_isInTheWay_74 : decode cX9_isInTheWay 74 = .ok (.iaload, 1) := by decide +kernel
theorem dX9_isInTheWay_75 : decode cX9_isInTheWay 75 = .ok (.iload 4, 2) := by decide +kernel
theorem dX9_isInTheWay_77 : decode cX9_isInTheWay 77 = .ok (.if_icmp .ne 18, 3) := by decide +kernel
theorem dX9_isInTheWay_80 : decode cX9_isInTheWay 80 = .ok (.aload_n 0, 1) := by decide +kernel
theorem dX9_isInTheWay_81 : decode cX9_isInTheWay 81 = .ok (.getfield 46, 3) := by decide +kernel
theorem dX9_isInTheWay_84 : decode cX9_isInTheWay 84 = .ok (.iload_n 1, 1) := by decide +kernel
theorem dX9_isInTheWay_85 : decode cX9_isInTheWay 85 = .ok (.iaload, 1) := by decide +kernel
theorem dX9_isInTheWay_86 : decode cX9_isInTheWay 86 = .ok (.iload 5, 2) := by decide +kernel
theorem dX9_isInTheWay_88 : decode cX9_isInTheWay 88 = .ok (.if_icmp .ne 7, 3) := by decide +kernel
theorem dX9_isInTheWay_91 : decode cX9_isInTheWay 91 = .ok (.iconst 1, 1) := by decide +kernel
theorem dX9_isInTheWay_92 : decode cX9_isInTheWay 92 = .ok (.goto 4, 3) := by decide +kernel
theorem dX9_isInTheWay_95 : decode cX9_isInTheWay 95 = .ok (.iconst 0, 1) := by decide +kernel
theorem dX9_isInTheWay_96 : decode cX9_isInTheWay 96 = .ok (.istore 7, 2) := by decide +kernel
theorem dX9_isInTheWay_98 : decode cX9_isInTheWay 98 = .ok (.iload 6, 2) := by decide +kernel
theorem dX9_isInTheWay_100 : decode cX9_isInTheWay 100 = .ok (.ifCond .eq 10, 3) := by decide +kernel
theorem dX9_isInTheWay_103 : decode cX9_isInTheWay 103 = .ok (.iload 7, 2) := by decide +kernel
theorem dX9_isInTheWay_105 : decode cX9_isInTheWay 105 = .ok (.ifCond .eq 5, 3) := by decide +kernel
theorem dX9_isInTheWay_108 : decode cX9_isInTheWay 108 = .ok (.iconst 1, 1) := by decide +kernel
theorem dX9_isInTheWay_109 : decode cX9_isInTheWay 109 = .ok (.ireturn, 1) := by decide +kernel
theorem dX9_isInTheWay_110 : decode cX9_isInTheWay 110 = .ok (.aload_n 0, 1) := by decide +kernel
theorem dX9_isInTheWay_111 : decode cX9_isInTheWay 111 = .ok (.getfield 37, 3) := by decide +kernel
theorem dX9_isInTheWay_114 : decode cX9_isInTheWay 114 = .ok (.iload_n 1, 1) := by decide +kernel
theorem dX9_isInTheWay_115 : decode cX9_isInTheWay 115 = .ok (.iaload, 1) := by decide +kernel
theorem dX9_isInTheWay_116 : decode cX9_isInTheWay 116 = .ok (.iload_n 2, 1) := by decide +kernel
theorem dX9_isInTheWay_117 : decode cX9_isInTheWay 117 = .ok (.if_icmp .ne 13, 3) := by decide +kernel
theorem dX9_isInTheWay_120 : decode cX9_isInTheWay 120 = .ok (.aload_n 0, 1) := by decide +kernel
theorem dX9_isInTheWay_121 : decode cX9_isInTheWay 121 = .ok (.getfield 40, 3) := by decide +kernel
theorem dX9_isInTheWay_124 : decode cX9_isInTheWay 124 = .ok (.iload_n 1, 1) := by decide +kernel
theorem dX9_isInTheWay_125 : decode cX9_isInTheWay 125 = .ok (.iaload, 1) := by decide +kernel
theorem dX9_isInTheWay_126 : decode cX9_isInTheWay 126 = .ok (.iload_n 3, 1) := by decide +kernel
theorem dX9_isInTheWay_127 : decode cX9_isInTheWay 127 = .ok (.if_icmp .eq 25, 3) := by decide +kernel
theorem dX9_isInTheWay_130 : decode cX9_isInTheWay 130 = .ok (.aload_n 0, 1) := by decide +kernel
theorem dX9_isInTheWay_131 : decode cX9_isInTheWay 131 = .ok (.getfield 37, 3) := by decide +kernel
theorem dX9_isInTheWay_134 : decode cX9_isInTheWay 134 = .ok (.iload_n 1, 1) := by decide +kernel
theorem dX9_isInTheWay_135 : decode cX9_isInTheWay 135 = .ok (.iaload, 1) := by decide +kernel
theorem dX9_isInTheWay_136 : decode cX9_isInTheWay 136 = .ok (.iload 4, 2) := by decide +kernel
theorem dX9_isInTheWay_138 : decode cX9_isInTheWay 138 = .ok (.if_icmp .ne 23, 3) := by decide +kernel
theorem dX9_isInTheWay_141 : decode cX9_isInTheWay 141 = .ok (.aload_n 0, 1) := by decide +kernel
theorem dX9_isInTheWay_142 : decode cX9_isInTheWay 142 = .ok (.getfield 40, 3) := by decide +kernel
theorem dX9_isInTheWay_145 : decode cX9_isInTheWay 145 = .ok (.iload_n 1, 1) := by decide +kernel
theorem dX9_isInTheWay_146 : decode cX9_isInTheWay 146 = .ok (.iaload, 1) := by decide +kernel
theorem dX9_isInTheWay_147 : decode cX9_isInTheWay 147 = .ok (.iload 5, 2) := by decide +kernel
theorem dX9_isInTheWay_149 : decode cX9_isInTheWay 149 = .ok (.if_icmp .ne 12, 3) := by decide +kernel
theorem dX9_isInTheWay_152 : decode cX9_isInTheWay 152 = .ok (.aload_n 0, 1) := by decide +kernel
theorem dX9_isInTheWay_153 : decode cX9_isInTheWay 153 = .ok (.getfield 43, 3) := by decide +kernel
theorem dX9_isInTheWay_156 : decode cX9_isInTheWay 156 = .ok (.iload_n 1, 1) := by decide +kernel
theorem dX9_isInTheWay_157 : decode cX9_isInTheWay 157 = .ok (.iaload, 1) := by decide +kernel
theorem dX9_isInTheWay_158 : decode cX9_isInTheWay 158 = .ok (.goto 9, 3) := by decide +kernel
theorem dX9_isInTheWay_161 : decode cX9_isInTheWay 161 = .ok (.aload_n 0, 1) := by decide +kernel
theorem dX9_isInTheWay_162 : decode cX9_isInTheWay 162 = .ok (.getfield 37, 3) := by decide +kernel
theorem dX9_isInTheWay_165 : decode cX9_isInTheWay 165 = .ok (.iload_n 1, 1) := by decide +kernel
theorem dX9_isInTheWay_166 : decode cX9_isInTheWay 166 = .ok (.iaload, 1) := by decide +kernel
theorem dX9_isInTheWay_167 : decode cX9_isInTheWay 167 = .ok (.istore 8, 2) := by decide +kernel
theorem dX9_isInTheWay_169 : decode cX9_isInTheWay 169 = .ok (.aload_n 0, 1) := by decide +kernel
theorem dX9_isInTheWay_170 : decode cX9_isInTheWay 170 = .ok (.getfield 37, 3) := by decide +kernel
theorem dX9_isInTheWay_173 : decode cX9_isInTheWay 173 = .ok (.iload_n 1, 1) := by decide +kernel
theorem dX9_isInTheWay_174 : decode cX9_isInTheWay 174 = .ok (.iaload, 1) := by decide +kernel
theorem dX9_isInTheWay_175 : decode cX9_isInTheWay 175 = .ok (.iload_n 2, 1) := by decide +kernel
theorem dX9_isInTheWay_176 : decode cX9_isInTheWay 176 = .ok (.if_icmp .ne 13, 3) := by decide +kernel
theorem dX9_isInTheWay_179 : decode cX9_isInTheWay 179 = .ok (.aload_n 0, 1) := by decide +kernel
theorem dX9_isInTheWay_180 : decode cX9_isInTheWay 180 = .ok (.getfield 40, 3) := by decide +kernel
theorem dX9_isInTheWay_183 : decode cX9_isInTheWay 183 = .ok (.iload_n 1, 1) := by decide +kernel
theorem dX9_isInTheWay_184 : decode cX9_isInTheWay 184 = .ok (.iaload, 1) := by decide +kernel
theorem dX9_isInTheWay_185 : decode cX9_isInTheWay 185 = .ok (.iload_n 3, 1) := by decide +kernel
theorem dX9_isInTheWay_186 : decode cX9_isInTheWay 186 = .ok (.if_icmp .eq 25, 3) := by decide +kernel
theorem dX9_isInTheWay_189 : decode cX9_isInTheWay 189 = .ok (.aload_n 0, 1) := by decide +kernel
theorem dX9_isInTheWay_190 : decode cX9_isInTheWay 190 = .ok (.getfield 37, 3) := by decide +kernel
theorem dX9_isInTheWay_193 : decode cX9_isInTheWay 193 = .ok (.iload_n 1, 1) := by decide +kernel
theorem dX9_isInTheWay_194 : decode cX9_isInTheWay 194 = .ok (.iaload, 1) := by decide +kernel
theorem dX9_isInTheWay_195 : decode cX9_isInTheWay 195 = .ok (.iload 4, 2) := by decide +kernel
theorem dX9_isInTheWay_197 : decode cX9_isInTheWay 197 = .ok (.if_icmp .ne 23, 3) := by decide +kernel
theorem dX9_isInTheWay_200 : decode cX9_isInTheWay 200 = .ok (.aload_n 0, 1) := by decide +kernel
theorem dX9_isInTheWay_201 : decode cX9_isInTheWay 201 = .ok (.getfield 40, 3) := by decide +kernel
theorem dX9_isInTheWay_204 : decode cX9_isInTheWay 204 = .ok (.iload_n 1, 1) := by decide +kernel
theorem dX9_isInTheWay_205 : decode cX9_isInTheWay 205 = .ok (.iaload, 1) := by decide +kernel
theorem dX9_isInTheWay_206 : decode cX9_isInTheWay 206 = .ok (.iload 5, 2) := by decide +kernel
theorem dX9_isInTheWay_208 : decode cX9_isInTheWay 208 = .ok (.if_icmp .ne 12, 3) := by decide +kernel
theorem dX9_isInTheWay_211 : decode cX9_isInTheWay 211 = .ok (.aload_n 0, 1) := by decide +kernel
theorem dX9_isInTheWay_212 : decode cX9_isInTheWay 212 = .ok (.getfield 46, 3) := by decide +kernel
theorem dX9_isInTheWay_215 : decode cX9_isInTheWay 215 = .ok (.iload_n 1, 1) := by decide +kernel
theorem dX9_isInTheWay_216 : decode cX9_isInTheWay 216 = .ok (.iaload, 1) := by decide +kernel
theorem dX9_isInTheWay_217 : decode cX9_isInTheWay 217 = .ok (.goto 9, 3) := by decide +kernel
theorem dX9_isInTheWay_220 : decode cX9_isInTheWay 220 = .ok (.aload_n 0, 1) := by decide +kernel
theorem dX9_isInTheWay_221 : decode cX9_isInTheWay 221 = .ok (.getfield 40, 3) := by decide +kernel
theorem dX9_isInTheWay_224 : decode cX9_isInTheWay 224 = .ok (.iload_n 1, 1) := by decide +kernel
theorem dX9_isInTheWay_225 : decode cX9_isInTheWay 225 = .ok (.iaload, 1) := by decide +kernel
theorem dX9_isInTheWay_226 : decode cX9_isInTheWay 226 = .ok (.istore 9, 2) := by decide +kernel
theorem dX9_isInTheWay_228 : decode cX9_isInTheWay 228 = .ok (.iload 6, 2) := by decide +kernel
theorem dX9_isInTheWay_230 : decode cX9_isInTheWay 230 = .ok (.ifCond .eq 17, 3) := by decide +kernel
theorem dX9_isInTheWay_233 : decode cX9_isInTheWay 233 = .ok (.iload_n 2, 1) := by decide +kernel
theorem dX9_isInTheWay_234 : decode cX9_isInTheWay 234 = .ok (.iload_n 3, 1) := by decide +kernel
theorem dX9_isInTheWay_235 : decode cX9_isInTheWay 235 = .ok (.iload 4, 2) := by decide +kernel
theorem dX9_isInTheWay_237 : decode cX9_isInTheWay 237 = .ok (.iload 5, 2) := by decide +kernel
theorem dX9_isInTheWay_239 : decode cX9_isInTheWay 239 = .ok (.iload 8, 2) := by decide +kernel
theorem dX9_isInTheWay_241 : decode cX9_isInTheWay 241 = .ok (.iload 9, 2) := by decide +kernel
theorem dX9_isInTheWay_243 : decode cX9_isInTheWay 243 = .ok (.invokestatic 101, 3) := by decide +kernel
theorem dX9_isInTheWay_246 : decode cX9_isInTheWay 246 = .ok (.ireturn, 1) := by decide +kernel
theorem dX9_isInTheWay_247 : decode cX9_isInTheWay 247 = .ok (.iload 7, 2) := by decide +kernel
theorem dX9_isInTheWay_249 : decode cX9_isInTheWay 249 = .ok (.ifCond .eq 19, 3) := by decide +kernel
theorem dX9_isInTheWay_252 : decode cX9_isInTheWay 252 = .ok (.iload 4, 2) := by decide +kernel
theorem dX9_isInTheWay_254 : decode cX9_isInTheWay 254 = .ok (.iload 5, 2) := by decide +kernel
theorem dX9_isInTheWay_256 : decode cX9_isInTheWay 256 = .ok (.iload_n 2, 1) := by decide +kernel
theorem dX9_isInTheWay_257 : decode cX9_isInTheWay 257 = .ok (.iload_n 3, 1) := by decide +kernel
theorem dX9_isInTheWay_258 : decode cX9_isInTheWay 258 = .ok (.iload 8, 2) := by decide +kernel
theorem dX9_isInTheWay_260 : decode cX9_isInTheWay 260 = .ok (.iload 9, 2) := by decide +kernel
theorem dX9_isInTheWay_262 : decode cX9_isInTheWay 262 = .ok (.invokestatic 101, 3) := by decide +kernel
theorem dX9_isInTheWay_265 : decode cX9_isInTheWay 265 = .ok (.goto 14, 3) := by decide +kernel
theorem dX9_isInTheWay_268 : decode cX9_isInTheWay 268 = .ok (.aload_n 0, 1) := by decide +kernel
theorem dX9_isInTheWay_269 : decode cX9_isInTheWay 269 = .ok (.iload_n 1, 1) := by decide +kernel
theorem dX9_isInTheWay_270 : decode cX9_isInTheWay 270 = .ok (.iload_n 2, 1) := by decide +kernel
theorem dX9_isInTheWay_271 : decode cX9_isInTheWay 271 = .ok (.iload_n 3, 1) := by decide +kernel
theorem dX9_isInTheWay_272 : decode cX9_isInTheWay 272 = .ok (.iload 4, 2) := by decide +kernel
theorem dX9_isInTheWay_274 : decode cX9_isInTheWay 274 = .ok (.iload 5, 2) := by decide +kernel
theorem dX9_isInTheWay_276 : decode cX9_isInTheWay 276 = .ok (.invokevirtual 104, 3) := by decide +kernel
theorem dX9_isInTheWay_279 : decode cX9_isInTheWay 279 = .ok (.ireturn, 1) := by decide +kernel
theorem dX9_areSeeing_0 : decode cX9_areSeeing 0 = .ok (.iload_n 1, 1) := by decide +kernel
theorem dX9_areSeeing_1 : decode cX9_areSeeing 1 = .ok (.iload_n 3, 1) := by decide +kernel
theorem dX9_areSeeing_2 : decode cX9_areSeeing 2 = .ok (.if_icmp .ne 11, 3) := by decide +kernel
theorem dX9_areSeeing_5 : decode cX9_areSeeing 5 = .ok (.iload_n 2, 1) := by decide +kernel
theorem dX9_areSeeing_6 : decode cX9_areSeeing 6 = .ok (.iload 4, 2) := by decide +kernel
theorem dX9_areSeeing_8 : decode cX9_areSeeing 8 = .ok (.if_icmp .ne 5, 3) := by decide +kernel
theorem dX9_areSeeing_11 : decode cX9_areSeeing 11 = .ok (.iconst 0, 1) := by decide +kernel
theorem dX9_areSeeing_12 : decode cX9_areSeeing 12 = .ok (.ireturn, 1) := by decide +kernel
theorem dX9_areSeeing_13 : decode cX9_areSeeing 13 = .ok (.aload_n 0, 1) := by decide +kernel
theorem dX9_areSeeing_14 : decode cX9_areSeeing 14 = .ok (.invokevirtual 110, 3) := by decide +kernel
theorem dX9_areSeeing_17 : decode cX9_areSeeing 17 = .ok (.iconst 1, 1) := by decide +kernel
theorem dX9_areSeeing_18 : decode cX9_areSeeing 18 = .ok (.istore 5, 2) := by decide +kernel
theorem dX9_areSeeing_20 : decode cX9_areSeeing 20 = .ok (.iconst 0, 1) := by decide +kernel
theorem dX9_areSeeing_21 : decode cX9_areSeeing 21 = .ok (.istore 6, 2) := by decide +kernel
theorem dX9_areSeeing_23 : decode cX9_areSeeing 23 = .ok (.iload 6, 2) := by decide +kernel
theorem dX9_areSeeing_25 : decode cX9_areSeeing 25 = .ok (.aload_n 0, 1) := by decide +kernel
theorem dX9_areSeeing_26 : decode cX9_areSeeing 26 = .ok (.getfield 72, 3) := by decide +kernel
theorem dX9_areSeeing_29 : decode cX9_areSeeing 29 = .ok (.if_icmp .ge 56, 3) := by decide +kernel
theorem dX9_areSeeing_32 : decode cX9_areSeeing 32 = .ok (.iload 5, 2) := by decide +kernel
theorem dX9_areSeeing_34 : decode cX9_areSeeing 34 = .ok (.ifCond .eq 42, 3) := by decide +kernel
theorem dX9_areSeeing_37 : decode cX9_areSeeing 37 = .ok (.aload_n 0, 1) := by decide +kernel
theorem dX9_areSeeing_38 : decode cX9_areSeeing 38 = .ok (.iload 6, 2) := by decide +kernel
theorem dX9_areSeeing_40 : decode cX9_areSeeing 40 = .ok (.aload_n 0, 1) := by decide +kernel
theorem dX9_areSeeing_41 : decode cX9_areSeeing 41 = .ok (.iload_n 1, 1) := by decide +kernel
theorem dX9_areSeeing_42 : decode cX9_areSeeing 42 = .ok (.iload_n 2, 1) := by decide +kernel
theorem dX9_areSeeing_43 : decode cX9_areSeeing 43 = .ok (.invokevirtual 75, 3) := by decide +kernel
theorem dX9_areSeeing_46 : decode cX9_areSeeing 46 = .ok (.aload_n 0, 1) := by decide +kernel
theorem dX9_areSeeing_47 : decode cX9_areSeeing 47 = .ok (.iload_n 1, 1) := by decide +kernel
theorem dX9_areSeeing_48 : decode cX9_areSeeing 48 = .ok (.iload_n 2, 1) := by decide +kernel
theorem dX9_areSeeing_49 : decode cX9_areSeeing 49 = .ok (.invokevirtual 79, 3) := by decide +kernel
theorem dX9_areSeeing_52 : decode cX9_areSeeing 52 = .ok (.aload_n 0, 1) := by decide +kernel
theorem dX9_areSeeing_53 : decode cX9_areSeeing 53 = .ok (.iload_n 3, 1) := by decide +kernel
theorem dX9_areSeeing_54 : decode cX9_areSeeing 54 = .ok (.iload 4, 2) := by decide +kernel
theorem dX9_areSeeing_56 : decode cX9_areSeeing 56 = .ok (.invokevirtual 75, 3) := by decide +kernel
theorem dX9_areSeeing_59 : decode cX9_areSeeing 59 = .ok (.aload_n 0, 1) := by decide +kernel
theorem dX9_areSeeing_60 : decode cX9_areSeeing 60 = .ok (.iload_n 3, 1) := by decide +kernel
theorem dX9_areSeeing_61 : decode cX9_areSeeing 61 = .ok (.iload 4, 2) := by decide +kernel
theorem dX9_areSeeing_63 : decode cX9_areSeeing 63 = .ok (.invokevirtual 79, 3) := by decide +kernel
theorem dX9_areSeeing_66 : decode cX9_areSeeing 66 = .ok (.invokevirtual 161, 3) := by decide +kernel
theorem dX9_areSeeing_69 : decode cX9_areSeeing 69 = .ok (.ifCond .ne 7, 3) := by decide +kernel
theorem dX9_areSeeing_72 : decode cX9_areSeeing 72 = .ok (.iconst 1, 1) := by decide +kernel
theorem dX9_areSeeing_73 : decode cX9_areSeeing 73 = .ok (.goto 4, 3) := by decide +kernel
theorem dX9_areSeeing_76 : decode cX9_areSeeing 76 = .ok (.iconst 0, 1) := by decide +kernel
theorem dX9_areSeeing_77 : decode cX9_areSeeing 77 = .ok (.istore 5, 2) := by decide +kernel
theorem dX9_areSeeing_79 : decode cX9_areSeeing 79 = .ok (.iinc 6 1, 3) := by decide +kernel
theorem dX9_areSeeing_82 : decode cX9_areSeeing 82 = .ok (.goto (-59), 3) := by decide +kernel
theorem dX9_areSeeing_85 : decode cX9_areSeeing 85 = .ok (.iload 5, 2) := by decide +kernel
theorem dX9_areSeeing_87 : decode cX9_areSeeing 87 = .ok (.ifCond .eq 43, 3) := by decide +kernel
theorem dX9_areSeeing_90 : decode cX9_areSeeing 90 = .ok (.aload_n 0, 1) := by decide +kernel
theorem dX9_areSeeing_91 : decode cX9_areSeeing 91 = .ok (.aload_n 0, 1) := by decide +kernel
theorem dX9_areSeeing_92 : decode cX9_areSeeing 92 = .ok (.iload_n 1, 1) := by decide +kernel
theorem dX9_areSeeing_93 : decode cX9_areSeeing 93 = .ok (.iload_n 2, 1) := by decide +kernel
theorem dX9_areSeeing_94 : decode cX9_areSeeing 94 = .ok (.invokevirtual 75, 3) := by decide +kernel
theorem dX9_areSeeing_97 : decode cX9_areSeeing 97 = .ok (.aload_n 0, 1) := by decide +kernel
theorem dX9_areSeeing_98 : decode cX9_areSeeing 98 = .ok (.iload_n 3, 1) := by decide +kernel
theorem dX9_areSeeing_99 : decode cX9_areSeeing 99 = .ok (.iload 4, 2) := by decide +kernel
theorem dX9_areSeeing_101 : decode cX9_areSeeing 101 = .ok (.invokevirtual 75, 3) := by decide +kernel
theorem dX9_areSeeing_104 : decode cX9_areSeeing 104 = .ok (.iadd, 1) := by decide +kernel
theorem dX9_areSeeing_105 : decode cX9_areSeeing 105 = .ok (.aload_n 0, 1) := by decide +kernel
theorem dX9_areSeeing_106 : decode cX9_areSeeing 106 = .ok (.iload_n 1, 1) := by decide +kernel
theorem dX9_areSeeing_107 : decode cX9_areSeeing 107 = .ok (.iload_n 2, 1) := by decide +kernel
theorem dX9_areSeeing_108 : decode cX9_areSeeing 108 = .ok (.invokevirtual 79, 3) := by decide +kernel
theorem dX9_areSeeing_111 : decode cX9_areSeeing 111 = .ok (.aload_n 0, 1) := by decide +kernel
theorem dX9_areSeeing_112 : decode cX9_areSeeing 112 = .ok (.iload_n 3, 1) := by decide +kernel
theorem dX9_areSeeing_113 : decode cX9_areSeeing 113 = .ok (.iload 4, 2) := by decide +kernel
theorem dX9_areSeeing_115 : decode cX9_areSeeing 115 = .ok (.invokevirtual 79, 3) := by decide +kernel
theorem dX9_areSeeing_118 : decode cX9_areSeeing 118 = .ok (.iadd, 1) := by decide +kernel
theorem dX9_areSeeing_119 : decode cX9_areSeeing 119 = .ok (.invokevirtual 158, 3) := by decide +kernel
theorem dX9_areSeeing_122 : decode cX9_areSeeing 122 = .ok (.iconst 2, 1) := by decide +kernel
theorem dX9_areSeeing_123 : decode cX9_areSeeing 123 = .ok (.if_icmp .ne 7, 3) := by decide +kernel
theorem dX9_areSeeing_126 : decode cX9_areSeeing 126 = .ok (.iconst 1, 1) := by decide +kernel
theorem dX9_areSeeing_127 : decode cX9_areSeeing 127 = .ok (.goto 4, 3) := by decide +kernel
theorem dX9_areSeeing_130 : decode cX9_areSeeing 130 = .ok (.iconst 0, 1) := by decide +kernel
theorem dX9_areSeeing_131 : decode cX9_areSeeing 131 = .ok (.ireturn, 1) := by decide +kernel
theorem dX9_seenBy_0 : decode cX9_seenBy 0 = .ok (.iconst 0, 1) := by decide +kernel
theorem dX9_seenBy_1 : decode cX9_seenBy 1 = .ok (.istore_n 3, 1) := by decide +kernel
theorem dX9_seenBy_2 : decode cX9_seenBy 2 = .ok (.iconst 0, 1) := by decide +kernel
theorem dX9_seenBy_3 : decode cX9_seenBy 3 = .ok (.istore 4, 2) := by decide +kernel
theorem dX9_seenBy_5 : decode cX9_seenBy 5 = .ok (.iload 4, 2) := by decide +kernel
theorem dX9_seenBy_7 : decode cX9_seenBy 7 = .ok (.aload_n 0, 1) := by decide +kernel
theorem dX9_seenBy_8 : decode cX9_seenBy 8 = .ok (.getfield 7, 3) := by decide +kernel
theorem dX9_seenBy_11 : decode cX9_seenBy 11 = .ok (.iconst 0, 1) := by decide +kernel
theorem dX9_seenBy_12 : decode cX9_seenBy 12 = .ok (.iaload, 1) := by decide +kernel
theorem dX9_seenBy_13 : decode cX9_seenBy 13 = .ok (.if_icmp .ge 50, 3) := by decide +kernel
theorem dX9_seenBy_16 : decode cX9_seenBy 16 = .ok (.iconst 0, 1) := by decide +kernel
theorem dX9_seenBy_17 : decode cX9_seenBy 17 = .ok (.istore 5, 2) := by decide +kernel
theorem dX9_seenBy_19 : decode cX9_seenBy 19 = .ok (.iload 5, 2) := by decide +kernel
theorem dX9_seenBy_21 : decode cX9_seenBy 21 = .ok (.aload_n 0, 1) := by decide +kernel
theorem dX9_seenBy_22 : decode cX9_seenBy 22 = .ok (.iload 4, 2) := by decide +kernel
theorem dX9_seenBy_24 : decode cX9_seenBy 24 = .ok (.invokevirtual 68, 3) := by decide +kernel
theorem dX9_seenBy_27 : decode cX9_seenBy 27 = .ok (.if_icmp .ge 30, 3) := by decide +kernel
theorem dX9_seenBy_30 : decode cX9_seenBy 30 = .ok (.iload_n 3, 1) := by decide +kernel
theorem dX9_seenBy_31 : decode cX9_seenBy 31 = .ok (.aload_n 0, 1) := by decide +kernel
theorem dX9_seenBy_32 : decode cX9_seenBy 32 = .ok (.iload_n 1, 1) := by decide +kernel
theorem dX9_seenBy_33 : decode cX9_seenBy 33 = .ok (.iload_n 2, 1) := by decide +kernel
theorem dX9_seenBy_34 : decode cX9_seenBy 34 = .ok (.iload 4, 2) := by decide +kernel
theorem dX9_seenBy_36 : decode cX9_seenBy 36 = .ok (.iload 5, 2) := by decide +kernel
theorem dX9_seenBy_38 : decode cX9_seenBy 38 = .ok (.invokevirtual 164, 3) := by decide +kernel
theorem dX9_seenBy_41 : decode cX9_seenBy 41 = .ok (.ifCond .eq 7, 3) := by decide +kernel
theorem dX9_seenBy_44 : decode cX9_seenBy 44 = .ok (.iconst 1, 1) := by decide +kernel
theorem dX9_seenBy_45 : decode cX9_seenBy 45 = .ok (.goto 4, 3) := by decide +kernel
theorem dX9_seenBy_48 : decode cX9_seenBy 48 = .ok (.iconst 0, 1) := by decide +kernel
theorem dX9_seenBy_49 : decode cX9_seenBy 49 = .ok (.iadd, 1) := by decide +kernel
theorem dX9_seenBy_50 : decode cX9_seenBy 50 = .ok (.istore_n 3, 1) := by decide +kernel
theorem dX9_seenBy_51 : decode cX9_seenBy 51 = .ok (.iinc 5 1, 3) := by decide +kernel
theorem dX9_seenBy_54 : decode cX9_seenBy 54 = .ok (.goto (-35), 3) := by decide +kernel
theorem dX9_seenBy_57 : decode cX9_seenBy 57 = .ok (.iinc 4 1, 3) := by decide +kernel
theorem dX9_seenBy_60 : decode cX9_seenBy 60 = .ok (.goto (-55), 3) := by decide +kernel
theorem dX9_seenBy_63 : decode cX9_seenBy 63 = .ok (.iload_n 3, 1) := by decide +kernel
theorem dX9_seenBy_64 : decode cX9_seenBy 64 = .ok (.ireturn, 1) := by decide +kernel
theorem dX9_isEar_0 : decode cX9_isEar 0 = .ok (.aload_n 0, 1) := by decide +kernel
theorem dX9_isEar_1 : decode cX9_isEar 1 = .ok (.iconst 0, 1) := by decide +kernel
theorem dX9_isEar_2 : decode cX9_isEar 2 = .ok (.invokevirtual 68, 3) := by decide +kernel
theorem dX9_isEar_5 : decode cX9_isEar 5 = .ok (.iconst 3, 1) := by decide +kernel
theorem dX9_isEar_6 : decode cX9_isEar 6 = .ok (.if_icmp .le 38, 3) := by decide +kernel
theorem dX9_isEar_9 : decode cX9_isEar 9 = .ok (.aload_n 0, 1) := by decide +kernel
theorem dX9_isEar_10 : decode cX9_isEar 10 = .ok (.iconst 0, 1) := by decide +kernel
theorem dX9_isEar_11 : decode cX9_isEar 11 = .ok (.iload_n 1, 1) := by decide +kernel
theorem dX9_isEar_12 : decode cX9_isEar 12 = .ok (.invokevirtual 168, 3) := by decide +kernel
theorem dX9_isEar_15 : decode cX9_isEar 15 = .ok (.iconst 1, 1) := by decide +kernel
theorem dX9_isEar_16 : decode cX9_isEar 16 = .ok (.if_icmp .ne 28, 3) := by decide +kernel
theorem dX9_isEar_19 : decode cX9_isEar 19 = .ok (.aload_n 0, 1) := by decide +kernel
theorem dX9_isEar_20 : decode cX9_isEar 20 = .ok (.iconst 0, 1) := by decide +kernel
theorem dX9_isEar_21 : decode cX9_isEar 21 = .ok (.aload_n 0, 1) := by decide +kernel
theorem dX9_isEar_22 : decode cX9_isEar 22 = .ok (.iconst 0, 1) := by decide +kernel
theorem dX9_isEar_23 : decode cX9_isEar 23 = .ok (.iload_n 1, 1) := by decide +kernel
theorem dX9_isEar_24 : decode cX9_isEar 24 = .ok (.invokevirtual 152, 3) := by decide +kernel
theorem dX9_isEar_27 : decode cX9_isEar 27 = .ok (.iconst 0, 1) := by decide +kernel
theorem dX9_isEar_28 : decode cX9_isEar 28 = .ok (.aload_n 0, 1) := by decide +kernel
theorem dX9_isEar_29 : decode cX9_isEar 29 = .ok (.iconst 0, 1) := by decide +kernel
theorem dX9_isEar_30 : decode cX9_isEar 30 = .ok (.iload_n 1, 1) := by decide +kernel
theorem dX9_isEar_31 : decode cX9_isEar 31 = .ok (.invokevirtual 82, 3) := by decide +kernel
theorem dX9_isEar_34 : decode cX9_isEar 34 = .ok (.invokevirtual 164, 3) := by decide +kernel
theorem dX9_isEar_37 : decode cX9_isEar 37 = .ok (.ifCond .eq 7, 3) := by decide +kernel
theorem dX9_isEar_40 : decode cX9_isEar 40 = .ok (.iconst 1, 1) := by decide +kernel
theorem dX9_isEar_41 : decode cX9_isEar 41 = .ok (.goto 4, 3) := by decide +kernel
theorem dX9_isEar_44 : decode cX9_isEar 44 = .ok (.iconst 0, 1) := by decide +kernel
theorem dX9_isEar_45 : decode cX9_isEar 45 = .ok (.ireturn, 1) := by decide +kernel
theorem dX9_pointsIn_0 : decode cX9_pointsIn 0 = .ok (.iconst 0, 1) := by decide +kernel
theorem dX9_pointsIn_1 : decode cX9_pointsIn 1 = .ok (.istore_n 3, 1) := by decide +kernel
theorem dX9_pointsIn_2 : decode cX9_pointsIn 2 = .ok (.iconst 0, 1) := by decide +kernel
theorem dX9_pointsIn_3 : decode cX9_pointsIn 3 = .ok (.istore 4, 2) := by decide +kernel
theorem dX9_pointsIn_5 : decode cX9_pointsIn 5 = .ok (.iload 4, 2) := by decide +kernel
theorem dX9_pointsIn_7 : decode cX9_pointsIn 7 = .ok (.bipush 15, 2) := by decide +kernel
theorem dX9_pointsIn_9 : decode cX9_pointsIn 9 = .ok (.if_icmp .gt 42, 3) := by decide +kernel
theorem dX9_pointsIn_12 : decode cX9_pointsIn 12 = .ok (.aload_n 0, 1) := by decide +kernel
theorem dX9_pointsIn_13 : decode cX9_pointsIn 13 = .ok (.iload 4, 2) := by decide +kernel
theorem dX9_pointsIn_15 : decode cX9_pointsIn 15 = .ok (.iload_n 1, 1) := by decide +kernel
theorem dX9_pointsIn_16 : decode cX9_pointsIn 16 = .ok (.invokevirtual 171, 3) := by decide +kernel
theorem dX9_pointsIn_19 : decode cX9_pointsIn 19 = .ok (.istore 5, 2) := by decide +kernel
theorem dX9_pointsIn_21 : decode cX9_pointsIn 21 = .ok (.iload_n 3, 1) := by decide +kernel
theorem dX9_pointsIn_22 : decode cX9_pointsIn 22 = .ok (.iload 5, 2) := by decide +kernel
theorem dX9_pointsIn_24 : decode cX9_pointsIn 24 = .ok (.iconst 2, 1) := by decide +kernel
theorem dX9_pointsIn_25 : decode cX9_pointsIn 25 = .ok (.if_icmp .eq 13, 3) := by decide +kernel
theorem dX9_pointsIn_28 : decode cX9_pointsIn 28 = .ok (.iload_n 2, 1) := by decide +kernel
theorem dX9_pointsIn_29 : decode cX9_pointsIn 29 = .ok (.ifCond .eq 13, 3) := by decide +kernel
theorem dX9_pointsIn_32 : decode cX9_pointsIn 32 = .ok (.iload 5, 2) := by decide +kernel
theorem dX9_pointsIn_34 : decode cX9_pointsIn 34 = .ok (.iconst 1, 1) := by decide +kernel
theorem dX9_pointsIn_35 : decode cX9_pointsIn 35 = .ok (.if_icmp .ne 7, 3) := by decide +kernel
theorem dX9_pointsIn_38 : decode cX9_pointsIn 38 = .ok (.iconst 1, 1) := by decide +kernel
theorem dX9_pointsIn_39 : decode cX9_pointsIn 39 = .ok (.goto 4, 3) := by decide +kernel
theorem dX9_pointsIn_42 : decode cX9_pointsIn 42 = .ok (.iconst 0, 1) := by decide +kernel
theorem dX9_pointsIn_43 : decode cX9_pointsIn 43 = .ok (.iadd, 1) := by decide +kernel
theorem dX9_pointsIn_44 : decode cX9_pointsIn 44 = .ok (.istore_n 3, 1) := by decide +kernel
theorem dX9_pointsIn_45 : decode cX9_pointsIn 45 = .ok (.iinc 4 1, 3) := by decide +kernel
theorem dX9_pointsIn_48 : decode cX9_pointsIn 48 = .ok (.goto (-43), 3) := by decide +kernel
theorem dX9_pointsIn_51 : decode cX9_pointsIn 51 = .ok (.iload_n 3, 1) := by decide +kernel
theorem dX9_pointsIn_52 : decode cX9_pointsIn 52 = .ok (.ireturn, 1) := by decide +kernel
theorem dX9_inside_0 : decode cX9_inside 0 = .ok (.iconst 0, 1) := by decide +kernel
theorem dX9_inside_1 : decode cX9_inside 1 = .ok (.istore_n 1, 1) := by decide +kernel
theorem dX9_inside_2 : decode cX9_inside 2 = .ok (.iconst 0, 1) := by decide +kernel
theorem dX9_inside_3 : decode cX9_inside 3 = .ok (.istore_n 2, 1) := by decide +kernel
theorem dX9_inside_4 : decode cX9_inside 4 = .ok (.iload_n 2, 1) := by decide +kernel
theorem dX9_inside_5 : decode cX9_inside 5 = .ok (.bipush 15, 2) := by decide +kernel
theorem dX9_inside_7 : decode cX9_inside 7 = .ok (.if_icmp .gt 18, 3) := by decide +kernel
theorem dX9_inside_10 : decode cX9_inside 10 = .ok (.iload_n 1, 1) := by decide +kernel
theorem dX9_inside_11 : decode cX9_inside 11 = .ok (.aload_n 0, 1) := by decide +kernel
theorem dX9_inside_12 : decode cX9_inside 12 = .ok (.iload_n 2, 1) := by decide +kernel
theorem dX9_inside_13 : decode cX9_inside 13 = .ok (.iconst 0, 1) := by decide +kernel
theorem dX9_inside_14 : decode cX9_inside 14 = .ok (.invokevirtual 174, 3) := by decide +kernel
theorem dX9_inside_17 : decode cX9_inside 17 = .ok (.iadd, 1) := by decide +kernel
theorem dX9_inside_18 : decode cX9_inside 18 = .ok (.istore_n 1, 1) := by decide +kernel
theorem dX9_inside_19 : decode cX9_inside 19 = .ok (.iinc 2 1, 3) := by decide +kernel
theorem dX9_inside_22 : decode cX9_inside 22 = .ok (.goto (-18), 3) := by decide +kernel
theorem dX9_inside_25 : decode cX9_inside 25 = .ok (.iload_n 1, 1) := by decide +kernel
theorem dX9_inside_26 : decode cX9_inside 26 = .ok (.ireturn, 1) := by decide +kernel
theorem dX9_hull_0 : decode cX9_hull 0 = .ok (.iconst 0, 1) := by decide +kernel
theorem dX9_hull_1 : decode cX9_hull 1 = .ok (.istore_n 1, 1) := by decide +kernel
theorem dX9_hull_2 : decode cX9_hull 2 = .ok (.iconst 1, 1) := by decide +kernel
theorem dX9_hull_3 : decode cX9_hull 3 = .ok (.istore_n 2, 1) := by decide +kernel
theorem dX9_hull_4 : decode cX9_hull 4 = .ok (.iload_n 2, 1) := by decide +kernel
theorem dX9_hull_5 : decode cX9_hull 5 = .ok (.aload_n 0, 1) := by decide +kernel
theorem dX9_hull_6 : decode cX9_hull 6 = .ok (.iconst 0, 1) := by decide +kernel
theorem dX9_hull_7 : decode cX9_hull 7 = .ok (.invokevirtual 68, 3) := by decide +kernel
theorem dX9_hull_10 : decode cX9_hull 10 = .ok (.if_icmp .ge 70, 3) := by decide +kernel
theorem dX9_hull_13 : decode cX9_hull 13 = .ok (.aload_n 0, 1) := by decide +kernel
theorem dX9_hull_14 : decode cX9_hull 14 = .ok (.iconst 0, 1) := by decide +kernel
theorem dX9_hull_15 : decode cX9_hull 15 = .ok (.iload_n 2, 1) := by decide +kernel
theorem dX9_hull_16 : decode cX9_hull 16 = .ok (.invokevirtual 79, 3) := by decide +kernel
theorem dX9_hull_19 : decode cX9_hull 19 = .ok (.aload_n 0, 1) := by decide +kernel
theorem dX9_hull_20 : decode cX9_hull 20 = .ok (.iconst 0, 1) := by decide +kernel
theorem dX9_hull_21 : decode cX9_hull 21 = .ok (.iload_n 1, 1) := by decide +kernel
theorem dX9_hull_22 : decode cX9_hull 22 = .ok (.invokevirtual 79, 3) := by decide +kernel
theorem dX9_hull_25 : decode cX9_hull 25 = .ok (.if_icmp .lt 33, 3) := by decide +kernel
theorem dX9_hull_28 : decode cX9_hull 28 = .ok (.aload_n 0, 1) := by decide +kernel
theorem dX9_hull_29 : decode cX9_hull 29 = .ok (.iconst 0, 1) := by decide +kernel
theorem dX9_hull_30 : decode cX9_hull 30 = .ok (.iload_n 2, 1) := by decide +kernel
theorem dX9_hull_31 : decode cX9_hull 31 = .ok (.invokevirtual 79, 3) := by decide +kernel
theorem dX9_hull_34 : decode cX9_hull 34 = .ok (.aload_n 0, 1) := by decide +kernel
theorem dX9_hull_35 : decode cX9_hull 35 = .ok (.iconst 0, 1) := by decide +kernel
theorem dX9_hull_36 : decode cX9_hull 36 = .ok (.iload_n 1, 1) := by decide +kernel
theorem dX9_hull_37 : decode cX9_hull 37 = .ok (.invokevirtual 79, 3) := by decide +kernel
theorem dX9_hull_40 : decode cX9_hull 40 = .ok (.if_icmp .ne 22, 3) := by decide +kernel
theorem dX9_hull_43 : decode cX9_hull 43 = .ok (.aload_n 0, 1) := by decide +kernel
theorem dX9_hull_44 : decode cX9_hull 44 = .ok (.iconst 0, 1) := by decide +kernel
theorem dX9_hull_45 : decode cX9_hull 45 = .ok (.iload_n 2, 1) := by decide +kernel
theorem dX9_hull_46 : decode cX9_hull 46 = .ok (.invokevirtual 75, 3) := by decide +kernel
theorem dX9_hull_49 : decode cX9_hull 49 = .ok (.aload_n 0, 1) := by decide +kernel
theorem dX9_hull_50 : decode cX9_hull 50 = .ok (.iconst 0, 1) := by decide +kernel
theorem dX9_hull_51 : decode cX9_hull 51 = .ok (.iload_n 1, 1) := by decide +kernel
theorem dX9_hull_52 : decode cX9_hull 52 = .ok (.invokevirtual 75, 3) := by decide +kernel
theorem dX9_hull_55 : decode cX9_hull 55 = .ok (.if_icmp .ge 7, 3) := by decide +kernel
theorem dX9_hull_58 : decode cX9_hull 58 = .ok (.iconst 1, 1) := by decide +kernel
theorem dX9_hull_59 : decode cX9_hull 59 = .ok (.goto 4, 3) := by decide +kernel
theorem dX9_hull_62 : decode cX9_hull 62 = .ok (.iconst 0, 1) := by decide +kernel
theorem dX9_hull_63 : decode cX9_hull 63 = .ok (.istore_n 3, 1) := by decide +kernel
theorem dX9_hull_64 : decode cX9_hull 64 = .ok (.iload_n 3, 1) := by decide +kernel
theorem dX9_hull_65 : decode cX9_hull 65 = .ok (.ifCond .eq 7, 3) := by decide +kernel
theorem dX9_hull_68 : decode cX9_hull 68 = .ok (.iload_n 2, 1) := by decide +kernel
theorem dX9_hull_69 : decode cX9_hull 69 = .ok (.goto 4, 3) := by decide +kernel
theorem dX9_hull_72 : decode cX9_hull 72 = .ok (.iload_n 1, 1) := by decide +kernel
theorem dX9_hull_73 : decode cX9_hull 73 = .ok (.istore_n 1, 1) := by decide +kernel
theorem dX9_hull_74 : decode cX9_hull 74 = .ok (.iinc 2 1, 3) := by decide +kernel
theorem dX9_hull_77 : decode cX9_hull 77 = .ok (.goto (-73), 3) := by decide +kernel
theorem dX9_hull_80 : decode cX9_hull 80 = .ok (.iconst 0, 1) := by decide +kernel
theorem dX9_hull_81 : decode cX9_hull 81 = .ok (.istore_n 2, 1) := by decide +kernel
theorem dX9_hull_82 : decode cX9_hull 82 = .ok (.iload_n 1, 1) := by decide +kernel
theorem dX9_hull_83 : decode cX9_hull 83 = .ok (.istore_n 3, 1) := by decide +kernel
theorem dX9_hull_84 : decode cX9_hull 84 = .ok (.iconst 1, 1) := by decide +kernel
theorem dX9_hull_85 : decode cX9_hull 85 = .ok (.istore 4, 2) := by decide +kernel
theorem dX9_hull_87 : decode cX9_hull 87 = .ok (.iload 4, 2) := by decide +kernel
theorem dX9_hull_89 : decode cX9_hull 89 = .ok (.ifCond .eq 166, 3) := by decide +kernel
theorem dX9_hull_92 : decode cX9_hull 92 = .ok (.aload_n 0, 1) := by decide +kernel
theorem dX9_hull_93 : decode cX9_hull 93 = .ok (.iconst 0, 1) := by decide +kernel
theorem dX9_hull_94 : decode cX9_hull 94 = .ok (.iload_n 3, 1) := by decide +kernel
theorem dX9_hull_95 : decode cX9_hull 95 = .ok (.invokevirtual 82, 3) := by decide +kernel
theorem dX9_hull_98 : decode cX9_hull 98 = .ok (.istore 5, 2) := by decide +kernel
theorem dX9_hull_100 : decode cX9_hull 100 = .ok (.iconst 0, 1) := by decide +kernel
theorem dX9_hull_101 : decode cX9_hull 101 = .ok (.istore 6, 2) := by decide +kernel
theorem dX9_hull_103 : decode cX9_hull 103 = .ok (.iload 6, 2) := by decide +kernel
theorem dX9_hull_105 : decode cX9_hull 105 = .ok (.aload_n 0, 1) := by decide +kernel
theorem dX9_hull_106 : decode cX9_hull 106 = .ok (.iconst 0, 1) := by decide +kernel
theorem dX9_hull_107 : decode cX9_hull 107 = .ok (.invokevirtual 68, 3) := by decide +kernel
theorem dX9_hull_110 : decode cX9_hull 110 = .ok (.if_icmp .ge 95, 3) := by decide +kernel
theorem dX9_hull_113 : decode cX9_hull 113 = .ok (.aload_n 0, 1) := by decide +kernel
theorem dX9_hull_114 : decode cX9_hull 114 = .ok (.iconst 0, 1) := by decide +kernel
theorem dX9_hull_115 : decode cX9_hull 115 = .ok (.iload_n 3, 1) := by decide +kernel
theorem dX9_hull_116 : decode cX9_hull 116 = .ok (.invokevirtual 75, 3) := by decide +kernel
theorem dX9_hull_119 : decode cX9_hull 119 = .ok (.aload_n 0, 1) := by decide +kernel
theorem dX9_hull_120 : decode cX9_hull 120 = .ok (.iconst 0, 1) := by decide +kernel
theorem dX9_hull_121 : decode cX9_hull 121 = .ok (.iload_n 3, 1) := by decide +kernel
theorem dX9_hull_122 : decode cX9_hull 122 = .ok (.invokevirtual 79, 3) := by decide +kernel
theorem dX9_hull_125 : decode cX9_hull 125 = .ok (.aload_n 0, 1) := by decide +kernel
theorem dX9_hull_126 : decode cX9_hull 126 = .ok (.iconst 0, 1) := by decide +kernel
theorem dX9_hull_127 : decode cX9_hull 127 = .ok (.iload 5, 2) := by decide +kernel
theorem dX9_hull_129 : decode cX9_hull 129 = .ok (.invokevirtual 75, 3) := by decide +kernel
theorem dX9_hull_132 : decode cX9_hull 132 = .ok (.aload_n 0, 1) := by decide +kernel
theorem dX9_hull_133 : decode cX9_hull 133 = .ok (.iconst 0, 1) := by decide +kernel
theorem dX9_hull_134 : decode cX9_hull 134 = .ok (.iload 5, 2) := by decide +kernel
theorem dX9_hull_136 : decode cX9_hull 136 = .ok (.invokevirtual 79, 3) := by decide +kernel
theorem dX9_hull_139 : decode cX9_hull 139 = .ok (.aload_n 0, 1) := by decide +kernel
theorem dX9_hull_140 : decode cX9_hull 140 = .ok (.iconst 0, 1) := by decide +kernel
theorem dX9_hull_141 : decode cX9_hull 141 = .ok (.iload 6, 2) := by decide +kernel
theorem dX9_hull_143 : decode cX9_hull 143 = .ok (.invokevirtual 75, 3) := by decide +kernel
theorem dX9_hull_146 : decode cX9_hull 146 = .ok (.aload_n 0, 1) := by decide +kernel
theorem dX9_hull_147 : decode cX9_hull 147 = .ok (.iconst 0, 1) := by decide +kernel
theorem dX9_hull_148 : decode cX9_hull 148 = .ok (.iload 6, 2) := by decide +kernel
theorem dX9_hull_150 : decode cX9_hull 150 = .ok (.invokevirtual 79, 3) := by decide +kernel
theorem dX9_hull_153 : decode cX9_hull 153 = .ok (.invokestatic 85, 3) := by decide +kernel
theorem dX9_hull_156 : decode cX9_hull 156 = .ok (.istore 7, 2) := by decide +kernel
theorem dX9_hull_158 : decode cX9_hull 158 = .ok (.aload_n 0, 1) := by decide +kernel
theorem dX9_hull_159 : decode cX9_hull 159 = .ok (.iload_n 3, 1) := by decide +kernel
theorem dX9_hull_160 : decode cX9_hull 160 = .ok (.iload 6, 2) := by decide +kernel
theorem dX9_hull_162 : decode cX9_hull 162 = .ok (.invokevirtual 178, 3) := by decide +kernel
theorem dX9_hull_165 : decode cX9_hull 165 = .ok (.aload_n 0, 1) := by decide +kernel
theorem dX9_hull_166 : decode cX9_hull 166 = .ok (.iload_n 3, 1) := by decide +kernel
theorem dX9_hull_167 : decode cX9_hull 167 = .ok (.iload 5, 2) := by decide +kernel
theorem dX9_hull_169 : decode cX9_hull 169 = .ok (.invokevirtual 178, 3) := by decide +kernel
theorem dX9_hull_172 : decode cX9_hull 172 = .ok (.isub, 1) := by decide +kernel
theorem dX9_hull_173 : decode cX9_hull 173 = .ok (.istore 8, 2) := by decide +kernel
theorem dX9_hull_175 : decode cX9_hull 175 = .ok (.iload 7, 2) := by decide +kernel
theorem dX9_hull_177 : decode cX9_hull 177 = .ok (.ifCond .lt 13, 3) := by decide +kernel
theorem dX9_hull_180 : decode cX9_hull 180 = .ok (.iload 7, 2) := by decide +kernel
theorem dX9_hull_182 : decode cX9_hull 182 = .ok (.ifCond .ne 13, 3) := by decide +kernel
theorem dX9_hull_185 : decode cX9_hull 185 = .ok (.iload 8, 2) := by decide +kernel
theorem dX9_hull_187 : decode cX9_hull 187 = .ok (.ifCond .le 8, 3) := by decide +kernel
theorem dX9_hull_190 : decode cX9_hull 190 = .ok (.iload 6, 2) := by decide +kernel
theorem dX9_hull_192 : decode cX9_hull 192 = .ok (.goto 5, 3) := by decide +kernel
theorem dX9_hull_195 : decode cX9_hull 195 = .ok (.iload 5, 2) := by decide +kernel
theorem dX9_hull_197 : decode cX9_hull 197 = .ok (.istore 5, 2) := by decide +kernel
theorem dX9_hull_199 : decode cX9_hull 199 = .ok (.iinc 6 1, 3) := by decide +kernel
theorem dX9_hull_202 : decode cX9_hull 202 = .ok (.goto (-99), 3) := by decide +kernel
theorem dX9_hull_205 : decode cX9_hull 205 = .ok (.iload_n 2, 1) := by decide +kernel
theorem dX9_hull_206 : decode cX9_hull 206 = .ok (.aload_n 0, 1) := by decide +kernel
theorem dX9_hull_207 : decode cX9_hull 207 = .ok (.iconst 0, 1) := by decide +kernel
theorem dX9_hull_208 : decode cX9_hull 208 = .ok (.iload_n 3, 1) := by decide +kernel
theorem dX9_hull_209 : decode cX9_hull 209 = .ok (.invokevirtual 75, 3) := by decide +kernel
theorem dX9_hull_212 : decode cX9_hull 212 = .ok (.aload_n 0, 1) := by decide +kernel
theorem dX9_hull_213 : decode cX9_hull 213 = .ok (.iconst 0, 1) := by decide +kernel
theorem dX9_hull_214 : decode cX9_hull 214 = .ok (.iload 5, 2) := by decide +kernel
theorem dX9_hull_216 : decode cX9_hull 216 = .ok (.invokevirtual 79, 3) := by decide +kernel
theorem dX9_hull_219 : decode cX9_hull 219 = .ok (.imul, 1) := by decide +kernel
theorem dX9_hull_220 : decode cX9_hull 220 = .ok (.aload_n 0, 1) := by decide +kernel
theorem dX9_hull_221 : decode cX9_hull 221 = .ok (.iconst 0, 1) := by decide +kernel
theorem dX9_hull_222 : decode cX9_hull 222 = .ok (.iload 5, 2) := by decide +kernel
theorem dX9_hull_224 : decode cX9_hull 224 = .ok (.invokevirtual 75, 3) := by decide +kernel
theorem dX9_hull_227 : decode cX9_hull 227 = .ok (.aload_n 0, 1) := by decide +kernel
theorem dX9_hull_228 : decode cX9_hull 228 = .ok (.iconst 0, 1) := by decide +kernel
theorem dX9_hull_229 : decode cX9_hull 229 = .ok (.iload_n 3, 1) := by decide +kernel
theorem dX9_hull_230 : decode cX9_hull 230 = .ok (.invokevirtual 79, 3) := by decide +kernel
theorem dX9_hull_233 : decode cX9_hull 233 = .ok (.imul, 1) := by decide +kernel
theorem dX9_hull_234 : decode cX9_hull 234 = .ok (.isub, 1) := by decide +kernel
theorem dX9_hull_235 : decode cX9_hull 235 = .ok (.iadd, 1) := by decide +kernel
theorem dX9_hull_236 : decode cX9_hull 236 = .ok (.istore_n 2, 1) := by decide +kernel
theorem dX9_hull_237 : decode cX9_hull 237 = .ok (.iload 5, 2) := by decide +kernel
theorem dX9_hull_239 : decode cX9_hull 239 = .ok (.istore_n 3, 1) := by decide +kernel
theorem dX9_hull_240 : decode cX9_hull 240 = .ok (.iload_n 3, 1) := by decide +kernel
theorem dX9_hull_241 : decode cX9_hull 241 = .ok (.iload_n 1, 1) := by decide +kernel
theorem dX9_hull_242 : decode cX9_hull 242 = .ok (.if_icmp .eq 7, 3) := by decide +kernel
theorem dX9_hull_245 : decode cX9_hull 245 = .ok (.iconst 1, 1) := by decide +kernel
theorem dX9_hull_246 : decode cX9_hull 246 = .ok (.goto 4, 3) := by decide +kernel
theorem dX9_hull_249 : decode cX9_hull 249 = .ok (.iconst 0, 1) := by decide +kernel
theorem dX9_hull_250 : decode cX9_hull 250 = .ok (.istore 4, 2) := by decide +kernel
theorem dX9_hull_252 : decode cX9_hull 252 = .ok (.goto (-165), 3) := by decide +kernel
theorem dX9_hull_255 : decode cX9_hull 255 = .ok (.iload_n 2, 1) := by decide +kernel
theorem dX9_hull_256 : decode cX9_hull 256 = .ok (.invokestatic 143, 3) := by decide +kernel
theorem dX9_hull_259 : decode cX9_hull 259 = .ok (.ireturn, 1) := by decide +kernel
theorem dX9_squareOf_0 : decode cX9_squareOf 0 = .ok (.aload_n 0, 1) := by decide +kernel
theorem dX9_squareOf_1 : decode cX9_squareOf 1 = .ok (.iconst 0, 1) := by decide +kernel
theorem dX9_squareOf_2 : decode cX9_squareOf 2 = .ok (.iload_n 1, 1) := by decide +kernel
theorem dX9_squareOf_3 : decode cX9_squareOf 3 = .ok (.invokevirtual 75, 3) := by decide +kernel
theorem dX9_squareOf_6 : decode cX9_squareOf 6 = .ok (.aload_n 0, 1) := by decide +kernel
theorem dX9_squareOf_7 : decode cX9_squareOf 7 = .ok (.iconst 0, 1) := by decide +kernel
theorem dX9_squareOf_8 : decode cX9_squareOf 8 = .ok (.iload_n 2, 1) := by decide +kernel
theorem dX9_squareOf_9 : decode cX9_squareOf 9 = .ok (.invokevirtual 75, 3) := by decide +kernel
theorem dX9_squareOf_12 : decode cX9_squareOf 12 = .ok (.isub, 1) := by decide +kernel
theorem dX9_squareOf_13 : decode cX9_squareOf 13 = .ok (.istore_n 3, 1) := by decide +kernel
theorem dX9_squareOf_14 : decode cX9_squareOf 14 = .ok (.aload_n 0, 1) := by decide +kernel
theorem dX9_squareOf_15 : decode cX9_squareOf 15 = .ok (.iconst 0, 1) := by decide +kernel
theorem dX9_squareOf_16 : decode cX9_squareOf 16 = .ok (.iload_n 1, 1) := by decide +kernel
theorem dX9_squareOf_17 : decode cX9_squareOf 17 = .ok (.invokevirtual 79, 3) := by decide +kernel
theorem dX9_squareOf_20 : decode cX9_squareOf 20 = .ok (.aload_n 0, 1) := by decide +kernel
theorem dX9_squareOf_21 : decode cX9_squareOf 21 = .ok (.iconst 0, 1) := by decide +kernel
theorem dX9_squareOf_22 : decode cX9_squareOf 22 = .ok (.iload_n 2, 1) := by decide +kernel
theorem dX9_squareOf_23 : decode cX9_squareOf 23 = .ok (.invokevirtual 79, 3) := by decide +kernel
theorem dX9_squareOf_26 : decode cX9_squareOf 26 = .ok (.isub, 1) := by decide +kernel
theorem dX9_squareOf_27 : decode cX9_squareOf 27 = .ok (.istore 4, 2) := by decide +kernel
theorem dX9_squareOf_29 : decode cX9_squareOf 29 = .ok (.iload_n 3, 1) := by decide +kernel
theorem dX9_squareOf_30 : decode cX9_squareOf 30 = .ok (.iload_n 3, 1) := by decide +kernel
theorem dX9_squareOf_31 : decode cX9_squareOf 31 = .ok (.imul, 1) := by decide +kernel
theorem dX9_squareOf_32 : decode cX9_squareOf 32 = .ok (.iload 4, 2) := by decide +kernel
theorem dX9_squareOf_34 : decode cX9_squareOf 34 = .ok (.iload 4, 2) := by decide +kernel
theorem dX9_squareOf_36 : decode cX9_squareOf 36 = .ok (.imul, 1) := by decide +kernel
theorem dX9_squareOf_37 : decode cX9_squareOf 37 = .ok (.iadd, 1) := by decide +kernel
theorem dX9_squareOf_38 : decode cX9_squareOf 38 = .ok (.ireturn, 1) := by decide +kernel
theorem dX9_kindsOf_0 : decode cX9_kindsOf 0 = .ok (.iconst 0, 1) := by decide +kernel
theorem dX9_kindsOf_1 : decode cX9_kindsOf 1 = .ok (.istore_n 2, 1) := by decide +kernel
theorem dX9_kindsOf_2 : decode cX9_kindsOf 2 = .ok (.iconst 0, 1) := by decide +kernel
theorem dX9_kindsOf_3 : decode cX9_kindsOf 3 = .ok (.istore_n 3, 1) := by decide +kernel
theorem dX9_kindsOf_4 : decode cX9_kindsOf 4 = .ok (.iload_n 3, 1) := by decide +kernel
theorem dX9_kindsOf_5 : decode cX9_kindsOf 5 = .ok (.aload_n 0, 1) := by decide +kernel
theorem dX9_kindsOf_6 : decode cX9_kindsOf 6 = .ok (.iconst 0, 1) := by decide +kernel
theorem dX9_kindsOf_7 : decode cX9_kindsOf 7 = .ok (.invokevirtual 68, 3) := by decide +kernel
theorem dX9_kindsOf_10 : decode cX9_kindsOf 10 = .ok (.if_icmp .ge 27, 3) := by decide +kernel
theorem dX9_kindsOf_13 : decode cX9_kindsOf 13 = .ok (.iload_n 2, 1) := by decide +kernel
theorem dX9_kindsOf_14 : decode cX9_kindsOf 14 = .ok (.aload_n 0, 1) := by decide +kernel
theorem dX9_kindsOf_15 : decode cX9_kindsOf 15 = .ok (.iconst 0, 1) := by decide +kernel
theorem dX9_kindsOf_16 : decode cX9_kindsOf 16 = .ok (.iload_n 3, 1) := by decide +kernel
theorem dX9_kindsOf_17 : decode cX9_kindsOf 17 = .ok (.invokevirtual 168, 3) := by decide +kernel
theorem dX9_kindsOf_20 : decode cX9_kindsOf 20 = .ok (.iload_n 1, 1) := by decide +kernel
theorem dX9_kindsOf_21 : decode cX9_kindsOf 21 = .ok (.if_icmp .ne 7, 3) := by decide +kernel
theorem dX9_kindsOf_24 : decode cX9_kindsOf 24 = .ok (.iconst 1, 1) := by decide +kernel
theorem dX9_kindsOf_25 : decode cX9_kindsOf 25 = .ok (.goto 4, 3) := by decide +kernel
theorem dX9_kindsOf_28 : decode cX9_kindsOf 28 = .ok (.iconst 0, 1) := by decide +kernel
theorem dX9_kindsOf_29 : decode cX9_kindsOf 29 = .ok (.iadd, 1) := by decide +kernel
theorem dX9_kindsOf_30 : decode cX9_kindsOf 30 = .ok (.istore_n 2, 1) := by decide +kernel
theorem dX9_kindsOf_31 : decode cX9_kindsOf 31 = .ok (.iinc 3 1, 3) := by decide +kernel
theorem dX9_kindsOf_34 : decode cX9_kindsOf 34 = .ok (.goto (-30), 3) := by decide +kernel
theorem dX9_kindsOf_37 : decode cX9_kindsOf 37 = .ok (.iload_n 2, 1) := by decide +kernel
theorem dX9_kindsOf_38 : decode cX9_kindsOf 38 = .ok (.ireturn, 1) := by decide +kernel
theorem dX9_about_0 : decode cX9_about 0 = .ok (.aload_n 0, 1) := by decide +kernel
theorem dX9_about_1 : decode cX9_about 1 = .ok (.iload_n 1, 1) := by decide +kernel
theorem dX9_about_2 : decode cX9_about 2 = .ok (.iconst 0, 1) := by decide +kernel
theorem dX9_about_3 : decode cX9_about 3 = .ok (.bipush 9, 2) := by decide +kernel
theorem dX9_about_5 : decode cX9_about 5 = .ok (.invokestatic 60, 3) := by decide +kernel
theorem dX9_about_8 : decode cX9_about 8 = .ok (.ifCond .eq 7, 3) := by decide +kernel
theorem dX9_about_11 : decode cX9_about 11 = .ok (.iconst 0, 1) := by decide +kernel
theorem dX9_about_12 : decode cX9_about 12 = .ok (.goto 4, 3) := by decide +kernel
theorem dX9_about_15 : decode cX9_about 15 = .ok (.iconst 1, 1) := by decide +kernel
theorem dX9_about_16 : decode cX9_about 16 = .ok (.putfield 56, 3) := by decide +kernel
theorem dX9_about_19 : decode cX9_about 19 = .ok (.iconst 0, 1) := by decide +kernel
theorem dX9_about_20 : decode cX9_about 20 = .ok (.istore_n 2, 1) := by decide +kernel
theorem dX9_about_21 : decode cX9_about 21 = .ok (.iload_n 1, 1) := by decide +kernel
theorem dX9_about_22 : decode cX9_about 22 = .ok (.tableswitch 207 0 9 #[54, 61, 66, 71, 99, 104, 110, 116, 151, 156], 54) := by decide +kernel
theorem dX9_about_76 : decode cX9_about 76 = .ok (.aload_n 0, 1) := by decide +kernel
theorem dX9_about_77 : decode cX9_about 77 = .ok (.getfield 7, 3) := by decide +kernel
theorem dX9_about_80 : decode cX9_about 80 = .ok (.iconst 0, 1) := by decide +kernel
theorem dX9_about_81 : decode cX9_about 81 = .ok (.iaload, 1) := by decide +kernel
theorem dX9_about_82 : decode cX9_about 82 = .ok (.ireturn, 1) := by decide +kernel
theorem dX9_about_83 : decode cX9_about 83 = .ok (.aload_n 0, 1) := by decide +kernel
theorem dX9_about_84 : decode cX9_about 84 = .ok (.invokevirtual 181, 3) := by decide +kernel
theorem dX9_about_87 : decode cX9_about 87 = .ok (.ireturn, 1) := by decide +kernel
theorem dX9_about_88 : decode cX9_about 88 = .ok (.aload_n 0, 1) := by decide +kernel
theorem dX9_about_89 : decode cX9_about 89 = .ok (.invokevirtual 184, 3) := by decide +kernel
theorem dX9_about_92 : decode cX9_about 92 = .ok (.ireturn, 1) := by decide +kernel
theorem dX9_about_93 : decode cX9_about 93 = .ok (.iconst 0, 1) := by decide +kernel
theorem dX9_about_94 : decode cX9_about 94 = .ok (.istore_n 3, 1) := by decide +kernel
theorem dX9_about_95 : decode cX9_about 95 = .ok (.iload_n 3, 1) := by decide +kernel
theorem dX9_about_96 : decode cX9_about 96 = .ok (.aload_n 0, 1) := by decide +kernel
theorem dX9_about_97 : decode cX9_about 97 = .ok (.getfield 7, 3) := by decide +kernel
theorem dX9_about_100 : decode cX9_about 100 = .ok (.iconst 0, 1) := by decide +kernel
theorem dX9_about_101 : decode cX9_about 101 = .ok (.iaload, 1) := by decide +kernel
theorem dX9_about_102 : decode cX9_about 102 = .ok (.if_icmp .ge 17, 3) := by decide +kernel
theorem dX9_about_105 : decode cX9_about 105 = .ok (.iload_n 2, 1) := by decide +kernel
theorem dX9_about_106 : decode cX9_about 106 = .ok (.aload_n 0, 1) := by decide +kernel
theorem dX9_about_107 : decode cX9_about 107 = .ok (.iload_n 3, 1) := by decide +kernel
theorem dX9_about_108 : decode cX9_about 108 = .ok (.invokevirtual 187, 3) := by decide +kernel
theorem dX9_about_111 : decode cX9_about 111 = .ok (.iadd, 1) := by decide +kernel
theorem dX9_about_112 : decode cX9_about 112 = .ok (.istore_n 2, 1) := by decide +kernel
theorem dX9_about_113 : decode cX9_about 113 = .ok (.iinc 3 1, 3) := by decide +kernel
theorem dX9_about_116 : decode cX9_about 116 = .ok (.goto (-21), 3) := by decide +kernel
theorem dX9_about_119 : decode cX9_about 119 = .ok (.iload_n 2, 1) := by decide +kernel
theorem dX9_about_120 : decode cX9_about 120 = .ok (.ireturn, 1) := by decide +kernel
theorem dX9_about_121 : decode cX9_about 121 = .ok (.aload_n 0, 1) := by decide +kernel
theorem dX9_about_122 : decode cX9_about 122 = .ok (.invokevirtual 190, 3) := by decide +kernel
theorem dX9_about_125 : decode cX9_about 125 = .ok (.ireturn, 1) := by decide +kernel
theorem dX9_about_126 : decode cX9_about 126 = .ok (.aload_n 0, 1) := by decide +kernel
theorem dX9_about_127 : decode cX9_about 127 = .ok (.iconst 1, 1) := by decide +kernel
theorem dX9_about_128 : decode cX9_about 128 = .ok (.invokevirtual 193, 3) := by decide +kernel
theorem dX9_about_131 : decode cX9_about 131 = .ok (.ireturn, 1) := by decide +kernel
theorem dX9_about_132 : decode cX9_about 132 = .ok (.aload_n 0, 1) := by decide +kernel
theorem dX9_about_133 : decode cX9_about 133 = .ok (.iconst (-1), 1) := by decide +kernel
theorem dX9_about_134 : decode cX9_about 134 = .ok (.invokevirtual 193, 3) := by decide +kernel
theorem dX9_about_137 : decode cX9_about 137 = .ok (.ireturn, 1) := by decide +kernel
theorem dX9_about_138 : decode cX9_about 138 = .ok (.iconst 0, 1) := by decide +kernel
theorem dX9_about_139 : decode cX9_about 139 = .ok (.istore_n 3, 1) := by decide +kernel
theorem dX9_about_140 : decode cX9_about 140 = .ok (.iload_n 3, 1) := by decide +kernel
theorem dX9_about_141 : decode cX9_about 141 = .ok (.aload_n 0, 1) := by decide +kernel
theorem dX9_about_142 : decode cX9_about 142 = .ok (.iconst 0, 1) := by decide +kernel
theorem dX9_about_143 : decode cX9_about 143 = .ok (.invokevirtual 68, 3) := by decide +kernel
theorem dX9_about_146 : decode cX9_about 146 = .ok (.if_icmp .ge 25, 3) := by decide +kernel
theorem dX9_about_149 : decode cX9_about 149 = .ok (.iload_n 2, 1) := by decide +kernel
theorem dX9_about_150 : decode cX9_about 150 = .ok (.aload_n 0, 1) := by decide +kernel
theorem dX9_about_151 : decode cX9_about 151 = .ok (.iload_n 3, 1) := by decide +kernel
theorem dX9_about_152 : decode cX9_about 152 = .ok (.invokevirtual 196, 3) := by decide +kernel
theorem dX9_about_155 : decode cX9_about 155 = .ok (.ifCond .eq 7, 3) := by decide +kernel
theorem dX9_about_158 : decode cX9_about 158 = .ok (.iconst 1, 1) := by decide +kernel
theorem dX9_about_159 : decode cX9_about 159 = .ok (.goto 4, 3) := by decide +kernel
theorem dX9_about_162 : decode cX9_about 162 = .ok (.iconst 0, 1) := by decide +kernel
theorem dX9_about_163 : decode cX9_about 163 = .ok (.iadd, 1) := by decide +kernel
theorem dX9_about_164 : decode cX9_about 164 = .ok (.istore_n 2, 1) := by decide +kernel
theorem dX9_about_165 : decode cX9_about 165 = .ok (.iinc 3 1, 3) := by decide +kernel
theorem dX9_about_168 : decode cX9_about 168 = .ok (.goto (-28), 3) := by decide +kernel
theorem dX9_about_171 : decode cX9_about 171 = .ok (.iload_n 2, 1) := by decide +kernel
theorem dX9_about_172 : decode cX9_about 172 = .ok (.ireturn, 1) := by decide +kernel
theorem dX9_about_173 : decode cX9_about 173 = .ok (.aload_n 0, 1) := by decide +kernel
theorem dX9_about_174 : decode cX9_about 174 = .ok (.invokevirtual 199, 3) := by decide +kernel
theorem dX9_about_177 : decode cX9_about 177 = .ok (.ireturn, 1) := by decide +kernel
theorem dX9_about_178 : decode cX9_about 178 = .ok (.iconst 0, 1) := by decide +kernel
theorem dX9_about_179 : decode cX9_about 179 = .ok (.istore_n 3, 1) := by decide +kernel
theorem dX9_about_180 : decode cX9_about 180 = .ok (.iload_n 3, 1) := by decide +kernel
theorem dX9_about_181 : decode cX9_about 181 = .ok (.aload_n 0, 1) := by decide +kernel
theorem dX9_about_182 : decode cX9_about 182 = .ok (.getfield 7, 3) := by decide +kernel
theorem dX9_about_185 : decode cX9_about 185 = .ok (.iconst 0, 1) := by decide +kernel
theorem dX9_about_186 : decode cX9_about 186 = .ok (.iaload, 1) := by decide +kernel
theorem dX9_about_187 : decode cX9_about 187 = .ok (.if_icmp .ge 38, 3) := by decide +kernel
theorem dX9_about_190 : decode cX9_about 190 = .ok (.iconst 0, 1) := by decide +kernel
theorem dX9_about_191 : decode cX9_about 191 = .ok (.istore 4, 2) := by decide +kernel
theorem dX9_about_193 : decode cX9_about 193 = .ok (.iload 4, 2) := by decide +kernel
theorem dX9_about_195 : decode cX9_about 195 = .ok (.aload_n 0, 1) := by decide +kernel
theorem dX9_about_196 : decode cX9_about 196 = .ok (.iload_n 3, 1) := by decide +kernel
theorem dX9_about_197 : decode cX9_about 197 = .ok (.invokevirtual 68, 3) := by decide +kernel
theorem dX9_about_200 : decode cX9_about 200 = .ok (.if_icmp .ge 19, 3) := by decide +kernel
theorem dX9_about_203 : decode cX9_about 203 = .ok (.iload_n 2, 1) := by decide +kernel
theorem dX9_about_204 : decode cX9_about 204 = .ok (.aload_n 0, 1) := by decide +kernel
theorem dX9_about_205 : decode cX9_about 205 = .ok (.iload_n 3, 1) := by decide +kernel
theorem dX9_about_206 : decode cX9_about 206 = .ok (.iload 4, 2) := by decide +kernel
theorem dX9_about_208 : decode cX9_about 208 = .ok (.invokevirtual 202, 3) := by decide +kernel
theorem dX9_about_211 : decode cX9_about 211 = .ok (.iadd, 1) := by decide +kernel
theorem dX9_about_212 : decode cX9_about 212 = .ok (.istore_n 2, 1) := by decide +kernel
theorem dX9_about_213 : decode cX9_about 213 = .ok (.iinc 4 1, 3) := by decide +kernel
theorem dX9_about_216 : decode cX9_about 216 = .ok (.goto (-23), 3) := by decide +kernel
theorem dX9_about_219 : decode cX9_about 219 = .ok (.iinc 3 1, 3) := by decide +kernel
theorem dX9_about_222 : decode cX9_about 222 = .ok (.goto (-42), 3) := by decide +kernel
theorem dX9_about_225 : decode cX9_about 225 = .ok (.iload_n 2, 1) := by decide +kernel
theorem dX9_about_226 : decode cX9_about 226 = .ok (.iconst 2, 1) := by decide +kernel
theorem dX9_about_227 : decode cX9_about 227 = .ok (.idiv, 1) := by decide +kernel
theorem dX9_about_228 : decode cX9_about 228 = .ok (.ireturn, 1) := by decide +kernel
theorem dX9_about_229 : decode cX9_about 229 = .ok (.iconst 0, 1) := by decide +kernel
theorem dX9_about_230 : decode cX9_about 230 = .ok (.ireturn, 1) := by decide +kernel
theorem dX9_lengthOf_0 : decode cX9_lengthOf 0 = .ok (.aload_n 0, 1) := by decide +kernel
theorem dX9_lengthOf_1 : decode cX9_lengthOf 1 = .ok (.iload_n 1, 1) := by decide +kernel
theorem dX9_lengthOf_2 : decode cX9_lengthOf 2 = .ok (.iload_n 2, 1) := by decide +kernel
theorem dX9_lengthOf_3 : decode cX9_lengthOf 3 = .ok (.invokevirtual 82, 3) := by decide +kernel
theorem dX9_lengthOf_6 : decode cX9_lengthOf 6 = .ok (.istore_n 3, 1) := by decide +kernel
theorem dX9_lengthOf_7 : decode cX9_lengthOf 7 = .ok (.aload_n 0, 1) := by decide +kernel
theorem dX9_lengthOf_8 : decode cX9_lengthOf 8 = .ok (.iload_n 1, 1) := by decide +kernel
theorem dX9_lengthOf_9 : decode cX9_lengthOf 9 = .ok (.iload_n 3, 1) := by decide +kernel
theorem dX9_lengthOf_10 : decode cX9_lengthOf 10 = .ok (.invokevirtual 75, 3) := by decide +kernel
theorem dX9_lengthOf_13 : decode cX9_lengthOf 13 = .ok (.aload_n 0, 1) := by decide +kernel
theorem dX9_lengthOf_14 : decode cX9_lengthOf 14 = .ok (.iload_n 1, 1) := by decide +kernel
theorem dX9_lengthOf_15 : decode cX9_lengthOf 15 = .ok (.iload_n 2, 1) := by decide +kernel
theorem dX9_lengthOf_16 : decode cX9_lengthOf 16 = .ok (.invokevirtual 75, 3) := by decide +kernel
theorem dX9_lengthOf_19 : decode cX9_lengthOf 19 = .ok (.isub, 1) := by decide +kernel
theorem dX9_lengthOf_20 : decode cX9_lengthOf 20 = .ok (.istore 4, 2) := by decide +kernel
theorem dX9_lengthOf_22 : decode cX9_lengthOf 22 = .ok (.aload_n 0, 1) := by decide +kernel
theorem dX9_lengthOf_23 : decode cX9_lengthOf 23 = .ok (.iload_n 1, 1) := by decide +kernel
theorem dX9_lengthOf_24 : decode cX9_lengthOf 24 = .ok (.iload_n 3, 1) := by decide +kernel
theorem dX9_lengthOf_25 : decode cX9_lengthOf 25 = .ok (.invokevirtual 79, 3) := by decide +kernel
theorem dX9_lengthOf_28 : decode cX9_lengthOf 28 = .ok (.aload_n 0, 1) := by decide +kernel
theorem dX9_lengthOf_29 : decode cX9_lengthOf 29 = .ok (.iload_n 1, 1) := by decide +kernel
theorem dX9_lengthOf_30 : decode cX9_lengthOf 30 = .ok (.iload_n 2, 1) := by decide +kernel
theorem dX9_lengthOf_31 : decode cX9_lengthOf 31 = .ok (.invokevirtual 79, 3) := by decide +kernel
theorem dX9_lengthOf_34 : decode cX9_lengthOf 34 = .ok (.isub, 1) := by decide +kernel
theorem dX9_lengthOf_35 : decode cX9_lengthOf 35 = .ok (.istore 5, 2) := by decide +kernel
theorem dX9_lengthOf_37 : decode cX9_lengthOf 37 = .ok (.iload 4, 2) := by decide +kernel
theorem dX9_lengthOf_39 : decode cX9_lengthOf 39 = .ok (.iload 4, 2) := by decide +kernel
theorem dX9_lengthOf_41 : decode cX9_lengthOf 41 = .ok (.imul, 1) := by decide +kernel
theorem dX9_lengthOf_42 : decode cX9_lengthOf 42 = .ok (.iload 5, 2) := by decide +kernel
theorem dX9_lengthOf_44 : decode cX9_lengthOf 44 = .ok (.iload 5, 2) := by decide +kernel
theorem dX9_lengthOf_46 : decode cX9_lengthOf 46 = .ok (.imul, 1) := by decide +kernel
theorem dX9_lengthOf_47 : decode cX9_lengthOf 47 = .ok (.iadd, 1) := by decide +kernel
theorem dX9_lengthOf_48 : decode cX9_lengthOf 48 = .ok (.ireturn, 1) := by decide +kernel
theorem dX9_longest_0 : decode cX9_longest 0 = .ok (.iconst 0, 1) := by decide +kernel
theorem dX9_longest_1 : decode cX9_longest 1 = .ok (.istore_n 2, 1) := by decide +kernel
theorem dX9_longest_2 : decode cX9_longest 2 = .ok (.iconst 1, 1) := by decide +kernel
theorem dX9_longest_3 : decode cX9_longest 3 = .ok (.istore_n 3, 1) := by decide +kernel
theorem dX9_longest_4 : decode cX9_longest 4 = .ok (.iload_n 3, 1) := by decide +kernel
theorem dX9_longest_5 : decode cX9_longest 5 = .ok (.aload_n 0, 1) := by decide +kernel
theorem dX9_longest_6 : decode cX9_longest 6 = .ok (.iload_n 1, 1) := by decide +kernel
theorem dX9_longest_7 : decode cX9_longest 7 = .ok (.invokevirtual 68, 3) := by decide +kernel
theorem dX9_longest_10 : decode cX9_longest 10 = .ok (.if_icmp .ge 30, 3) := by decide +kernel
theorem dX9_longest_13 : decode cX9_longest 13 = .ok (.aload_n 0, 1) := by decide +kernel
theorem dX9_longest_14 : decode cX9_longest 14 = .ok (.iload_n 1, 1) := by decide +kernel
theorem dX9_longest_15 : decode cX9_longest 15 = .ok (.iload_n 3, 1) := by decide +kernel
theorem dX9_longest_16 : decode cX9_longest 16 = .ok (.invokevirtual 205, 3) := by decide +kernel
theorem dX9_longest_19 : decode cX9_longest 19 = .ok (.aload_n 0, 1) := by decide +kernel
theorem dX9_longest_20 : decode cX9_longest 20 = .ok (.iload_n 1, 1) := by decide +kernel
theorem dX9_longest_21 : decode cX9_longest 21 = .ok (.iload_n 2, 1) := by decide +kernel
theorem dX9_longest_22 : decode cX9_longest 22 = .ok (.invokevirtual 205, 3) := by decide +kernel
theorem dX9_longest_25 : decode cX9_longest 25 = .ok (.if_icmp .le 7, 3) := by decide +kernel
theorem dX9_longest_28 : decode cX9_longest 28 = .ok (.iload_n 3, 1) := by decide +kernel
theorem dX9_longest_29 : decode cX9_longest 29 = .ok (.goto 4, 3) := by decide +kernel
theorem dX9_longest_32 : decode cX9_longest 32 = .ok (.iload_n 2, 1) := by decide +kernel
theorem dX9_longest_33 : decode cX9_longest 33 = .ok (.istore_n 2, 1) := by decide +kernel
theorem dX9_longest_34 : decode cX9_longest 34 = .ok (.iinc 3 1, 3) := by decide +kernel
theorem dX9_longest_37 : decode cX9_longest 37 = .ok (.goto (-33), 3) := by decide +kernel
theorem dX9_longest_40 : decode cX9_longest 40 = .ok (.iload_n 2, 1) := by decide +kernel
theorem dX9_longest_41 : decode cX9_longest 41 = .ok (.ireturn, 1) := by decide +kernel
theorem dX9_ring_0 : decode cX9_ring 0 = .ok (.aload_n 0, 1) := by decide +kernel
theorem dX9_ring_1 : decode cX9_ring 1 = .ok (.aload_n 0, 1) := by decide +kernel
theorem dX9_ring_2 : decode cX9_ring 2 = .ok (.iload_n 1, 1) := by decide +kernel
theorem dX9_ring_3 : decode cX9_ring 3 = .ok (.invokevirtual 64, 3) := by decide +kernel
theorem dX9_ring_6 : decode cX9_ring 6 = .ok (.ifCond .ne 7, 3) := by decide +kernel
theorem dX9_ring_9 : decode cX9_ring 9 = .ok (.iconst 1, 1) := by decide +kernel
theorem dX9_ring_10 : decode cX9_ring 10 = .ok (.goto 17, 3) := by decide +kernel
theorem dX9_ring_13 : decode cX9_ring 13 = .ok (.iload_n 2, 1) := by decide +kernel
theorem dX9_ring_14 : decode cX9_ring 14 = .ok (.iconst 0, 1) := by decide +kernel
theorem dX9_ring_15 : decode cX9_ring 15 = .ok (.iconst 5, 1) := by decide +kernel
theorem dX9_ring_16 : decode cX9_ring 16 = .ok (.invokestatic 60, 3) := by decide +kernel
theorem dX9_ring_19 : decode cX9_ring 19 = .ok (.ifCond .eq 7, 3) := by decide +kernel
theorem dX9_ring_22 : decode cX9_ring 22 = .ok (.iconst 0, 1) := by decide +kernel
theorem dX9_ring_23 : decode cX9_ring 23 = .ok (.goto 4, 3) := by decide +kernel
theorem dX9_ring_26 : decode cX9_ring 26 = .ok (.iconst 2, 1) := by decide +kernel
theorem dX9_ring_27 : decode cX9_ring 27 = .ok (.putfield 56, 3) := by decide +kernel
theorem dX9_ring_30 : decode cX9_ring 30 = .ok (.aload_n 0, 1) := by decide +kernel
theorem dX9_ring_31 : decode cX9_ring 31 = .ok (.getfield 56, 3) := by decide +kernel
theorem dX9_ring_34 : decode cX9_ring 34 = .ok (.ifCond .le 5, 3) := by decide +kernel
theorem dX9_ring_37 : decode cX9_ring 37 = .ok (.iconst 0, 1) := by decide +kernel
theorem dX9_ring_38 : decode cX9_ring 38 = .ok (.ireturn, 1) := by decide +kernel
theorem dX9_ring_39 : decode cX9_ring 39 = .ok (.iload_n 2, 1) := by decide +kernel
theorem dX9_ring_40 : decode cX9_ring 40 = .ok (.tableswitch 77 0 4 #[36, 42, 51, 65, 71], 36) := by decide +kernel
theorem dX9_ring_76 : decode cX9_ring 76 = .ok (.aload_n 0, 1) := by decide +kernel
theorem dX9_ring_77 : decode cX9_ring 77 = .ok (.iload_n 1, 1) := by decide +kernel
theorem dX9_ring_78 : decode cX9_ring 78 = .ok (.invokevirtual 68, 3) := by decide +kernel
theorem dX9_ring_81 : decode cX9_ring 81 = .ok (.ireturn, 1) := by decide +kernel
theorem dX9_ring_82 : decode cX9_ring 82 = .ok (.aload_n 0, 1) := by decide +kernel
theorem dX9_ring_83 : decode cX9_ring 83 = .ok (.iload_n 1, 1) := by decide +kernel
theorem dX9_ring_84 : decode cX9_ring 84 = .ok (.invokevirtual 140, 3) := by decide +kernel
theorem dX9_ring_87 : decode cX9_ring 87 = .ok (.invokestatic 143, 3) := by decide +kernel
theorem dX9_ring_90 : decode cX9_ring 90 = .ok (.ireturn, 1) := by decide +kernel
theorem dX9_ring_91 : decode cX9_ring 91 = .ok (.aload_n 0, 1) := by decide +kernel
theorem dX9_ring_92 : decode cX9_ring 92 = .ok (.iload_n 1, 1) := by decide +kernel
theorem dX9_ring_93 : decode cX9_ring 93 = .ok (.invokevirtual 140, 3) := by decide +kernel
theorem dX9_ring_96 : decode cX9_ring 96 = .ok (.ifCond .le 7, 3) := by decide +kernel
theorem dX9_ring_99 : decode cX9_ring 99 = .ok (.iconst 1, 1) := by decide +kernel
theorem dX9_ring_100 : decode cX9_ring 100 = .ok (.goto 4, 3) := by decide +kernel
theorem dX9_ring_103 : decode cX9_ring 103 = .ok (.iconst 0, 1) := by decide +kernel
theorem dX9_ring_104 : decode cX9_ring 104 = .ok (.ireturn, 1) := by decide +kernel
theorem dX9_ring_105 : decode cX9_ring 105 = .ok (.aload_n 0, 1) := by decide +kernel
theorem dX9_ring_106 : decode cX9_ring 106 = .ok (.iload_n 1, 1) := by decide +kernel
theorem dX9_ring_107 : decode cX9_ring 107 = .ok (.invokevirtual 187, 3) := by decide +kernel
theorem dX9_ring_110 : decode cX9_ring 110 = .ok (.ireturn, 1) := by decide +kernel
theorem dX9_ring_111 : decode cX9_ring 111 = .ok (.aload_n 0, 1) := by decide +kernel
theorem dX9_ring_112 : decode cX9_ring 112 = .ok (.iload_n 1, 1) := by decide +kernel
theorem dX9_ring_113 : decode cX9_ring 113 = .ok (.invokevirtual 208, 3) := by decide +kernel
theorem dX9_ring_116 : decode cX9_ring 116 = .ok (.ireturn, 1) := by decide +kernel
theorem dX9_ring_117 : decode cX9_ring 117 = .ok (.aload_n 0, 1) := by decide +kernel
theorem dX9_ring_118 : decode cX9_ring 118 = .ok (.iload_n 1, 1) := by decide +kernel
theorem dX9_ring_119 : decode cX9_ring 119 = .ok (.aload_n 0, 1) := by decide +kernel
theorem dX9_ring_120 : decode cX9_ring 120 = .ok (.iload_n 1, 1) := by decide +kernel
theorem dX9_ring_121 : decode cX9_ring 121 = .ok (.invokevirtual 208, 3) := by decide +kernel
theorem dX9_ring_124 : decode cX9_ring 124 = .ok (.invokevirtual 205, 3) := by decide +kernel
theorem dX9_ring_127 : decode cX9_ring 127 = .ok (.ireturn, 1) := by decide +kernel
theorem dX9_corner_0 : decode cX9_corner 0 = .ok (.aload_n 0, 1) := by decide +kernel
theorem dX9_corner_1 : decode cX9_corner 1 = .ok (.aload_n 0, 1) := by decide +kernel
theorem dX9_corner_2 : decode cX9_corner 2 = .ok (.iload_n 1, 1) := by decide +kernel
theorem dX9_corner_3 : decode cX9_corner 3 = .ok (.iload_n 2, 1) := by decide +kernel
theorem dX9_corner_4 : decode cX9_corner 4 = .ok (.invokevirtual 211, 3) := by decide +kernel
theorem dX9_corner_7 : decode cX9_corner 7 = .ok (.ifCond .ne 7, 3) := by decide +kernel
theorem dX9_corner_10 : decode cX9_corner 10 = .ok (.iconst 1, 1) := by decide +kernel
theorem dX9_corner_11 : decode cX9_corner 11 = .ok (.goto 17, 3) := by decide +kernel
theorem dX9_corner_14 : decode cX9_corner 14 = .ok (.iload_n 3, 1) := by decide +kernel
theorem dX9_corner_15 : decode cX9_corner 15 = .ok (.iconst 0, 1) := by decide +kernel
theorem dX9_corner_16 : decode cX9_corner 16 = .ok (.iconst 5, 1) := by decide +kernel
theorem dX9_corner_17 : decode cX9_corner 17 = .ok (.invokestatic 60, 3) := by decide +kernel
theorem dX9_corner_20 : decode cX9_corner 20 = .ok (.ifCond .eq 7, 3) := by decide +kernel
theorem dX9_corner_23 : decode cX9_corner 23 = .ok (.iconst 0, 1) := by decide +kernel
theorem dX9_corner_24 : decode cX9_corner 24 = .ok (.goto 4, 3) := by decide +kernel
theorem dX9_corner_27 : decode cX9_corner 27 = .ok (.iconst 2, 1) := by decide +kernel
theorem dX9_corner_28 : decode cX9_corner 28 = .ok (.putfield 56, 3) := by decide +kernel
theorem dX9_corner_31 : decode cX9_corner 31 = .ok (.aload_n 0, 1) := by decide +kernel
theorem dX9_corner_32 : decode cX9_corner 32 = .ok (.getfield 56, 3) := by decide +kernel
theorem dX9_corner_35 : decode cX9_corner 35 = .ok (.ifCond .le 5, 3) := by decide +kernel
theorem dX9_corner_38 : decode cX9_corner 38 = .ok (.iconst 0, 1) := by decide +kernel
theorem dX9_corner_39 : decode cX9_corner 39 = .ok (.ireturn, 1) := by decide +kernel
theorem dX9_corner_40 : decode cX9_corner 40 = .ok (.iload_n 3, 1) := by decide +kernel
theorem dX9_corner_41 : decode cX9_corner 41 = .ok (.tableswitch 73 0 4 #[35, 42, 49, 56, 63], 35) := by decide +kernel
theorem dX9_corner_76 : decode cX9_corner 76 = .ok (.aload_n 0, 1) := by decide +kernel
theorem dX9_corner_77 : decode cX9_corner 77 = .ok (.iload_n 1, 1) := by decide +kernel
theorem dX9_corner_78 : decode cX9_corner 78 = .ok (.iload_n 2, 1) := by decide +kernel
theorem dX9_corner_79 : decode cX9_corner 79 = .ok (.invokevirtual 75, 3) := by decide +kernel
theorem dX9_corner_82 : decode cX9_corner 82 = .ok (.ireturn, 1) := by decide +kernel
theorem dX9_corner_83 : decode cX9_corner 83 = .ok (.aload_n 0, 1) := by decide +kernel
theorem dX9_corner_84 : decode cX9_corner 84 = .ok (.iload_n 1, 1) := by decide +kernel
theorem dX9_corner_85 : decode cX9_corner 85 = .ok (.iload_n 2, 1) := by decide +kernel
theorem dX9_corner_86 : decode cX9_corner 86 = .ok (.invokevirtual 79, 3) := by decide +kernel
theorem dX9_corner_89 : decode cX9_corner 89 = .ok (.ireturn, 1) := by decide +kernel
theorem dX9_corner_90 : decode cX9_corner 90 = .ok (.aload_n 0, 1) := by decide +kernel
theorem dX9_corner_91 : decode cX9_corner 91 = .ok (.iload_n 1, 1) := by decide +kernel
theorem dX9_corner_92 : decode cX9_corner 92 = .ok (.iload_n 2, 1) := by decide +kernel
theorem dX9_corner_93 : decode cX9_corner 93 = .ok (.invokevirtual 168, 3) := by decide +kernel
theorem dX9_corner_96 : decode cX9_corner 96 = .ok (.ireturn, 1) := by decide +kernel
theorem dX9_corner_97 : decode cX9_corner 97 = .ok (.aload_n 0, 1) := by decide +kernel
theorem dX9_corner_98 : decode cX9_corner 98 = .ok (.iload_n 1, 1) := by decide +kernel
theorem dX9_corner_99 : decode cX9_corner 99 = .ok (.iload_n 2, 1) := by decide +kernel
theorem dX9_corner_100 : decode cX9_corner 100 = .ok (.invokevirtual 202, 3) := by decide +kernel
theorem dX9_corner_103 : decode cX9_corner 103 = .ok (.ireturn, 1) := by decide +kernel
theorem dX9_corner_104 : decode cX9_corner 104 = .ok (.aload_n 0, 1) := by decide +kernel
theorem dX9_corner_105 : decode cX9_corner 105 = .ok (.iload_n 1, 1) := by decide +kernel
theorem dX9_corner_106 : decode cX9_corner 106 = .ok (.iload_n 2, 1) := by decide +kernel
theorem dX9_corner_107 : decode cX9_corner 107 = .ok (.invokevirtual 155, 3) := by decide +kernel
theorem dX9_corner_110 : decode cX9_corner 110 = .ok (.invokestatic 143, 3) := by decide +kernel
theorem dX9_corner_113 : decode cX9_corner 113 = .ok (.ireturn, 1) := by decide +kernel
theorem dX9_corner_114 : decode cX9_corner 114 = .ok (.aload_n 0, 1) := by decide +kernel
theorem dX9_corner_115 : decode cX9_corner 115 = .ok (.iload_n 1, 1) := by decide +kernel
theorem dX9_corner_116 : decode cX9_corner 116 = .ok (.iload_n 2, 1) := by decide +kernel
theorem dX9_corner_117 : decode cX9_corner 117 = .ok (.invokevirtual 149, 3) := by decide +kernel
theorem dX9_corner_120 : decode cX9_corner 120 = .ok (.ireturn, 1) := by decide +kernel
theorem dX9_isPoint_0 : decode cX9_isPoint 0 = .ok (.iload_n 0, 1) := by decide +kernel
theorem dX9_isPoint_1 : decode cX9_isPoint 1 = .ok (.iconst 0, 1) := by decide +kernel
theorem dX9_isPoint_2 : decode cX9_isPoint 2 = .ok (.bipush 15, 2) := by decide +kernel
theorem dX9_isPoint_4 : decode cX9_isPoint 4 = .ok (.invokestatic 60, 3) := by decide +kernel
theorem dX9_isPoint_7 : decode cX9_isPoint 7 = .ok (.ifCond .eq 17, 3) := by decide +kernel
theorem dX9_isPoint_10 : decode cX9_isPoint 10 = .ok (.iload_n 1, 1) := by decide +kernel
theorem dX9_isPoint_11 : decode cX9_isPoint 11 = .ok (.iconst 0, 1) := by decide +kernel
theorem dX9_isPoint_12 : decode cX9_isPoint 12 = .ok (.bipush 15, 2) := by decide +kernel
theorem dX9_isPoint_14 : decode cX9_isPoint 14 = .ok (.invokestatic 60, 3) := by decide +kernel
theorem dX9_isPoint_17 : decode cX9_isPoint 17 = .ok (.ifCond .eq 7, 3) := by decide +kernel
theorem dX9_isPoint_20 : decode cX9_isPoint 20 = .ok (.iconst 1, 1) := by decide +kernel
theorem dX9_isPoint_21 : decode cX9_isPoint 21 = .ok (.goto 4, 3) := by decide +kernel
theorem dX9_isPoint_24 : decode cX9_isPoint 24 = .ok (.iconst 0, 1) := by decide +kernel
theorem dX9_isPoint_25 : decode cX9_isPoint 25 = .ok (.ireturn, 1) := by decide +kernel
theorem dX9_point_0 : decode cX9_point 0 = .ok (.aload_n 0, 1) := by decide +kernel
theorem dX9_point_1 : decode cX9_point 1 = .ok (.iload_n 1, 1) := by decide +kernel
theorem dX9_point_2 : decode cX9_point 2 = .ok (.iload_n 2, 1) := by decide +kernel
theorem dX9_point_3 : decode cX9_point 3 = .ok (.invokestatic 214, 3) := by decide +kernel
theorem dX9_point_6 : decode cX9_point 6 = .ok (.ifCond .eq 7, 3) := by decide +kernel
theorem dX9_point_9 : decode cX9_point 9 = .ok (.iconst 0, 1) := by decide +kernel
theorem dX9_point_10 : decode cX9_point 10 = .ok (.goto 4, 3) := by decide +kernel
theorem dX9_point_13 : decode cX9_point 13 = .ok (.iconst 1, 1) := by decide +kernel
theorem dX9_point_14 : decode cX9_point 14 = .ok (.putfield 56, 3) := by decide +kernel
theorem dX9_point_17 : decode cX9_point 17 = .ok (.aload_n 0, 1) := by decide +kernel
theorem dX9_point_18 : decode cX9_point 18 = .ok (.getfield 56, 3) := by decide +kernel
theorem dX9_point_21 : decode cX9_point 21 = .ok (.ifCond .le 7, 3) := by decide +kernel
theorem dX9_point_24 : decode cX9_point 24 = .ok (.iconst 0, 1) := by decide +kernel
theorem dX9_point_25 : decode cX9_point 25 = .ok (.goto 9, 3) := by decide +kernel
theorem dX9_point_28 : decode cX9_point 28 = .ok (.aload_n 0, 1) := by decide +kernel
theorem dX9_point_29 : decode cX9_point 29 = .ok (.iload_n 1, 1) := by decide +kernel
theorem dX9_point_30 : decode cX9_point 30 = .ok (.iload_n 2, 1) := by decide +kernel
theorem dX9_point_31 : decode cX9_point 31 = .ok (.invokevirtual 171, 3) := by decide +kernel
theorem dX9_point_34 : decode cX9_point 34 = .ok (.ireturn, 1) := by decide +kernel
theorem dX9_sees_0 : decode cX9_sees 0 = .ok (.aload_n 0, 1) := by decide +kernel
theorem dX9_sees_1 : decode cX9_sees 1 = .ok (.aload_n 0, 1) := by decide +kernel
theorem dX9_sees_2 : decode cX9_sees 2 = .ok (.iload_n 1, 1) := by decide +kernel
theorem dX9_sees_3 : decode cX9_sees 3 = .ok (.iload_n 2, 1) := by decide +kernel
theorem dX9_sees_4 : decode cX9_sees 4 = .ok (.invokevirtual 211, 3) := by decide +kernel
theorem dX9_sees_7 : decode cX9_sees 7 = .ok (.ifCond .eq 17, 3) := by decide +kernel
theorem dX9_sees_10 : decode cX9_sees 10 = .ok (.aload_n 0, 1) := by decide +kernel
theorem dX9_sees_11 : decode cX9_sees 11 = .ok (.iload_n 3, 1) := by decide +kernel
theorem dX9_sees_12 : decode cX9_sees 12 = .ok (.iload 4, 2) := by decide +kernel
theorem dX9_sees_14 : decode cX9_sees 14 = .ok (.invokevirtual 211, 3) := by decide +kernel
theorem dX9_sees_17 : decode cX9_sees 17 = .ok (.ifCond .eq 7, 3) := by decide +kernel
theorem dX9_sees_20 : decode cX9_sees 20 = .ok (.iconst 0, 1) := by decide +kernel
theorem dX9_sees_21 : decode cX9_sees 21 = .ok (.goto 4, 3) := by decide +kernel
theorem dX9_sees_24 : decode cX9_sees 24 = .ok (.iconst 1, 1) := by decide +kernel
theorem dX9_sees_25 : decode cX9_sees 25 = .ok (.putfield 56, 3) := by decide +kernel
theorem dX9_sees_28 : decode cX9_sees 28 = .ok (.aload_n 0, 1) := by decide +kernel
theorem dX9_sees_29 : decode cX9_sees 29 = .ok (.getfield 56, 3) := by decide +kernel
theorem dX9_sees_32 : decode cX9_sees 32 = .ok (.ifCond .ne 19, 3) := by decide +kernel
theorem dX9_sees_35 : decode cX9_sees 35 = .ok (.aload_n 0, 1) := by decide +kernel
theorem dX9_sees_36 : decode cX9_sees 36 = .ok (.iload_n 1, 1) := by decide +kernel
theorem dX9_sees_37 : decode cX9_sees 37 = .ok (.iload_n 2, 1) := by decide +kernel
theorem dX9_sees_38 : decode cX9_sees 38 = .ok (.iload_n 3, 1) := by decide +kernel
theorem dX9_sees_39 : decode cX9_sees 39 = .ok (.iload 4, 2) := by decide +kernel
theorem dX9_sees_41 : decode cX9_sees 41 = .ok (.invokevirtual 164, 3) := by decide +kernel
theorem dX9_sees_44 : decode cX9_sees 44 = .ok (.ifCond .eq 7, 3) := by decide +kernel
theorem dX9_sees_47 : decode cX9_sees 47 = .ok (.iconst 1, 1) := by decide +kernel
theorem dX9_sees_48 : decode cX9_sees 48 = .ok (.goto 4, 3) := by decide +kernel
theorem dX9_sees_51 : decode cX9_sees 51 = .ok (.iconst 0, 1) := by decide +kernel
theorem dX9_sees_52 : decode cX9_sees 52 = .ok (.ireturn, 1) := by decide +kernel
theorem dX9_remember_0 : decode cX9_remember 0 = .ok (.aload_n 0, 1) := by decide +kernel
theorem dX9_remember_1 : decode cX9_remember 1 = .ok (.getfield 137, 3) := by decide +kernel
theorem dX9_remember_4 : decode cX9_remember 4 = .ok (.bipush 14, 2) := by decide +kernel
theorem dX9_remember_6 : decode cX9_remember 6 = .ok (.if_icmp .ne 43, 3) := by decide +kernel
theorem dX9_remember_9 : decode cX9_remember 9 = .ok (.iconst 0, 1) := by decide +kernel
theorem dX9_remember_10 : decode cX9_remember 10 = .ok (.istore_n 1, 1) := by decide +kernel
theorem dX9_remember_11 : decode cX9_remember 11 = .ok (.iload_n 1, 1) := by decide +kernel
theorem dX9_remember_12 : decode cX9_remember 12 = .ok (.sipush 1105, 3) := by decide +kernel
theorem dX9_remember_15 : decode cX9_remember 15 = .ok (.if_icmp .ge 24, 3) := by decide +kernel
theorem dX9_remember_18 : decode cX9_remember 18 = .ok (.aload_n 0, 1) := by decide +kernel
theorem dX9_remember_19 : decode cX9_remember 19 = .ok (.getfield 19, 3) := by decide +kernel
theorem dX9_remember_22 : decode cX9_remember 22 = .ok (.iload_n 1, 1) := by decide +kernel
theorem dX9_remember_23 : decode cX9_remember 23 = .ok (.aload_n 0, 1) := by decide +kernel
theorem dX9_remember_24 : decode cX9_remember 24 = .ok (.getfield 19, 3) := by decide +kernel
theorem dX9_remember_27 : decode cX9_remember 27 = .ok (.iload_n 1, 1) := by decide +kernel
theorem dX9_remember_28 : decode cX9_remember 28 = .ok (.bipush 85, 2) := by decide +kernel
theorem dX9_remember_30 : decode cX9_remember 30 = .ok (.iadd, 1) := by decide +kernel
theorem dX9_remember_31 : decode cX9_remember 31 = .ok (.iaload, 1) := by decide +kernel
theorem dX9_remember_32 : decode cX9_remember 32 = .ok (.iastore, 1) := by decide +kernel
theorem dX9_remember_33 : decode cX9_remember 33 = .ok (.iinc 1 1, 3) := by decide +kernel
theorem dX9_remember_36 : decode cX9_remember 36 = .ok (.goto (-25), 3) := by decide +kernel
theorem dX9_remember_39 : decode cX9_remember 39 = .ok (.aload_n 0, 1) := by decide +kernel
theorem dX9_remember_40 : decode cX9_remember 40 = .ok (.dup, 1) := by decide +kernel
theorem dX9_remember_41 : decode cX9_remember 41 = .ok (.getfield 137, 3) := by decide +kernel
theorem dX9_remember_44 : decode cX9_remember 44 = .ok (.iconst 1, 1) := by decide +kernel
theorem dX9_remember_45 : decode cX9_remember 45 = .ok (.isub, 1) := by decide +kernel
theorem dX9_remember_46 : decode cX9_remember 46 = .ok (.putfield 137, 3) := by decide +kernel
theorem dX9_remember_49 : decode cX9_remember 49 = .ok (.aload_n 0, 1) := by decide +kernel
theorem dX9_remember_50 : decode cX9_remember 50 = .ok (.getfield 13, 3) := by decide +kernel
theorem dX9_remember_53 : decode cX9_remember 53 = .ok (.iconst 0, 1) := by decide +kernel
theorem dX9_remember_54 : decode cX9_remember 54 = .ok (.aload_n 0, 1) := by decide +kernel
theorem dX9_remember_55 : decode cX9_remember 55 = .ok (.getfield 19, 3) := by decide +kernel
theorem dX9_remember_58 : decode cX9_remember 58 = .ok (.aload_n 0, 1) := by decide +kernel
theorem dX9_remember_59 : decode cX9_remember 59 = .ok (.getfield 137, 3) := by decide +kernel
theorem dX9_remember_62 : decode cX9_remember 62 = .ok (.bipush 85, 2) := by decide +kernel
theorem dX9_remember_64 : decode cX9_remember 64 = .ok (.imul, 1) := by decide +kernel
theorem dX9_remember_65 : decode cX9_remember 65 = .ok (.invokestatic 130, 3) := by decide +kernel
theorem dX9_remember_68 : decode cX9_remember 68 = .ok (.aload_n 0, 1) := by decide +kernel
theorem dX9_remember_69 : decode cX9_remember 69 = .ok (.dup, 1) := by decide +kernel
theorem dX9_remember_70 : decode cX9_remember 70 = .ok (.getfield 137, 3) := by decide +kernel
theorem dX9_remember_73 : decode cX9_remember 73 = .ok (.iconst 1, 1) := by decide +kernel
theorem dX9_remember_74 : decode cX9_remember 74 = .ok (.iadd, 1) := by decide +kernel
theorem dX9_remember_75 : decode cX9_remember 75 = .ok (.putfield 137, 3) := by decide +kernel
theorem dX9_remember_78 : decode cX9_remember 78 = .ok (.return_, 1) := by decide +kernel
theorem dX9_begin_0 : decode cX9_begin 0 = .ok (.aload_n 0, 1) := by decide +kernel
theorem dX9_begin_1 : decode cX9_begin 1 = .ok (.getfield 7, 3) := by decide +kernel
theorem dX9_begin_4 : decode cX9_begin 4 = .ok (.iconst 0, 1) := by decide +kernel
theorem dX9_begin_5 : decode cX9_begin 5 = .ok (.aload_n 0, 1) := by decide +kernel
theorem dX9_begin_6 : decode cX9_begin 6 = .ok (.getfield 13, 3) := by decide +kernel
theorem dX9_begin_9 : decode cX9_begin 9 = .ok (.iconst 0, 1) := by decide +kernel
theorem dX9_begin_10 : decode cX9_begin 10 = .ok (.invokestatic 130, 3) := by decide +kernel
theorem dX9_begin_13 : decode cX9_begin 13 = .ok (.return_, 1) := by decide +kernel
theorem dX9_end_0 : decode cX9_end 0 = .ok (.aload_n 0, 1) := by decide +kernel
theorem dX9_end_1 : decode cX9_end 1 = .ok (.invokevirtual 126, 3) := by decide +kernel
theorem dX9_end_4 : decode cX9_end 4 = .ok (.ifCond .ne 7, 3) := by decide +kernel
theorem dX9_end_7 : decode cX9_end 7 = .ok (.iconst 1, 1) := by decide +kernel
theorem dX9_end_8 : decode cX9_end 8 = .ok (.goto 4, 3) := by decide +kernel
theorem dX9_end_11 : decode cX9_end 11 = .ok (.iconst 0, 1) := by decide +kernel
theorem dX9_end_12 : decode cX9_end 12 = .ok (.istore_n 1, 1) := by decide +kernel
theorem dX9_end_13 : decode cX9_end 13 = .ok (.iload_n 1, 1) := by decide +kernel
theorem dX9_end_14 : decode cX9_end 14 = .ok (.ifCond .ne 16, 3) := by decide +kernel
theorem dX9_end_17 : decode cX9_end 17 = .ok (.aload_n 0, 1) := by decide +kernel
theorem dX9_end_18 : decode cX9_end 18 = .ok (.getfield 13, 3) := by decide +kernel
theorem dX9_end_21 : decode cX9_end 21 = .ok (.iconst 0, 1) := by decide +kernel
theorem dX9_end_22 : decode cX9_end 22 = .ok (.aload_n 0, 1) := by decide +kernel
theorem dX9_end_23 : decode cX9_end 23 = .ok (.getfield 7, 3) := by decide +kernel
theorem dX9_end_26 : decode cX9_end 26 = .ok (.iconst 0, 1) := by decide +kernel
theorem dX9_end_27 : decode cX9_end 27 = .ok (.invokestatic 130, 3) := by decide +kernel
theorem dX9_end_30 : decode cX9_end 30 = .ok (.iload_n 1, 1) := by decide +kernel
theorem dX9_end_31 : decode cX9_end 31 = .ok (.ifCond .eq 7, 3) := by decide +kernel
theorem dX9_end_34 : decode cX9_end 34 = .ok (.iconst 0, 1) := by decide +kernel
theorem dX9_end_35 : decode cX9_end 35 = .ok (.goto 4, 3) := by decide +kernel
theorem dX9_end_38 : decode cX9_end 38 = .ok (.iconst 2, 1) := by decide +kernel
theorem dX9_end_39 : decode cX9_end 39 = .ok (.ireturn, 1) := by decide +kernel
theorem dX9_tryMove_0 : decode cX9_tryMove 0 = .ok (.aload_n 0, 1) := by decide +kernel
theorem dX9_tryMove_1 : decode cX9_tryMove 1 = .ok (.iload_n 1, 1) := by decide +kernel
theorem dX9_tryMove_2 : decode cX9_tryMove 2 = .ok (.iload_n 2, 1) := by decide +kernel
theorem dX9_tryMove_3 : decode cX9_tryMove 3 = .ok (.invokevirtual 211, 3) := by decide +kernel
theorem dX9_tryMove_6 : decode cX9_tryMove 6 = .ok (.ifCond .ne 5, 3) := by decide +kernel
theorem dX9_tryMove_9 : decode cX9_tryMove 9 = .ok (.iconst 1, 1) := by decide +kernel
theorem dX9_tryMove_10 : decode cX9_tryMove 10 = .ok (.ireturn, 1) := by decide +kernel
theorem dX9_tryMove_11 : decode cX9_tryMove 11 = .ok (.aload_n 0, 1) := by decide +kernel
theorem dX9_tryMove_12 : decode cX9_tryMove 12 = .ok (.invokevirtual 217, 3) := by decide +kernel
theorem dX9_tryMove_15 : decode cX9_tryMove 15 = .ok (.aload_n 0, 1) := by decide +kernel
theorem dX9_tryMove_16 : decode cX9_tryMove 16 = .ok (.iload_n 1, 1) := by decide +kernel
theorem dX9_tryMove_17 : decode cX9_tryMove 17 = .ok (.iload_n 2, 1) := by decide +kernel
theorem dX9_tryMove_18 : decode cX9_tryMove 18 = .ok (.iload_n 3, 1) := by decide +kernel
theorem dX9_tryMove_19 : decode cX9_tryMove 19 = .ok (.iload 4, 2) := by decide +kernel
theorem dX9_tryMove_21 : decode cX9_tryMove 21 = .ok (.invokevirtual 52, 3) := by decide +kernel
theorem dX9_tryMove_24 : decode cX9_tryMove 24 = .ok (.aload_n 0, 1) := by decide +kernel
theorem dX9_tryMove_25 : decode cX9_tryMove 25 = .ok (.invokevirtual 220, 3) := by decide +kernel
theorem dX9_tryMove_28 : decode cX9_tryMove 28 = .ok (.ireturn, 1) := by decide +kernel
theorem dX9_tryInsert_0 : decode cX9_tryInsert 0 = .ok (.aload_n 0, 1) := by decide +kernel
theorem dX9_tryInsert_1 : decode cX9_tryInsert 1 = .ok (.iload_n 1, 1) := by decide +kernel
theorem dX9_tryInsert_2 : decode cX9_tryInsert 2 = .ok (.iload_n 2, 1) := by decide +kernel
theorem dX9_tryInsert_3 : decode cX9_tryInsert 3 = .ok (.invokevirtual 211, 3) := by decide +kernel
theorem dX9_tryInsert_6 : decode cX9_tryInsert 6 = .ok (.ifCond .ne 5, 3) := by decide +kernel
theorem dX9_tryInsert_9 : decode cX9_tryInsert 9 = .ok (.iconst 1, 1) := by decide +kernel
theorem dX9_tryInsert_10 : decode cX9_tryInsert 10 = .ok (.ireturn, 1) := by decide +kernel
theorem dX9_tryInsert_11 : decode cX9_tryInsert 11 = .ok (.aload_n 0, 1) := by decide +kernel
theorem dX9_tryInsert_12 : decode cX9_tryInsert 12 = .ok (.iload_n 1, 1) := by decide +kernel
theorem dX9_tryInsert_13 : decode cX9_tryInsert 13 = .ok (.invokevirtual 68, 3) := by decide +kernel
theorem dX9_tryInsert_16 : decode cX9_tryInsert 16 = .ok (.bipush 10, 2) := by decide +kernel
theorem dX9_tryInsert_18 : decode cX9_tryInsert 18 = .ok (.if_icmp .ne 5, 3) := by decide +kernel
theorem dX9_tryInsert_21 : decode cX9_tryInsert 21 = .ok (.iconst 2, 1) := by decide +kernel
theorem dX9_tryInsert_22 : decode cX9_tryInsert 22 = .ok (.ireturn, 1) := by decide +kernel
theorem dX9_tryInsert_23 : decode cX9_tryInsert 23 = .ok (.aload_n 0, 1) := by decide +kernel
theorem dX9_tryInsert_24 : decode cX9_tryInsert 24 = .ok (.invokevirtual 217, 3) := by decide +kernel
theorem dX9_tryInsert_27 : decode cX9_tryInsert 27 = .ok (.aload_n 0, 1) := by decide +kernel
theorem dX9_tryInsert_28 : decode cX9_tryInsert 28 = .ok (.iload_n 1, 1) := by decide +kernel
theorem dX9_tryInsert_29 : decode cX9_tryInsert 29 = .ok (.invokevirtual 68, 3) := by decide +kernel
theorem dX9_tryInsert_32 : decode cX9_tryInsert 32 = .ok (.istore 5, 2) := by decide +kernel
theorem dX9_tryInsert_34 : decode cX9_tryInsert 34 = .ok (.iload 5, 2) := by decide +kernel
theorem dX9_tryInsert_36 : decode cX9_tryInsert 36 = .ok (.iload_n 2, 1) := by decide +kernel
theorem dX9_tryInsert_37 : decode cX9_tryInsert 37 = .ok (.iconst 1, 1) := by decide +kernel
theorem dX9_tryInsert_38 : decode cX9_tryInsert 38 = .ok (.iadd, 1) := by decide +kernel
theorem dX9_tryInsert_39 : decode cX9_tryInsert 39 = .ok (.if_icmp .le 34, 3) := by decide +kernel
theorem dX9_tryInsert_42 : decode cX9_tryInsert 42 = .ok (.aload_n 0, 1) := by decide +kernel
theorem dX9_tryInsert_43 : decode cX9_tryInsert 43 = .ok (.iload_n 1, 1) := by decide +kernel
theorem dX9_tryInsert_44 : decode cX9_tryInsert 44 = .ok (.iload 5, 2) := by decide +kernel
theorem dX9_tryInsert_46 : decode cX9_tryInsert 46 = .ok (.aload_n 0, 1) := by decide +kernel
theorem dX9_tryInsert_47 : decode cX9_tryInsert 47 = .ok (.iload_n 1, 1) := by decide +kernel
theorem dX9_tryInsert_48 : decode cX9_tryInsert 48 = .ok (.iload 5, 2) := by decide +kernel
theorem dX9_tryInsert_50 : decode cX9_tryInsert 50 = .ok (.iconst 1, 1) := by decide +kernel
theorem dX9_tryInsert_51 : decode cX9_tryInsert 51 = .ok (.isub, 1) := by decide +kernel
theorem dX9_tryInsert_52 : decode cX9_tryInsert 52 = .ok (.invokevirtual 75, 3) := by decide +kernel
theorem dX9_tryInsert_55 : decode cX9_tryInsert 55 = .ok (.aload_n 0, 1) := by decide +kernel
theorem dX9_tryInsert_56 : decode cX9_tryInsert 56 = .ok (.iload_n 1, 1) := by decide +kernel
theorem dX9_tryInsert_57 : decode cX9_tryInsert 57 = .ok (.iload 5, 2) := by decide +kernel
theorem dX9_tryInsert_59 : decode cX9_tryInsert 59 = .ok (.iconst 1, 1) := by decide +kernel
theorem dX9_tryInsert_60 : decode cX9_tryInsert 60 = .ok (.isub, 1) := by decide +kernel
theorem dX9_tryInsert_61 : decode cX9_tryInsert 61 = .ok (.invokevirtual 79, 3) := by decide +kernel
theorem dX9_tryInsert_64 : decode cX9_tryInsert 64 = .ok (.invokevirtual 52, 3) := by decide +kernel
theorem dX9_tryInsert_67 : decode cX9_tryInsert 67 = .ok (.iinc 5 (-1), 3) := by decide +kernel
theorem dX9_tryInsert_70 : decode cX9_tryInsert 70 = .ok (.goto (-36), 3) := by decide +kernel
theorem dX9_tryInsert_73 : decode cX9_tryInsert 73 = .ok (.aload_n 0, 1) := by decide +kernel
theorem dX9_tryInsert_74 : decode cX9_tryInsert 74 = .ok (.iload_n 1, 1) := by decide +kernel
theorem dX9_tryInsert_75 : decode cX9_tryInsert 75 = .ok (.iload_n 2, 1) := by decide +kernel
theorem dX9_tryInsert_76 : decode cX9_tryInsert 76 = .ok (.iconst 1, 1) := by decide +kernel
theorem dX9_tryInsert_77 : decode cX9_tryInsert 77 = .ok (.iadd, 1) := by decide +kernel
theorem dX9_tryInsert_78 : decode cX9_tryInsert 78 = .ok (.iload_n 3, 1) := by decide +kernel
theorem dX9_tryInsert_79 : decode cX9_tryInsert 79 = .ok (.iload 4, 2) := by decide +kernel
theorem dX9_tryInsert_81 : decode cX9_tryInsert 81 = .ok (.invokevirtual 52, 3) := by decide +kernel
theorem dX9_tryInsert_84 : decode cX9_tryInsert 84 = .ok (.aload_n 0, 1) := by decide +kernel
theorem dX9_tryInsert_85 : decode cX9_tryInsert 85 = .ok (.getfield 7, 3) := by decide +kernel
theorem dX9_tryInsert_88 : decode cX9_tryInsert 88 = .ok (.iconst 1, 1) := by decide +kernel
theorem dX9_tryInsert_89 : decode cX9_tryInsert 89 = .ok (.iload_n 1, 1) := by decide +kernel
theorem dX9_tryInsert_90 : decode cX9_tryInsert 90 = .ok (.iadd, 1) := by decide +kernel
theorem dX9_tryInsert_91 : decode cX9_tryInsert 91 = .ok (.dup2, 1) := by decide +kernel
theorem dX9_tryInsert_92 : decode cX9_tryInsert 92 = .ok (.iaload, 1) := by decide +kernel
theorem dX9_tryInsert_93 : decode cX9_tryInsert 93 = .ok (.iconst 1, 1) := by decide +kernel
theorem dX9_tryInsert_94 : decode cX9_tryInsert 94 = .ok (.iadd, 1) := by decide +kernel
theorem dX9_tryInsert_95 : decode cX9_tryInsert 95 = .ok (.iastore, 1) := by decide +kernel
theorem dX9_tryInsert_96 : decode cX9_tryInsert 96 = .ok (.aload_n 0, 1) := by decide +kernel
theorem dX9_tryInsert_97 : decode cX9_tryInsert 97 = .ok (.invokevirtual 220, 3) := by decide +kernel
theorem dX9_tryInsert_100 : decode cX9_tryInsert 100 = .ok (.ireturn, 1) := by decide +kernel
theorem dX9_tryRemove_0 : decode cX9_tryRemove 0 = .ok (.aload_n 0, 1) := by decide +kernel
theorem dX9_tryRemove_1 : decode cX9_tryRemove 1 = .ok (.iload_n 1, 1) := by decide +kernel
theorem dX9_tryRemove_2 : decode cX9_tryRemove 2 = .ok (.iload_n 2, 1) := by decide +kernel
theorem dX9_tryRemove_3 : decode cX9_tryRemove 3 = .ok (.invokevirtual 211, 3) := by decide +kernel
theorem dX9_tryRemove_6 : decode cX9_tryRemove 6 = .ok (.ifCond .ne 5, 3) := by decide +kernel
theorem dX9_tryRemove_9 : decode cX9_tryRemove 9 = .ok (.iconst 1, 1) := by decide +kernel
theorem dX9_tryRemove_10 : decode cX9_tryRemove 10 = .ok (.ireturn, 1) := by decide +kernel
theorem dX9_tryRemove_11 : decode cX9_tryRemove 11 = .ok (.aload_n 0, 1) := by decide +kernel
theorem dX9_tryRemove_12 : decode cX9_tryRemove 12 = .ok (.iload_n 1, 1) := by decide +kernel
theorem dX9_tryRemove_13 : decode cX9_tryRemove 13 = .ok (.invokevirtual 68, 3) := by decide +kernel
theorem dX9_tryRemove_16 : decode cX9_tryRemove 16 = .ok (.iconst 3, 1) := by decide +kernel
theorem dX9_tryRemove_17 : decode cX9_tryRemove 17 = .ok (.if_icmp .ne 5, 3) := by decide +kernel
theorem dX9_tryRemove_20 : decode cX9_tryRemove 20 = .ok (.iconst 2, 1) := by decide +kernel
theorem dX9_tryRemove_21 : decode cX9_tryRemove 21 = .ok (.ireturn, 1) := by decide +kernel
theorem dX9_tryRemove_22 : decode cX9_tryRemove 22 = .ok (.aload_n 0, 1) := by decide +kernel
theorem dX9_tryRemove_23 : decode cX9_tryRemove 23 = .ok (.invokevirtual 217, 3) := by decide +kernel
theorem dX9_tryRemove_26 : decode cX9_tryRemove 26 = .ok (.iload_n 2, 1) := by decide +kernel
theorem dX9_tryRemove_27 : decode cX9_tryRemove 27 = .ok (.istore_n 3, 1) := by decide +kernel
theorem dX9_tryRemove_28 : decode cX9_tryRemove 28 = .ok (.iload_n 3, 1) := by decide +kernel
theorem dX9_tryRemove_29 : decode cX9_tryRemove 29 = .ok (.iconst 1, 1) := by decide +kernel
theorem dX9_tryRemove_30 : decode cX9_tryRemove 30 = .ok (.iadd, 1) := by decide +kernel
theorem dX9_tryRemove_31 : decode cX9_tryRemove 31 = .ok (.aload_n 0, 1) := by decide +kernel
theorem dX9_tryRemove_32 : decode cX9_tryRemove 32 = .ok (.iload_n 1, 1) := by decide +kernel
theorem dX9_tryRemove_33 : decode cX9_tryRemove 33 = .ok (.invokevirtual 68, 3) := by decide +kernel
theorem dX9_tryRemove_36 : decode cX9_tryRemove 36 = .ok (.if_icmp .ge 31, 3) := by decide +kernel
theorem dX9_tryRemove_39 : decode cX9_tryRemove 39 = .ok (.aload_n 0, 1) := by decide +kernel
theorem dX9_tryRemove_40 : decode cX9_tryRemove 40 = .ok (.iload_n 1, 1) := by decide +kernel
theorem dX9_tryRemove_41 : decode cX9_tryRemove 41 = .ok (.iload_n 3, 1) := by decide +kernel
theorem dX9_tryRemove_42 : decode cX9_tryRemove 42 = .ok (.aload_n 0, 1) := by decide +kernel
theorem dX9_tryRemove_43 : decode cX9_tryRemove 43 = .ok (.iload_n 1, 1) := by decide +kernel
theorem dX9_tryRemove_44 : decode cX9_tryRemove 44 = .ok (.iload_n 3, 1) := by decide +kernel
theorem dX9_tryRemove_45 : decode cX9_tryRemove 45 = .ok (.iconst 1, 1) := by decide +kernel
theorem dX9_tryRemove_46 : decode cX9_tryRemove 46 = .ok (.iadd, 1) := by decide +kernel
theorem dX9_tryRemove_47 : decode cX9_tryRemove 47 = .ok (.invokevirtual 75, 3) := by decide +kernel
theorem dX9_tryRemove_50 : decode cX9_tryRemove 50 = .ok (.aload_n 0, 1) := by decide +kernel
theorem dX9_tryRemove_51 : decode cX9_tryRemove 51 = .ok (.iload_n 1, 1) := by decide +kernel
theorem dX9_tryRemove_52 : decode cX9_tryRemove 52 = .ok (.iload_n 3, 1) := by decide +kernel
theorem dX9_tryRemove_53 : decode cX9_tryRemove 53 = .ok (.iconst 1, 1) := by decide +kernel
theorem dX9_tryRemove_54 : decode cX9_tryRemove 54 = .ok (.iadd, 1) := by decide +kernel
theorem dX9_tryRemove_55 : decode cX9_tryRemove 55 = .ok (.invokevirtual 79, 3) := by decide +kernel
theorem dX9_tryRemove_58 : decode cX9_tryRemove 58 = .ok (.invokevirtual 52, 3) := by decide +kernel
theorem dX9_tryRemove_61 : decode cX9_tryRemove 61 = .ok (.iinc 3 1, 3) := by decide +kernel
theorem dX9_tryRemove_64 : decode cX9_tryRemove 64 = .ok (.goto (-36), 3) := by decide +kernel
theorem dX9_tryRemove_67 : decode cX9_tryRemove 67 = .ok (.aload_n 0, 1) := by decide +kernel
theorem dX9_tryRemove_68 : decode cX9_tryRemove 68 = .ok (.getfield 7, 3) := by decide +kernel
theorem dX9_tryRemove_71 : decode cX9_tryRemove 71 = .ok (.iconst 1, 1) := by decide +kernel
theorem dX9_tryRemove_72 : decode cX9_tryRemove 72 = .ok (.iload_n 1, 1) := by decide +kernel
theorem dX9_tryRemove_73 : decode cX9_tryRemove 73 = .ok (.iadd, 1) := by decide +kernel
theorem dX9_tryRemove_74 : decode cX9_tryRemove 74 = .ok (.dup2, 1) := by decide +kernel
theorem dX9_tryRemove_75 : decode cX9_tryRemove 75 = .ok (.iaload, 1) := by decide +kernel
theorem dX9_tryRemove_76 : decode cX9_tryRemove 76 = .ok (.iconst 1, 1) := by decide +kernel
theorem dX9_tryRemove_77 : decode cX9_tryRemove 77 = .ok (.isub, 1) := by decide +kernel
theorem dX9_tryRemove_78 : decode cX9_tryRemove 78 = .ok (.iastore, 1) := by decide +kernel
theorem dX9_tryRemove_79 : decode cX9_tryRemove 79 = .ok (.aload_n 0, 1) := by decide +kernel
theorem dX9_tryRemove_80 : decode cX9_tryRemove 80 = .ok (.invokevirtual 220, 3) := by decide +kernel
theorem dX9_tryRemove_83 : decode cX9_tryRemove 83 = .ok (.ireturn, 1) := by decide +kernel
theorem dX9_tryHole_0 : decode cX9_tryHole 0 = .ok (.iload_n 1, 1) := by decide +kernel
theorem dX9_tryHole_1 : decode cX9_tryHole 1 = .ok (.iconst 0, 1) := by decide +kernel
theorem dX9_tryHole_2 : decode cX9_tryHole 2 = .ok (.bipush 14, 2) := by decide +kernel
theorem dX9_tryHole_4 : decode cX9_tryHole 4 = .ok (.invokestatic 60, 3) := by decide +kernel
theorem dX9_tryHole_7 : decode cX9_tryHole 7 = .ok (.ifCond .eq 13, 3) := by decide +kernel
theorem dX9_tryHole_10 : decode cX9_tryHole 10 = .ok (.iload_n 2, 1) := by decide +kernel
theorem dX9_tryHole_11 : decode cX9_tryHole 11 = .ok (.iconst 0, 1) := by decide +kernel
theorem dX9_tryHole_12 : decode cX9_tryHole 12 = .ok (.bipush 14, 2) := by decide +kernel
theorem dX9_tryHole_14 : decode cX9_tryHole 14 = .ok (.invokestatic 60, 3) := by decide +kernel
theorem dX9_tryHole_17 : decode cX9_tryHole 17 = .ok (.ifCond .ne 5, 3) := by decide +kernel
theorem dX9_tryHole_20 : decode cX9_tryHole 20 = .ok (.iconst 1, 1) := by decide +kernel
theorem dX9_tryHole_21 : decode cX9_tryHole 21 = .ok (.ireturn, 1) := by decide +kernel
theorem dX9_tryHole_22 : decode cX9_tryHole 22 = .ok (.aload_n 0, 1) := by decide +kernel
theorem dX9_tryHole_23 : decode cX9_tryHole 23 = .ok (.getfield 7, 3) := by decide +kernel
theorem dX9_tryHole_26 : decode cX9_tryHole 26 = .ok (.iconst 0, 1) := by decide +kernel
theorem dX9_tryHole_27 : decode cX9_tryHole 27 = .ok (.iaload, 1) := by decide +kernel
theorem dX9_tryHole_28 : decode cX9_tryHole 28 = .ok (.istore_n 3, 1) := by decide +kernel
theorem dX9_tryHole_29 : decode cX9_tryHole 29 = .ok (.iload_n 3, 1) := by decide +kernel
theorem dX9_tryHole_30 : decode cX9_tryHole 30 = .ok (.iconst 4, 1) := by decide +kernel
theorem dX9_tryHole_31 : decode cX9_tryHole 31 = .ok (.if_icmp .ne 5, 3) := by decide +kernel
theorem dX9_tryHole_34 : decode cX9_tryHole 34 = .ok (.iconst 2, 1) := by decide +kernel
theorem dX9_tryHole_35 : decode cX9_tryHole 35 = .ok (.ireturn, 1) := by decide +kernel
theorem dX9_tryHole_36 : decode cX9_tryHole 36 = .ok (.aload_n 0, 1) := by decide +kernel
theorem dX9_tryHole_37 : decode cX9_tryHole 37 = .ok (.invokevirtual 217, 3) := by decide +kernel
theorem dX9_tryHole_40 : decode cX9_tryHole 40 = .ok (.aload_n 0, 1) := by decide +kernel
theorem dX9_tryHole_41 : decode cX9_tryHole 41 = .ok (.getfield 7, 3) := by decide +kernel
theorem dX9_tryHole_44 : decode cX9_tryHole 44 = .ok (.iconst 0, 1) := by decide +kernel
theorem dX9_tryHole_45 : decode cX9_tryHole 45 = .ok (.dup2, 1) := by decide +kernel
theorem dX9_tryHole_46 : decode cX9_tryHole 46 = .ok (.iaload, 1) := by decide +kernel
theorem dX9_tryHole_47 : decode cX9_tryHole 47 = .ok (.iconst 1, 1) := by decide +kernel
theorem dX9_tryHole_48 : decode cX9_tryHole 48 = .ok (.iadd, 1) := by decide +kernel
theorem dX9_tryHole_49 : decode cX9_tryHole 49 = .ok (.iastore, 1) := by decide +kernel
theorem dX9_tryHole_50 : decode cX9_tryHole 50 = .ok (.aload_n 0, 1) := by decide +kernel
theorem dX9_tryHole_51 : decode cX9_tryHole 51 = .ok (.getfield 7, 3) := by decide +kernel
theorem dX9_tryHole_54 : decode cX9_tryHole 54 = .ok (.iconst 1, 1) := by decide +kernel
theorem dX9_tryHole_55 : decode cX9_tryHole 55 = .ok (.iload_n 3, 1) := by decide +kernel
theorem dX9_tryHole_56 : decode cX9_tryHole 56 = .ok (.iadd, 1) := by decide +kernel
theorem dX9_tryHole_57 : decode cX9_tryHole 57 = .ok (.iconst 3, 1) := by decide +kernel
theorem dX9_tryHole_58 : decode cX9_tryHole 58 = .ok (.iastore, 1) := by decide +kernel
theorem dX9_tryHole_59 : decode cX9_tryHole 59 = .ok (.aload_n 0, 1) := by decide +kernel
theorem dX9_tryHole_60 : decode cX9_tryHole 60 = .ok (.iload_n 3, 1) := by decide +kernel
theorem dX9_tryHole_61 : decode cX9_tryHole 61 = .ok (.iconst 0, 1) := by decide +kernel
theorem dX9_tryHole_62 : decode cX9_tryHole 62 = .ok (.iload_n 1, 1) := by decide +kernel
theorem dX9_tryHole_63 : decode cX9_tryHole 63 = .ok (.iload_n 2, 1) := by decide +kernel
theorem dX9_tryHole_64 : decode cX9_tryHole 64 = .ok (.invokevirtual 52, 3) := by decide +kernel
theorem dX9_tryHole_67 : decode cX9_tryHole 67 = .ok (.aload_n 0, 1) := by decide +kernel
theorem dX9_tryHole_68 : decode cX9_tryHole 68 = .ok (.iload_n 3, 1) := by decide +kernel
theorem dX9_tryHole_69 : decode cX9_tryHole 69 = .ok (.iconst 1, 1) := by decide +kernel
theorem dX9_tryHole_70 : decode cX9_tryHole 70 = .ok (.iload_n 1, 1) := by decide +kernel
theorem dX9_tryHole_71 : decode cX9_tryHole 71 = .ok (.iconst 1, 1) := by decide +kernel
theorem dX9_tryHole_72 : decode cX9_tryHole 72 = .ok (.iadd, 1) := by decide +kernel
theorem dX9_tryHole_73 : decode cX9_tryHole 73 = .ok (.iload_n 2, 1) := by decide +kernel
theorem dX9_tryHole_74 : decode cX9_tryHole 74 = .ok (.invokevirtual 52, 3) := by decide +kernel
theorem dX9_tryHole_77 : decode cX9_tryHole 77 = .ok (.aload_n 0, 1) := by decide +kernel
theorem dX9_tryHole_78 : decode cX9_tryHole 78 = .ok (.iload_n 3, 1) := by decide +kernel
theorem dX9_tryHole_79 : decode cX9_tryHole 79 = .ok (.iconst 2, 1) := by decide +kernel
theorem dX9_tryHole_80 : decode cX9_tryHole 80 = .ok (.iload_n 1, 1) := by decide +kernel
theorem dX9_tryHole_81 : decode cX9_tryHole 81 = .ok (.iload_n 2, 1) := by decide +kernel
theorem dX9_tryHole_82 : decode cX9_tryHole 82 = .ok (.iconst 1, 1) := by decide +kernel
theorem dX9_tryHole_83 : decode cX9_tryHole 83 = .ok (.iadd, 1) := by decide +kernel
theorem dX9_tryHole_84 : decode cX9_tryHole 84 = .ok (.invokevirtual 52, 3) := by decide +kernel
theorem dX9_tryHole_87 : decode cX9_tryHole 87 = .ok (.aload_n 0, 1) := by decide +kernel
theorem dX9_tryHole_88 : decode cX9_tryHole 88 = .ok (.invokevirtual 220, 3) := by decide +kernel
theorem dX9_tryHole_91 : decode cX9_tryHole 91 = .ok (.ireturn, 1) := by decide +kernel
theorem dX9_tryShift_0 : decode cX9_tryShift 0 = .ok (.iload_n 1, 1) := by decide +kernel
theorem dX9_tryShift_1 : decode cX9_tryShift 1 = .ok (.bipush (-15), 2) := by decide +kernel
theorem dX9_tryShift_3 : decode cX9_tryShift 3 = .ok (.bipush 15, 2) := by decide +kernel
theorem dX9_tryShift_5 : decode cX9_tryShift 5 = .ok (.invokestatic 60, 3) := by decide +kernel
theorem dX9_tryShift_8 : decode cX9_tryShift 8 = .ok (.ifCond .eq 14, 3) := by decide +kernel
theorem dX9_tryShift_11 : decode cX9_tryShift 11 = .ok (.iload_n 2, 1) := by decide +kernel
theorem dX9_tryShift_12 : decode cX9_tryShift 12 = .ok (.bipush (-15), 2) := by decide +kernel
theorem dX9_tryShift_14 : decode cX9_tryShift 14 = .ok (.bipush 15, 2) := by decide +kernel
theorem dX9_tryShift_16 : decode cX9_tryShift 16 = .ok (.invokestatic 60, 3) := by decide +kernel
theorem dX9_tryShift_19 : decode cX9_tryShift 19 = .ok (.ifCond .ne 5, 3) := by decide +kernel
theorem dX9_tryShift_22 : decode cX9_tryShift 22 = .ok (.iconst 1, 1) := by decide +kernel
theorem dX9_tryShift_23 : decode cX9_tryShift 23 = .ok (.ireturn, 1) := by decide +kernel
theorem dX9_tryShift_24 : decode cX9_tryShift 24 = .ok (.aload_n 0, 1) := by decide +kernel
theorem dX9_tryShift_25 : decode cX9_tryShift 25 = .ok (.invokevirtual 217, 3) := by decide +kernel
theorem dX9_tryShift_28 : decode cX9_tryShift 28 = .ok (.iconst 0, 1) := by decide +kernel
theorem dX9_tryShift_29 : decode cX9_tryShift 29 = .ok (.istore_n 3, 1) := by decide +kernel
theorem dX9_tryShift_30 : decode cX9_tryShift 30 = .ok (.iload_n 3, 1) := by decide +kernel
theorem dX9_tryShift_31 : decode cX9_tryShift 31 = .ok (.aload_n 0, 1) := by decide +kernel
theorem dX9_tryShift_32 : decode cX9_tryShift 32 = .ok (.getfield 7, 3) := by decide +kernel
theorem dX9_tryShift_35 : decode cX9_tryShift 35 = .ok (.iconst 0, 1) := by decide +kernel
theorem dX9_tryShift_36 : decode cX9_tryShift 36 = .ok (.iaload, 1) := by decide +kernel
theorem dX9_tryShift_37 : decode cX9_tryShift 37 = .ok (.if_icmp .ge 53, 3) := by decide +kernel
theorem dX9_tryShift_40 : decode cX9_tryShift 40 = .ok (.iconst 0, 1) := by decide +kernel
theorem dX9_tryShift_41 : decode cX9_tryShift 41 = .ok (.istore 4, 2) := by decide +kernel
theorem dX9_tryShift_43 : decode cX9_tryShift 43 = .ok (.iload 4, 2) := by decide +kernel
theorem dX9_tryShift_45 : decode cX9_tryShift 45 = .ok (.aload_n 0, 1) := by decide +kernel
theorem dX9_tryShift_46 : decode cX9_tryShift 46 = .ok (.iload_n 3, 1) := by decide +kernel
theorem dX9_tryShift_47 : decode cX9_tryShift 47 = .ok (.invokevirtual 68, 3) := by decide +kernel
theorem dX9_tryShift_50 : decode cX9_tryShift 50 = .ok (.if_icmp .ge 34, 3) := by decide +kernel
theorem dX9_tryShift_53 : decode cX9_tryShift 53 = .ok (.aload_n 0, 1) := by decide +kernel
theorem dX9_tryShift_54 : decode cX9_tryShift 54 = .ok (.iload_n 3, 1) := by decide +kernel
theorem dX9_tryShift_55 : decode cX9_tryShift 55 = .ok (.iload 4, 2) := by decide +kernel
theorem dX9_tryShift_57 : decode cX9_tryShift 57 = .ok (.aload_n 0, 1) := by decide +kernel
theorem dX9_tryShift_58 : decode cX9_tryShift 58 = .ok (.iload_n 3, 1) := by decide +kernel
theorem dX9_tryShift_59 : decode cX9_tryShift 59 = .ok (.iload 4, 2) := by decide +kernel
theorem dX9_tryShift_61 : decode cX9_tryShift 61 = .ok (.invokevirtual 75, 3) := by decide +kernel
theorem dX9_tryShift_64 : decode cX9_tryShift 64 = .ok (.iload_n 1, 1) := by decide +kernel
theorem dX9_tryShift_65 : decode cX9_tryShift 65 = .ok (.iadd, 1) := by decide +kernel
theorem dX9_tryShift_66 : decode cX9_tryShift 66 = .ok (.aload_n 0, 1) := by decide +kernel
theorem dX9_tryShift_67 : decode cX9_tryShift 67 = .ok (.iload_n 3, 1) := by decide +kernel
theorem dX9_tryShift_68 : decode cX9_tryShift 68 = .ok (.iload 4, 2) := by decide +kernel
theorem dX9_tryShift_70 : decode cX9_tryShift 70 = .ok (.invokevirtual 79, 3) := by decide +kernel
theorem dX9_tryShift_73 : decode cX9_tryShift 73 = .ok (.iload_n 2, 1) := by decide +kernel
theorem dX9_tryShift_74 : decode cX9_tryShift 74 = .ok (.iadd, 1) := by decide +kernel
theorem dX9_tryShift_75 : decode cX9_tryShift 75 = .ok (.invokevirtual 52, 3) := by decide +kernel
theorem dX9_tryShift_78 : decode cX9_tryShift 78 = .ok (.iinc 4 1, 3) := by decide +kernel
theorem dX9_tryShift_81 : decode cX9_tryShift 81 = .ok (.goto (-38), 3) := by decide +kernel
theorem dX9_tryShift_84 : decode cX9_tryShift 84 = .ok (.iinc 3 1, 3) := by decide +kernel
theorem dX9_tryShift_87 : decode cX9_tryShift 87 = .ok (.goto (-57), 3) := by decide +kernel
theorem dX9_tryShift_90 : decode cX9_tryShift 90 = .ok (.aload_n 0, 1) := by decide +kernel
theorem dX9_tryShift_91 : decode cX9_tryShift 91 = .ok (.invokevirtual 220, 3) := by decide +kernel
theorem dX9_tryShift_94 : decode cX9_tryShift 94 = .ok (.ireturn, 1) := by decide +kernel
theorem dX9_turned_0 : decode cX9_turned 0 = .ok (.aload_n 0, 1) := by decide +kernel
theorem dX9_turned_1 : decode cX9_turned 1 = .ok (.invokevirtual 217, 3) := by decide +kernel
theorem dX9_turned_4 : decode cX9_turned 4 = .ok (.iconst 0, 1) := by decide +kernel
theorem dX9_turned_5 : decode cX9_turned 5 = .ok (.istore_n 2, 1) := by decide +kernel
theorem dX9_turned_6 : decode cX9_turned 6 = .ok (.iload_n 2, 1) := by decide +kernel
theorem dX9_turned_7 : decode cX9_turned 7 = .ok (.aload_n 0, 1) := by decide +kernel
theorem dX9_turned_8 : decode cX9_turned 8 = .ok (.getfield 7, 3) := by decide +kernel
theorem dX9_turned_11 : decode cX9_turned 11 = .ok (.iconst 0, 1) := by decide +kernel
theorem dX9_turned_12 : decode cX9_turned 12 = .ok (.iaload, 1) := by decide +kernel
theorem dX9_turned_13 : decode cX9_turned 13 = .ok (.if_icmp .ge 76, 3) := by decide +kernel
theorem dX9_turned_16 : decode cX9_turned 16 = .ok (.iconst 0, 1) := by decide +kernel
theorem dX9_turned_17 : decode cX9_turned 17 = .ok (.istore_n 3, 1) := by decide +kernel
theorem dX9_turned_18 : decode cX9_turned 18 = .ok (.iload_n 3, 1) := by decide +kernel
theorem dX9_turned_19 : decode cX9_turned 19 = .ok (.aload_n 0, 1) := by decide +kernel
theorem dX9_turned_20 : decode cX9_turned 20 = .ok (.iload_n 2, 1) := by decide +kernel
theorem dX9_turned_21 : decode cX9_turned 21 = .ok (.invokevirtual 68, 3) := by decide +kernel
theorem dX9_turned_24 : decode cX9_turned 24 = .ok (.if_icmp .ge 59, 3) := by decide +kernel
theorem dX9_turned_27 : decode cX9_turned 27 = .ok (.aload_n 0, 1) := by decide +kernel
theorem dX9_turned_28 : decode cX9_turned 28 = .ok (.iload_n 2, 1) := by decide +kernel
theorem dX9_turned_29 : decode cX9_turned 29 = .ok (.iload_n 3, 1) := by decide +kernel
theorem dX9_turned_30 : decode cX9_turned 30 = .ok (.invokevirtual 75, 3) := by decide +kernel
theorem dX9_turned_33 : decode cX9_turned 33 = .ok (.istore 4, 2) := by decide +kernel
theorem dX9_turned_35 : decode cX9_turned 35 = .ok (.aload_n 0, 1) := by decide +kernel
theorem dX9_turned_36 : decode cX9_turned 36 = .ok (.iload_n 2, 1) := by decide +kernel
theorem dX9_turned_37 : decode cX9_turned 37 = .ok (.iload_n 3, 1) := by decide +kernel
theorem dX9_turned_38 : decode cX9_turned 38 = .ok (.invokevirtual 79, 3) := by decide +kernel
theorem dX9_turned_41 : decode cX9_turned 41 = .ok (.istore 5, 2) := by decide +kernel
theorem dX9_turned_43 : decode cX9_turned 43 = .ok (.aload_n 0, 1) := by decide +kernel
theorem dX9_turned_44 : decode cX9_turned 44 = .ok (.iload_n 2, 1) := by decide +kernel
theorem dX9_turned_45 : decode cX9_turned 45 = .ok (.iload_n 3, 1) := by decide +kernel
theorem dX9_turned_46 : decode cX9_turned 46 = .ok (.iload_n 1, 1) := by decide +kernel
theorem dX9_turned_47 : decode cX9_turned 47 = .ok (.ifCond .eq 11, 3) := by decide +kernel
theorem dX9_turned_50 : decode cX9_turned 50 = .ok (.bipush 15, 2) := by decide +kernel
theorem dX9_turned_52 : decode cX9_turned 52 = .ok (.iload 4, 2) := by decide +kernel
theorem dX9_turned_54 : decode cX9_turned 54 = .ok (.isub, 1) := by decide +kernel
theorem dX9_turned_55 : decode cX9_turned 55 = .ok (.goto 8, 3) := by decide +kernel
theorem dX9_turned_58 : decode cX9_turned 58 = .ok (.bipush 15, 2) := by decide +kernel
theorem dX9_turned_60 : decode cX9_turned 60 = .ok (.iload 5, 2) := by decide +kernel
theorem dX9_turned_62 : decode cX9_turned 62 = .ok (.isub, 1) := by decide +kernel
theorem dX9_turned_63 : decode cX9_turned 63 = .ok (.iload_n 1, 1) := by decide +kernel
theorem dX9_turned_64 : decode cX9_turned 64 = .ok (.ifCond .eq 8, 3) := by decide +kernel
theorem dX9_turned_67 : decode cX9_turned 67 = .ok (.iload 5, 2) := by decide +kernel
theorem dX9_turned_69 : decode cX9_turned 69 = .ok (.goto 5, 3) := by decide +kernel
theorem dX9_turned_72 : decode cX9_turned 72 = .ok (.iload 4, 2) := by decide +kernel
theorem dX9_turned_74 : decode cX9_turned 74 = .ok (.invokevirtual 52, 3) := by decide +kernel
theorem dX9_turned_77 : decode cX9_turned 77 = .ok (.iinc 3 1, 3) := by decide +kernel
theorem dX9_turned_80 : decode cX9_turned 80 = .ok (.goto (-62), 3) := by decide +kernel
theorem dX9_turned_83 : decode cX9_turned 83 = .ok (.iinc 2 1, 3) := by decide +kernel
theorem dX9_turned_86 : decode cX9_turned 86 = .ok (.goto (-80), 3) := by decide +kernel
theorem dX9_turned_89 : decode cX9_turned 89 = .ok (.return_, 1) := by decide +kernel
theorem dX9_greatestX_0 : decode cX9_greatestX 0 = .ok (.iconst 0, 1) := by decide +kernel
theorem dX9_greatestX_1 : decode cX9_greatestX 1 = .ok (.istore_n 1, 1) := by decide +kernel
theorem dX9_greatestX_2 : decode cX9_greatestX 2 = .ok (.iconst 0, 1) := by decide +kernel
theorem dX9_greatestX_3 : decode cX9_greatestX 3 = .ok (.istore_n 2, 1) := by decide +kernel
theorem dX9_greatestX_4 : decode cX9_greatestX 4 = .ok (.iload_n 2, 1) := by decide +kernel
theorem dX9_greatestX_5 : decode cX9_greatestX 5 = .ok (.aload_n 0, 1) := by decide +kernel
theorem dX9_greatestX_6 : decode cX9_greatestX 6 = .ok (.getfield 7, 3) := by decide +kernel
theorem dX9_greatestX_9 : decode cX9_greatestX 9 = .ok (.iconst 0, 1) := by decide +kernel
theorem dX9_greatestX_10 : decode cX9_greatestX 10 = .ok (.iaload, 1) := by decide +kernel
theorem dX9_greatestX_11 : decode cX9_greatestX 11 = .ok (.if_icmp .ge 47, 3) := by decide +kernel
theorem dX9_greatestX_14 : decode cX9_greatestX 14 = .ok (.iconst 0, 1) := by decide +kernel
theorem dX9_greatestX_15 : decode cX9_greatestX 15 = .ok (.istore_n 3, 1) := by decide +kernel
theorem dX9_greatestX_16 : decode cX9_greatestX 16 = .ok (.iload_n 3, 1) := by decide +kernel
theorem dX9_greatestX_17 : decode cX9_greatestX 17 = .ok (.aload_n 0, 1) := by decide +kernel
theorem dX9_greatestX_18 : decode cX9_greatestX 18 = .ok (.iload_n 2, 1) := by decide +kernel
theorem dX9_greatestX_19 : decode cX9_greatestX 19 = .ok (.invokevirtual 68, 3) := by decide +kernel
theorem dX9_greatestX_22 : decode cX9_greatestX 22 = .ok (.if_icmp .ge 30, 3) := by decide +kernel
theorem dX9_greatestX_25 : decode cX9_greatestX 25 = .ok (.aload_n 0, 1) := by decide +kernel
theorem dX9_greatestX_26 : decode cX9_greatestX 26 = .ok (.iload_n 2, 1) := by decide +kernel
theorem dX9_greatestX_27 : decode cX9_greatestX 27 = .ok (.iload_n 3, 1) := by decide +kernel
theorem dX9_greatestX_28 : decode cX9_greatestX 28 = .ok (.invokevirtual 75, 3) := by decide +kernel
theorem dX9_greatestX_31 : decode cX9_greatestX 31 = .ok (.iload_n 1, 1) := by decide +kernel
theorem dX9_greatestX_32 : decode cX9_greatestX 32 = .ok (.if_icmp .le 12, 3) := by decide +kernel
theorem dX9_greatestX_35 : decode cX9_greatestX 35 = .ok (.aload_n 0, 1) := by decide +kernel
theorem dX9_greatestX_36 : decode cX9_greatestX 36 = .ok (.iload_n 2, 1) := by decide +kernel
theorem dX9_greatestX_37 : decode cX9_greatestX 37 = .ok (.iload_n 3, 1) := by decide +kernel
theorem dX9_greatestX_38 : decode cX9_greatestX 38 = .ok (.invokevirtual 75, 3) := by decide +kernel
theorem dX9_greatestX_41 : decode cX9_greatestX 41 = .ok (.goto 4, 3) := by decide +kernel
theorem dX9_greatestX_44 : decode cX9_greatestX 44 = .ok (.iload_n 1, 1) := by decide +kernel
theorem dX9_greatestX_45 : decode cX9_greatestX 45 = .ok (.istore_n 1, 1) := by decide +kernel
theorem dX9_greatestX_46 : decode cX9_greatestX 46 = .ok (.iinc 3 1, 3) := by decide +kernel
theorem dX9_greatestX_49 : decode cX9_greatestX 49 = .ok (.goto (-33), 3) := by decide +kernel
theorem dX9_greatestX_52 : decode cX9_greatestX 52 = .ok (.iinc 2 1, 3) := by decide +kernel
theorem dX9_greatestX_55 : decode cX9_greatestX 55 = .ok (.goto (-51), 3) := by decide +kernel
theorem dX9_greatestX_58 : decode cX9_greatestX 58 = .ok (.iload_n 1, 1) := by decide +kernel
theorem dX9_greatestX_59 : decode cX9_greatestX 59 = .ok (.ireturn, 1) := by decide +kernel
theorem dX9_move_0 : decode cX9_move 0 = .ok (.aload_n 0, 1) := by decide +kernel
theorem dX9_move_1 : decode cX9_move 1 = .ok (.aload_n 0, 1) := by decide +kernel
theorem dX9_move_2 : decode cX9_move 2 = .ok (.iload_n 1, 1) := by decide +kernel
theorem dX9_move_3 : decode cX9_move 3 = .ok (.iload_n 2, 1) := by decide +kernel
theorem dX9_move_4 : decode cX9_move 4 = .ok (.iload_n 3, 1) := by decide +kernel
theorem dX9_move_5 : decode cX9_move 5 = .ok (.iload 4, 2) := by decide +kernel
theorem dX9_move_7 : decode cX9_move 7 = .ok (.invokevirtual 223, 3) := by decide +kernel
theorem dX9_move_10 : decode cX9_move 10 = .ok (.putfield 56, 3) := by decide +kernel
theorem dX9_move_13 : decode cX9_move 13 = .ok (.aload_n 0, 1) := by decide +kernel
theorem dX9_move_14 : decode cX9_move 14 = .ok (.getfield 56, 3) := by decide +kernel
theorem dX9_move_17 : decode cX9_move 17 = .ok (.ifCond .le 5, 3) := by decide +kernel
theorem dX9_move_20 : decode cX9_move 20 = .ok (.iconst 0, 1) := by decide +kernel
theorem dX9_move_21 : decode cX9_move 21 = .ok (.ireturn, 1) := by decide +kernel
theorem dX9_move_22 : decode cX9_move 22 = .ok (.aload_n 0, 1) := by decide +kernel
theorem dX9_move_23 : decode cX9_move 23 = .ok (.invokevirtual 227, 3) := by decide +kernel
theorem dX9_move_26 : decode cX9_move 26 = .ok (.aload_n 0, 1) := by decide +kernel
theorem dX9_move_27 : decode cX9_move 27 = .ok (.invokevirtual 184, 3) := by decide +kernel
theorem dX9_move_30 : decode cX9_move 30 = .ok (.ireturn, 1) := by decide +kernel
theorem dX9_insert_0 : decode cX9_insert 0 = .ok (.aload_n 0, 1) := by decide +kernel
theorem dX9_insert_1 : decode cX9_insert 1 = .ok (.aload_n 0, 1) := by decide +kernel
theorem dX9_insert_2 : decode cX9_insert 2 = .ok (.iload_n 1, 1) := by decide +kernel
theorem dX9_insert_3 : decode cX9_insert 3 = .ok (.iload_n 2, 1) := by decide +kernel
theorem dX9_insert_4 : decode cX9_insert 4 = .ok (.iload_n 3, 1) := by decide +kernel
theorem dX9_insert_5 : decode cX9_insert 5 = .ok (.iload 4, 2) := by decide +kernel
theorem dX9_insert_7 : decode cX9_insert 7 = .ok (.invokevirtual 230, 3) := by decide +kernel
theorem dX9_insert_10 : decode cX9_insert 10 = .ok (.putfield 56, 3) := by decide +kernel
theorem dX9_insert_13 : decode cX9_insert 13 = .ok (.aload_n 0, 1) := by decide +kernel
theorem dX9_insert_14 : decode cX9_insert 14 = .ok (.getfield 56, 3) := by decide +kernel
theorem dX9_insert_17 : decode cX9_insert 17 = .ok (.ifCond .le 5, 3) := by decide +kernel
theorem dX9_insert_20 : decode cX9_insert 20 = .ok (.iconst 0, 1) := by decide +kernel
theorem dX9_insert_21 : decode cX9_insert 21 = .ok (.ireturn, 1) := by decide +kernel
theorem dX9_insert_22 : decode cX9_insert 22 = .ok (.aload_n 0, 1) := by decide +kernel
theorem dX9_insert_23 : decode cX9_insert 23 = .ok (.invokevirtual 227, 3) := by decide +kernel
theorem dX9_insert_26 : decode cX9_insert 26 = .ok (.aload_n 0, 1) := by decide +kernel
theorem dX9_insert_27 : decode cX9_insert 27 = .ok (.invokevirtual 184, 3) := by decide +kernel
theorem dX9_insert_30 : decode cX9_insert 30 = .ok (.ireturn, 1) := by decide +kernel
theorem dX9_remove_0 : decode cX9_remove 0 = .ok (.aload_n 0, 1) := by decide +kernel
theorem dX9_remove_1 : decode cX9_remove 1 = .ok (.aload_n 0, 1) := by decide +kernel
theorem dX9_remove_2 : decode cX9_remove 2 = .ok (.iload_n 1, 1) := by decide +kernel
theorem dX9_remove_3 : decode cX9_remove 3 = .ok (.iload_n 2, 1) := by decide +kernel
theorem dX9_remove_4 : decode cX9_remove 4 = .ok (.invokevirtual 233, 3) := by decide +kernel
theorem dX9_remove_7 : decode cX9_remove 7 = .ok (.putfield 56, 3) := by decide +kernel
theorem dX9_remove_10 : decode cX9_remove 10 = .ok (.aload_n 0, 1) := by decide +kernel
theorem dX9_remove_11 : decode cX9_remove 11 = .ok (.getfield 56, 3) := by decide +kernel
theorem dX9_remove_14 : decode cX9_remove 14 = .ok (.ifCond .le 5, 3) := by decide +kernel
theorem dX9_remove_17 : decode cX9_remove 17 = .ok (.iconst 0, 1) := by decide +kernel
theorem dX9_remove_18 : decode cX9_remove 18 = .ok (.ireturn, 1) := by decide +kernel
theorem dX9_remove_19 : decode cX9_remove 19 = .ok (.aload_n 0, 1) := by decide +kernel
theorem dX9_remove_20 : decode cX9_remove 20 = .ok (.invokevirtual 227, 3) := by decide +kernel
theorem dX9_remove_23 : decode cX9_remove 23 = .ok (.aload_n 0, 1) := by decide +kernel
theorem dX9_remove_24 : decode cX9_remove 24 = .ok (.invokevirtual 184, 3) := by decide +kernel
theorem dX9_remove_27 : decode cX9_remove 27 = .ok (.ireturn, 1) := by decide +kernel
theorem dX9_addHole_0 : decode cX9_addHole 0 = .ok (.aload_n 0, 1) := by decide +kernel
theorem dX9_addHole_1 : decode cX9_addHole 1 = .ok (.aload_n 0, 1) := by decide +kernel
theorem dX9_addHole_2 : decode cX9_addHole 2 = .ok (.iload_n 1, 1) := by decide +kernel
theorem dX9_addHole_3 : decode cX9_addHole 3 = .ok (.iload_n 2, 1) := by decide +kernel
theorem dX9_addHole_4 : decode cX9_addHole 4 = .ok (.invokevirtual 236, 3) := by decide +kernel
theorem dX9_addHole_7 : decode cX9_addHole 7 = .ok (.putfield 56, 3) := by decide +kernel
theorem dX9_addHole_10 : decode cX9_addHole 10 = .ok (.aload_n 0, 1) := by decide +kernel
theorem dX9_addHole_11 : decode cX9_addHole 11 = .ok (.getfield 56, 3) := by decide +kernel
theorem dX9_addHole_14 : decode cX9_addHole 14 = .ok (.ifCond .le 5, 3) := by decide +kernel
theorem dX9_addHole_17 : decode cX9_addHole 17 = .ok (.iconst 0, 1) := by decide +kernel
theorem dX9_addHole_18 : decode cX9_addHole 18 = .ok (.ireturn, 1) := by decide +kernel
theorem dX9_addHole_19 : decode cX9_addHole 19 = .ok (.aload_n 0, 1) := by decide +kernel
theorem dX9_addHole_20 : decode cX9_addHole 20 = .ok (.invokevirtual 227, 3) := by decide +kernel
theorem dX9_addHole_23 : decode cX9_addHole 23 = .ok (.aload_n 0, 1) := by decide +kernel
theorem dX9_addHole_24 : decode cX9_addHole 24 = .ok (.getfield 7, 3) := by decide +kernel
theorem dX9_addHole_27 : decode cX9_addHole 27 = .ok (.iconst 0, 1) := by decide +kernel
theorem dX9_addHole_28 : decode cX9_addHole 28 = .ok (.iaload, 1) := by decide +kernel
theorem dX9_addHole_29 : decode cX9_addHole 29 = .ok (.iconst 1, 1) := by decide +kernel
theorem dX9_addHole_30 : decode cX9_addHole 30 = .ok (.isub, 1) := by decide +kernel
theorem dX9_addHole_31 : decode cX9_addHole 31 = .ok (.ireturn, 1) := by decide +kernel
theorem dX9_dropHole_0 : decode cX9_dropHole 0 = .ok (.aload_n 0, 1) := by decide +kernel
theorem dX9_dropHole_1 : decode cX9_dropHole 1 = .ok (.aload_n 0, 1) := by decide +kernel
theorem dX9_dropHole_2 : decode cX9_dropHole 2 = .ok (.iload_n 1, 1) := by decide +kernel
theorem dX9_dropHole_3 : decode cX9_dropHole 3 = .ok (.invokevirtual 64, 3) := by decide +kernel
theorem dX9_dropHole_6 : decode cX9_dropHole 6 = .ok (.ifCond .ne 7, 3) := by decide +kernel
theorem dX9_dropHole_9 : decode cX9_dropHole 9 = .ok (.iconst 1, 1) := by decide +kernel
theorem dX9_dropHole_10 : decode cX9_dropHole 10 = .ok (.goto 12, 3) := by decide +kernel
theorem dX9_dropHole_13 : decode cX9_dropHole 13 = .ok (.iload_n 1, 1) := by decide +kernel
theorem dX9_dropHole_14 : decode cX9_dropHole 14 = .ok (.ifCond .ne 7, 3) := by decide +kernel
