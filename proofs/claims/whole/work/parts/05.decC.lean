theorem dX12_init_0 : decode cX12_init 0 = .ok (.aload_n 0, 1) := by decide +kernel
theorem dX12_init_1 : decode cX12_init 1 = .ok (.invokespecial 1, 3) := by decide +kernel
theorem dX12_init_4 : decode cX12_init 4 = .ok (.aload_n 0, 1) := by decide +kernel
theorem dX12_init_5 : decode cX12_init 5 = .ok (.sipush 400, 3) := by decide +kernel
theorem dX12_init_8 : decode cX12_init 8 = .ok (.newarray .byte, 2) := by decide +kernel
theorem dX12_init_10 : decode cX12_init 10 = .ok (.putfield 7, 3) := by decide +kernel
theorem dX12_init_13 : decode cX12_init 13 = .ok (.aload_n 0, 1) := by decide +kernel
theorem dX12_init_14 : decode cX12_init 14 = .ok (.iconst 2, 1) := by decide +kernel
theorem dX12_init_15 : decode cX12_init 15 = .ok (.newarray .int, 2) := by decide +kernel
theorem dX12_init_17 : decode cX12_init 17 = .ok (.putfield 13, 3) := by decide +kernel
theorem dX12_init_20 : decode cX12_init 20 = .ok (.aload_n 0, 1) := by decide +kernel
theorem dX12_init_21 : decode cX12_init 21 = .ok (.sipush 4800, 3) := by decide +kernel
theorem dX12_init_24 : decode cX12_init 24 = .ok (.newarray .int, 2) := by decide +kernel
theorem dX12_init_26 : decode cX12_init 26 = .ok (.putfield 17, 3) := by decide +kernel
theorem dX12_init_29 : decode cX12_init 29 = .ok (.aload_n 0, 1) := by decide +kernel
theorem dX12_init_30 : decode cX12_init 30 = .ok (.bipush 13, 2) := by decide +kernel
theorem dX12_init_32 : decode cX12_init 32 = .ok (.newarray .int, 2) := by decide +kernel
theorem dX12_init_34 : decode cX12_init 34 = .ok (.putfield 20, 3) := by decide +kernel
theorem dX12_init_37 : decode cX12_init 37 = .ok (.aload_n 0, 1) := by decide +kernel
theorem dX12_init_38 : decode cX12_init 38 = .ok (.sipush 720, 3) := by decide +kernel
theorem dX12_init_41 : decode cX12_init 41 = .ok (.newarray .int, 2) := by decide +kernel
theorem dX12_init_43 : decode cX12_init 43 = .ok (.putfield 23, 3) := by decide +kernel
theorem dX12_init_46 : decode cX12_init 46 = .ok (.aload_n 0, 1) := by decide +kernel
theorem dX12_init_47 : decode cX12_init 47 = .ok (.bipush 12, 2) := by decide +kernel
theorem dX12_init_49 : decode cX12_init 49 = .ok (.newarray .int, 2) := by decide +kernel
theorem dX12_init_51 : decode cX12_init 51 = .ok (.putfield 26, 3) := by decide +kernel
theorem dX12_init_54 : decode cX12_init 54 = .ok (.aload_n 0, 1) := by decide +kernel
theorem dX12_init_55 : decode cX12_init 55 = .ok (.bipush 12, 2) := by decide +kernel
theorem dX12_init_57 : decode cX12_init 57 = .ok (.newarray .int, 2) := by decide +kernel
theorem dX12_init_59 : decode cX12_init 59 = .ok (.putfield 29, 3) := by decide +kernel
theorem dX12_init_62 : decode cX12_init 62 = .ok (.aload_n 0, 1) := by decide +kernel
theorem dX12_init_63 : decode cX12_init 63 = .ok (.sipush 1600, 3) := by decide +kernel
theorem dX12_init_66 : decode cX12_init 66 = .ok (.newarray .int, 2) := by decide +kernel
theorem dX12_init_68 : decode cX12_init 68 = .ok (.putfield 32, 3) := by decide +kernel
theorem dX12_init_71 : decode cX12_init 71 = .ok (.aload_n 0, 1) := by decide +kernel
theorem dX12_init_72 : decode cX12_init 72 = .ok (.bipush 24, 2) := by decide +kernel
theorem dX12_init_74 : decode cX12_init 74 = .ok (.newarray .int, 2) := by decide +kernel
theorem dX12_init_76 : decode cX12_init 76 = .ok (.putfield 35, 3) := by decide +kernel
theorem dX12_init_79 : decode cX12_init 79 = .ok (.aload_n 0, 1) := by decide +kernel
theorem dX12_init_80 : decode cX12_init 80 = .ok (.sipush 400, 3) := by decide +kernel
theorem dX12_init_83 : decode cX12_init 83 = .ok (.newarray .int, 2) := by decide +kernel
theorem dX12_init_85 : decode cX12_init 85 = .ok (.putfield 38, 3) := by decide +kernel
theorem dX12_init_88 : decode cX12_init 88 = .ok (.aload_n 0, 1) := by decide +kernel
theorem dX12_init_89 : decode cX12_init 89 = .ok (.bipush 64, 2) := by decide +kernel
theorem dX12_init_91 : decode cX12_init 91 = .ok (.newarray .long, 2) := by decide +kernel
theorem dX12_init_93 : decode cX12_init 93 = .ok (.putfield 41, 3) := by decide +kernel
theorem dX12_init_96 : decode cX12_init 96 = .ok (.aload_n 0, 1) := by decide +kernel
theorem dX12_init_97 : decode cX12_init 97 = .ok (.bipush 12, 2) := by decide +kernel
theorem dX12_init_99 : decode cX12_init 99 = .ok (.newarray .long, 2) := by decide +kernel
theorem dX12_init_101 : decode cX12_init 101 = .ok (.putfield 45, 3) := by decide +kernel
theorem dX12_init_104 : decode cX12_init 104 = .ok (.aload_n 0, 1) := by decide +kernel
theorem dX12_init_105 : decode cX12_init 105 = .ok (.sipush 2440, 3) := by decide +kernel
theorem dX12_init_108 : decode cX12_init 108 = .ok (.newarray .int, 2) := by decide +kernel
theorem dX12_init_110 : decode cX12_init 110 = .ok (.putfield 48, 3) := by decide +kernel
theorem dX12_init_113 : decode cX12_init 113 = .ok (.aload_n 0, 1) := by decide +kernel
theorem dX12_init_114 : decode cX12_init 114 = .ok (.sipush 2440, 3) := by decide +kernel
theorem dX12_init_117 : decode cX12_init 117 = .ok (.newarray .int, 2) := by decide +kernel
theorem dX12_init_119 : decode cX12_init 119 = .ok (.putfield 51, 3) := by decide +kernel
theorem dX12_init_122 : decode cX12_init 122 = .ok (.aload_n 0, 1) := by decide +kernel
theorem dX12_init_123 : decode cX12_init 123 = .ok (.sipush 1600, 3) := by decide +kernel
theorem dX12_init_126 : decode cX12_init 126 = .ok (.newarray .int, 2) := by decide +kernel
theorem dX12_init_128 : decode cX12_init 128 = .ok (.putfield 54, 3) := by decide +kernel
theorem dX12_init_131 : decode cX12_init 131 = .ok (.aload_n 0, 1) := by decide +kernel
theorem dX12_init_132 : decode cX12_init 132 = .ok (.sipush 1600, 3) := by decide +kernel
theorem dX12_init_135 : decode cX12_init 135 = .ok (.newarray .int, 2) := by decide +kernel
theorem dX12_init_137 : decode cX12_init 137 = .ok (.putfield 57, 3) := by decide +kernel
theorem dX12_init_140 : decode cX12_init 140 = .ok (.aload_n 0, 1) := by decide +kernel
theorem dX12_init_141 : decode cX12_init 141 = .ok (.sipush 1600, 3) := by decide +kernel
theorem dX12_init_144 : decode cX12_init 144 = .ok (.newarray .int, 2) := by decide +kernel
theorem dX12_init_146 : decode cX12_init 146 = .ok (.putfield 60, 3) := by decide +kernel
theorem dX12_init_149 : decode cX12_init 149 = .ok (.aload_n 0, 1) := by decide +kernel
theorem dX12_init_150 : decode cX12_init 150 = .ok (.sipush 1600, 3) := by decide +kernel
theorem dX12_init_153 : decode cX12_init 153 = .ok (.newarray .boolean, 2) := by decide +kernel
theorem dX12_init_155 : decode cX12_init 155 = .ok (.putfield 63, 3) := by decide +kernel
theorem dX12_init_158 : decode cX12_init 158 = .ok (.aload_n 0, 1) := by decide +kernel
theorem dX12_init_159 : decode cX12_init 159 = .ok (.sipush 9760, 3) := by decide +kernel
theorem dX12_init_162 : decode cX12_init 162 = .ok (.newarray .int, 2) := by decide +kernel
theorem dX12_init_164 : decode cX12_init 164 = .ok (.putfield 67, 3) := by decide +kernel
theorem dX12_init_167 : decode cX12_init 167 = .ok (.aload_n 0, 1) := by decide +kernel
theorem dX12_init_168 : decode cX12_init 168 = .ok (.iconst 4, 1) := by decide +kernel
theorem dX12_init_169 : decode cX12_init 169 = .ok (.newarray .boolean, 2) := by decide +kernel
theorem dX12_init_171 : decode cX12_init 171 = .ok (.putfield 70, 3) := by decide +kernel
theorem dX12_init_174 : decode cX12_init 174 = .ok (.aload_n 0, 1) := by decide +kernel
theorem dX12_init_175 : decode cX12_init 175 = .ok (.getfield 48, 3) := by decide +kernel
theorem dX12_init_178 : decode cX12_init 178 = .ok (.iconst 0, 1) := by decide +kernel
theorem dX12_init_179 : decode cX12_init 179 = .ok (.bipush 20, 2) := by decide +kernel
theorem dX12_init_181 : decode cX12_init 181 = .ok (.iastore, 1) := by decide +kernel
theorem dX12_init_182 : decode cX12_init 182 = .ok (.aload_n 0, 1) := by decide +kernel
theorem dX12_init_183 : decode cX12_init 183 = .ok (.getfield 48, 3) := by decide +kernel
theorem dX12_init_186 : decode cX12_init 186 = .ok (.iconst 1, 1) := by decide +kernel
theorem dX12_init_187 : decode cX12_init 187 = .ok (.bipush 20, 2) := by decide +kernel
theorem dX12_init_189 : decode cX12_init 189 = .ok (.iastore, 1) := by decide +kernel
theorem dX12_init_190 : decode cX12_init 190 = .ok (.iconst 0, 1) := by decide +kernel
theorem dX12_init_191 : decode cX12_init 191 = .ok (.istore_n 1, 1) := by decide +kernel
theorem dX12_init_192 : decode cX12_init 192 = .ok (.iload_n 1, 1) := by decide +kernel
theorem dX12_init_193 : decode cX12_init 193 = .ok (.sipush 1600, 3) := by decide +kernel
theorem dX12_init_196 : decode cX12_init 196 = .ok (.if_icmp .ge 19, 3) := by decide +kernel
theorem dX12_init_199 : decode cX12_init 199 = .ok (.aload_n 0, 1) := by decide +kernel
theorem dX12_init_200 : decode cX12_init 200 = .ok (.getfield 48, 3) := by decide +kernel
theorem dX12_init_203 : decode cX12_init 203 = .ok (.bipush 8, 2) := by decide +kernel
theorem dX12_init_205 : decode cX12_init 205 = .ok (.iload_n 1, 1) := by decide +kernel
theorem dX12_init_206 : decode cX12_init 206 = .ok (.iadd, 1) := by decide +kernel
theorem dX12_init_207 : decode cX12_init 207 = .ok (.iconst 1, 1) := by decide +kernel
theorem dX12_init_208 : decode cX12_init 208 = .ok (.iastore, 1) := by decide +kernel
theorem dX12_init_209 : decode cX12_init 209 = .ok (.iinc 1 1, 3) := by decide +kernel
theorem dX12_init_212 : decode cX12_init 212 = .ok (.goto (-20), 3) := by decide +kernel
theorem dX12_init_215 : decode cX12_init 215 = .ok (.return_, 1) := by decide +kernel
theorem dX12_bounded_0 : decode cX12_bounded 0 = .ok (.lload_n 0, 1) := by decide +kernel
theorem dX12_bounded_1 : decode cX12_bounded 1 = .ok (.lload_n 2, 1) := by decide +kernel
theorem dX12_bounded_2 : decode cX12_bounded 2 = .ok (.lcmp, 1) := by decide +kernel
theorem dX12_bounded_3 : decode cX12_bounded 3 = .ok (.ifCond .ge 7, 3) := by decide +kernel
theorem dX12_bounded_6 : decode cX12_bounded 6 = .ok (.lload_n 2, 1) := by decide +kernel
theorem dX12_bounded_7 : decode cX12_bounded 7 = .ok (.goto 16, 3) := by decide +kernel
theorem dX12_bounded_10 : decode cX12_bounded 10 = .ok (.lload_n 0, 1) := by decide +kernel
theorem dX12_bounded_11 : decode cX12_bounded 11 = .ok (.lload 4, 2) := by decide +kernel
theorem dX12_bounded_13 : decode cX12_bounded 13 = .ok (.lcmp, 1) := by decide +kernel
theorem dX12_bounded_14 : decode cX12_bounded 14 = .ok (.ifCond .le 8, 3) := by decide +kernel
theorem dX12_bounded_17 : decode cX12_bounded 17 = .ok (.lload 4, 2) := by decide +kernel
theorem dX12_bounded_19 : decode cX12_bounded 19 = .ok (.goto 4, 3) := by decide +kernel
theorem dX12_bounded_22 : decode cX12_bounded 22 = .ok (.lload_n 0, 1) := by decide +kernel
theorem dX12_bounded_23 : decode cX12_bounded 23 = .ok (.lreturn, 1) := by decide +kernel
theorem dX12_feed_0 : decode cX12_feed 0 = .ok (.aload_n 0, 1) := by decide +kernel
theorem dX12_feed_1 : decode cX12_feed 1 = .ok (.getfield 73, 3) := by decide +kernel
theorem dX12_feed_4 : decode cX12_feed 4 = .ok (.bipush 20, 2) := by decide +kernel
theorem dX12_feed_6 : decode cX12_feed 6 = .ok (.iadd, 1) := by decide +kernel
theorem dX12_feed_7 : decode cX12_feed 7 = .ok (.sipush 400, 3) := by decide +kernel
theorem dX12_feed_10 : decode cX12_feed 10 = .ok (.if_icmp .le 5, 3) := by decide +kernel
theorem dX12_feed_13 : decode cX12_feed 13 = .ok (.iconst (-1), 1) := by decide +kernel
theorem dX12_feed_14 : decode cX12_feed 14 = .ok (.ireturn, 1) := by decide +kernel
theorem dX12_feed_15 : decode cX12_feed 15 = .ok (.aload_n 0, 1) := by decide +kernel
theorem dX12_feed_16 : decode cX12_feed 16 = .ok (.iload_n 1, 1) := by decide +kernel
theorem dX12_feed_17 : decode cX12_feed 17 = .ok (.invokevirtual 77, 3) := by decide +kernel
theorem dX12_feed_20 : decode cX12_feed 20 = .ok (.aload_n 0, 1) := by decide +kernel
theorem dX12_feed_21 : decode cX12_feed 21 = .ok (.iload_n 2, 1) := by decide +kernel
theorem dX12_feed_22 : decode cX12_feed 22 = .ok (.invokevirtual 77, 3) := by decide +kernel
theorem dX12_feed_25 : decode cX12_feed 25 = .ok (.aload_n 0, 1) := by decide +kernel
theorem dX12_feed_26 : decode cX12_feed 26 = .ok (.iload_n 3, 1) := by decide +kernel
theorem dX12_feed_27 : decode cX12_feed 27 = .ok (.invokevirtual 77, 3) := by decide +kernel
theorem dX12_feed_30 : decode cX12_feed 30 = .ok (.aload_n 0, 1) := by decide +kernel
theorem dX12_feed_31 : decode cX12_feed 31 = .ok (.iload 4, 2) := by decide +kernel
theorem dX12_feed_33 : decode cX12_feed 33 = .ok (.invokevirtual 77, 3) := by decide +kernel
theorem dX12_feed_36 : decode cX12_feed 36 = .ok (.aload_n 0, 1) := by decide +kernel
theorem dX12_feed_37 : decode cX12_feed 37 = .ok (.iload 5, 2) := by decide +kernel
theorem dX12_feed_39 : decode cX12_feed 39 = .ok (.invokevirtual 77, 3) := by decide +kernel
theorem dX12_feed_42 : decode cX12_feed 42 = .ok (.aload_n 0, 1) := by decide +kernel
theorem dX12_feed_43 : decode cX12_feed 43 = .ok (.getfield 73, 3) := by decide +kernel
theorem dX12_feed_46 : decode cX12_feed 46 = .ok (.ireturn, 1) := by decide +kernel
theorem dX12_fails_0 : decode cX12_fails 0 = .ok (.aload_n 0, 1) := by decide +kernel
theorem dX12_fails_1 : decode cX12_fails 1 = .ok (.getfield 81, 3) := by decide +kernel
theorem dX12_fails_4 : decode cX12_fails 4 = .ok (.ifCond .ne 15, 3) := by decide +kernel
theorem dX12_fails_7 : decode cX12_fails 7 = .ok (.aload_n 0, 1) := by decide +kernel
theorem dX12_fails_8 : decode cX12_fails 8 = .ok (.iconst 1, 1) := by decide +kernel
theorem dX12_fails_9 : decode cX12_fails 9 = .ok (.bipush 8, 2) := by decide +kernel
theorem dX12_fails_11 : decode cX12_fails 11 = .ok (.iload_n 2, 1) := by decide +kernel
theorem dX12_fails_12 : decode cX12_fails 12 = .ok (.imul, 1) := by decide +kernel
theorem dX12_fails_13 : decode cX12_fails 13 = .ok (.iadd, 1) := by decide +kernel
theorem dX12_fails_14 : decode cX12_fails 14 = .ok (.iload_n 1, 1) := by decide +kernel
theorem dX12_fails_15 : decode cX12_fails 15 = .ok (.iadd, 1) := by decide +kernel
theorem dX12_fails_16 : decode cX12_fails 16 = .ok (.putfield 81, 3) := by decide +kernel
theorem dX12_fails_19 : decode cX12_fails 19 = .ok (.iconst 0, 1) := by decide +kernel
theorem dX12_fails_20 : decode cX12_fails 20 = .ok (.ireturn, 1) := by decide +kernel
theorem dX12_isDigit_0 : decode cX12_isDigit 0 = .ok (.iload_n 1, 1) := by decide +kernel
theorem dX12_isDigit_1 : decode cX12_isDigit 1 = .ok (.aload_n 0, 1) := by decide +kernel
theorem dX12_isDigit_2 : decode cX12_isDigit 2 = .ok (.getfield 73, 3) := by decide +kernel
theorem dX12_isDigit_5 : decode cX12_isDigit 5 = .ok (.if_icmp .ge 29, 3) := by decide +kernel
theorem dX12_isDigit_8 : decode cX12_isDigit 8 = .ok (.aload_n 0, 1) := by decide +kernel
theorem dX12_isDigit_9 : decode cX12_isDigit 9 = .ok (.getfield 7, 3) := by decide +kernel
theorem dX12_isDigit_12 : decode cX12_isDigit 12 = .ok (.iload_n 1, 1) := by decide +kernel
theorem dX12_isDigit_13 : decode cX12_isDigit 13 = .ok (.baload, 1) := by decide +kernel
theorem dX12_isDigit_14 : decode cX12_isDigit 14 = .ok (.bipush 48, 2) := by decide +kernel
theorem dX12_isDigit_16 : decode cX12_isDigit 16 = .ok (.if_icmp .lt 18, 3) := by decide +kernel
theorem dX12_isDigit_19 : decode cX12_isDigit 19 = .ok (.aload_n 0, 1) := by decide +kernel
theorem dX12_isDigit_20 : decode cX12_isDigit 20 = .ok (.getfield 7, 3) := by decide +kernel
theorem dX12_isDigit_23 : decode cX12_isDigit 23 = .ok (.iload_n 1, 1) := by decide +kernel
theorem dX12_isDigit_24 : decode cX12_isDigit 24 = .ok (.baload, 1) := by decide +kernel
theorem dX12_isDigit_25 : decode cX12_isDigit 25 = .ok (.bipush 57, 2) := by decide +kernel
theorem dX12_isDigit_27 : decode cX12_isDigit 27 = .ok (.if_icmp .gt 7, 3) := by decide +kernel
theorem dX12_isDigit_30 : decode cX12_isDigit 30 = .ok (.iconst 1, 1) := by decide +kernel
theorem dX12_isDigit_31 : decode cX12_isDigit 31 = .ok (.goto 4, 3) := by decide +kernel
theorem dX12_isDigit_34 : decode cX12_isDigit 34 = .ok (.iconst 0, 1) := by decide +kernel
theorem dX12_isDigit_35 : decode cX12_isDigit 35 = .ok (.ireturn, 1) := by decide +kernel
theorem dX12_isWord_0 : decode cX12_isWord 0 = .ok (.aload_n 0, 1) := by decide +kernel
theorem dX12_isWord_1 : decode cX12_isWord 1 = .ok (.invokevirtual 87, 3) := by decide +kernel
theorem dX12_isWord_4 : decode cX12_isWord 4 = .ok (.pop, 1) := by decide +kernel
theorem dX12_isWord_5 : decode cX12_isWord 5 = .ok (.lconst 0, 1) := by decide +kernel
theorem dX12_isWord_6 : decode cX12_isWord 6 = .ok (.lstore_n 3, 1) := by decide +kernel
theorem dX12_isWord_7 : decode cX12_isWord 7 = .ok (.iconst 0, 1) := by decide +kernel
theorem dX12_isWord_8 : decode cX12_isWord 8 = .ok (.istore 5, 2) := by decide +kernel
theorem dX12_isWord_10 : decode cX12_isWord 10 = .ok (.aload_n 0, 1) := by decide +kernel
theorem dX12_isWord_11 : decode cX12_isWord 11 = .ok (.aload_n 0, 1) := by decide +kernel
theorem dX12_isWord_12 : decode cX12_isWord 12 = .ok (.getfield 84, 3) := by decide +kernel
theorem dX12_isWord_15 : decode cX12_isWord 15 = .ok (.iload 5, 2) := by decide +kernel
theorem dX12_isWord_17 : decode cX12_isWord 17 = .ok (.iadd, 1) := by decide +kernel
theorem dX12_isWord_18 : decode cX12_isWord 18 = .ok (.invokevirtual 91, 3) := by decide +kernel
theorem dX12_isWord_21 : decode cX12_isWord 21 = .ok (.ifCond .eq 35, 3) := by decide +kernel
theorem dX12_isWord_24 : decode cX12_isWord 24 = .ok (.iload 5, 2) := by decide +kernel
theorem dX12_isWord_26 : decode cX12_isWord 26 = .ok (.bipush 8, 2) := by decide +kernel
theorem dX12_isWord_28 : decode cX12_isWord 28 = .ok (.if_icmp .ge 22, 3) := by decide +kernel
theorem dX12_isWord_31 : decode cX12_isWord 31 = .ok (.lload_n 3, 1) := by decide +kernel
theorem dX12_isWord_32 : decode cX12_isWord 32 = .ok (.bipush 8, 2) := by decide +kernel
theorem dX12_isWord_34 : decode cX12_isWord 34 = .ok (.lshl, 1) := by decide +kernel
theorem dX12_isWord_35 : decode cX12_isWord 35 = .ok (.aload_n 0, 1) := by decide +kernel
theorem dX12_isWord_36 : decode cX12_isWord 36 = .ok (.getfield 7, 3) := by decide +kernel
theorem dX12_isWord_39 : decode cX12_isWord 39 = .ok (.aload_n 0, 1) := by decide +kernel
theorem dX12_isWord_40 : decode cX12_isWord 40 = .ok (.getfield 84, 3) := by decide +kernel
theorem dX12_isWord_43 : decode cX12_isWord 43 = .ok (.iload 5, 2) := by decide +kernel
theorem dX12_isWord_45 : decode cX12_isWord 45 = .ok (.iadd, 1) := by decide +kernel
theorem dX12_isWord_46 : decode cX12_isWord 46 = .ok (.baload, 1) := by decide +kernel
theorem dX12_isWord_47 : decode cX12_isWord 47 = .ok (.i2l, 1) := by decide +kernel
theorem dX12_isWord_48 : decode cX12_isWord 48 = .ok (.lor, 1) := by decide +kernel
theorem dX12_isWord_49 : decode cX12_isWord 49 = .ok (.lstore_n 3, 1) := by decide +kernel
theorem dX12_isWord_50 : decode cX12_isWord 50 = .ok (.iinc 5 1, 3) := by decide +kernel
theorem dX12_isWord_53 : decode cX12_isWord 53 = .ok (.goto (-43), 3) := by decide +kernel
theorem dX12_isWord_56 : decode cX12_isWord 56 = .ok (.iload 5, 2) := by decide +kernel
theorem dX12_isWord_58 : decode cX12_isWord 58 = .ok (.ifCond .le 20, 3) := by decide +kernel
theorem dX12_isWord_61 : decode cX12_isWord 61 = .ok (.iload 5, 2) := by decide +kernel
theorem dX12_isWord_63 : decode cX12_isWord 63 = .ok (.bipush 8, 2) := by decide +kernel
theorem dX12_isWord_65 : decode cX12_isWord 65 = .ok (.if_icmp .ge 13, 3) := by decide +kernel
theorem dX12_isWord_68 : decode cX12_isWord 68 = .ok (.lload_n 3, 1) := by decide +kernel
theorem dX12_isWord_69 : decode cX12_isWord 69 = .ok (.lload_n 1, 1) := by decide +kernel
theorem dX12_isWord_70 : decode cX12_isWord 70 = .ok (.lcmp, 1) := by decide +kernel
theorem dX12_isWord_71 : decode cX12_isWord 71 = .ok (.ifCond .ne 7, 3) := by decide +kernel
theorem dX12_isWord_74 : decode cX12_isWord 74 = .ok (.iconst 1, 1) := by decide +kernel
theorem dX12_isWord_75 : decode cX12_isWord 75 = .ok (.goto 4, 3) := by decide +kernel
theorem dX12_isWord_78 : decode cX12_isWord 78 = .ok (.iconst 0, 1) := by decide +kernel
theorem dX12_isWord_79 : decode cX12_isWord 79 = .ok (.ireturn, 1) := by decide +kernel
theorem dX12_takesWord_0 : decode cX12_takesWord 0 = .ok (.aload_n 0, 1) := by decide +kernel
theorem dX12_takesWord_1 : decode cX12_takesWord 1 = .ok (.lload_n 1, 1) := by decide +kernel
theorem dX12_takesWord_2 : decode cX12_takesWord 2 = .ok (.invokevirtual 95, 3) := by decide +kernel
theorem dX12_takesWord_5 : decode cX12_takesWord 5 = .ok (.ifCond .ne 5, 3) := by decide +kernel
theorem dX12_takesWord_8 : decode cX12_takesWord 8 = .ok (.iconst 0, 1) := by decide +kernel
theorem dX12_takesWord_9 : decode cX12_takesWord 9 = .ok (.ireturn, 1) := by decide +kernel
theorem dX12_takesWord_10 : decode cX12_takesWord 10 = .ok (.aload_n 0, 1) := by decide +kernel
theorem dX12_takesWord_11 : decode cX12_takesWord 11 = .ok (.invokevirtual 99, 3) := by decide +kernel
theorem dX12_takesWord_14 : decode cX12_takesWord 14 = .ok (.iconst 1, 1) := by decide +kernel
theorem dX12_takesWord_15 : decode cX12_takesWord 15 = .ok (.ireturn, 1) := by decide +kernel
theorem dX12_wordHere_0 : decode cX12_wordHere 0 = .ok (.aload_n 0, 1) := by decide +kernel
theorem dX12_wordHere_1 : decode cX12_wordHere 1 = .ok (.ldc2_w 116, 3) := by decide +kernel
theorem dX12_wordHere_4 : decode cX12_wordHere 4 = .ok (.invokevirtual 95, 3) := by decide +kernel
theorem dX12_wordHere_7 : decode cX12_wordHere 7 = .ok (.ifCond .eq 5, 3) := by decide +kernel
theorem dX12_wordHere_10 : decode cX12_wordHere 10 = .ok (.iconst 0, 1) := by decide +kernel
theorem dX12_wordHere_11 : decode cX12_wordHere 11 = .ok (.ireturn, 1) := by decide +kernel
theorem dX12_wordHere_12 : decode cX12_wordHere 12 = .ok (.aload_n 0, 1) := by decide +kernel
theorem dX12_wordHere_13 : decode cX12_wordHere 13 = .ok (.ldc2_w 118, 3) := by decide +kernel
theorem dX12_wordHere_16 : decode cX12_wordHere 16 = .ok (.invokevirtual 95, 3) := by decide +kernel
theorem dX12_wordHere_19 : decode cX12_wordHere 19 = .ok (.ifCond .eq 5, 3) := by decide +kernel
theorem dX12_wordHere_22 : decode cX12_wordHere 22 = .ok (.iconst 1, 1) := by decide +kernel
theorem dX12_wordHere_23 : decode cX12_wordHere 23 = .ok (.ireturn, 1) := by decide +kernel
theorem dX12_wordHere_24 : decode cX12_wordHere 24 = .ok (.aload_n 0, 1) := by decide +kernel
theorem dX12_wordHere_25 : decode cX12_wordHere 25 = .ok (.ldc2_w 120, 3) := by decide +kernel
theorem dX12_wordHere_28 : decode cX12_wordHere 28 = .ok (.invokevirtual 95, 3) := by decide +kernel
theorem dX12_wordHere_31 : decode cX12_wordHere 31 = .ok (.ifCond .eq 5, 3) := by decide +kernel
theorem dX12_wordHere_34 : decode cX12_wordHere 34 = .ok (.iconst 2, 1) := by decide +kernel
theorem dX12_wordHere_35 : decode cX12_wordHere 35 = .ok (.ireturn, 1) := by decide +kernel
theorem dX12_wordHere_36 : decode cX12_wordHere 36 = .ok (.aload_n 0, 1) := by decide +kernel
theorem dX12_wordHere_37 : decode cX12_wordHere 37 = .ok (.ldc2_w 122, 3) := by decide +kernel
theorem dX12_wordHere_40 : decode cX12_wordHere 40 = .ok (.invokevirtual 95, 3) := by decide +kernel
theorem dX12_wordHere_43 : decode cX12_wordHere 43 = .ok (.ifCond .eq 5, 3) := by decide +kernel
theorem dX12_wordHere_46 : decode cX12_wordHere 46 = .ok (.iconst 3, 1) := by decide +kernel
theorem dX12_wordHere_47 : decode cX12_wordHere 47 = .ok (.ireturn, 1) := by decide +kernel
theorem dX12_wordHere_48 : decode cX12_wordHere 48 = .ok (.aload_n 0, 1) := by decide +kernel
theorem dX12_wordHere_49 : decode cX12_wordHere 49 = .ok (.ldc2_w 124, 3) := by decide +kernel
theorem dX12_wordHere_52 : decode cX12_wordHere 52 = .ok (.invokevirtual 95, 3) := by decide +kernel
theorem dX12_wordHere_55 : decode cX12_wordHere 55 = .ok (.ifCond .eq 5, 3) := by decide +kernel
theorem dX12_wordHere_58 : decode cX12_wordHere 58 = .ok (.iconst 4, 1) := by decide +kernel
theorem dX12_wordHere_59 : decode cX12_wordHere 59 = .ok (.ireturn, 1) := by decide +kernel
theorem dX12_wordHere_60 : decode cX12_wordHere 60 = .ok (.aload_n 0, 1) := by decide +kernel
theorem dX12_wordHere_61 : decode cX12_wordHere 61 = .ok (.ldc2_w 126, 3) := by decide +kernel
theorem dX12_wordHere_64 : decode cX12_wordHere 64 = .ok (.invokevirtual 95, 3) := by decide +kernel
theorem dX12_wordHere_67 : decode cX12_wordHere 67 = .ok (.ifCond .eq 5, 3) := by decide +kernel
theorem dX12_wordHere_70 : decode cX12_wordHere 70 = .ok (.iconst 5, 1) := by decide +kernel
theorem dX12_wordHere_71 : decode cX12_wordHere 71 = .ok (.ireturn, 1) := by decide +kernel
theorem dX12_wordHere_72 : decode cX12_wordHere 72 = .ok (.aload_n 0, 1) := by decide +kernel
theorem dX12_wordHere_73 : decode cX12_wordHere 73 = .ok (.ldc2_w 128, 3) := by decide +kernel
theorem dX12_wordHere_76 : decode cX12_wordHere 76 = .ok (.invokevirtual 95, 3) := by decide +kernel
theorem dX12_wordHere_79 : decode cX12_wordHere 79 = .ok (.ifCond .eq 6, 3) := by decide +kernel
theorem dX12_wordHere_82 : decode cX12_wordHere 82 = .ok (.bipush 6, 2) := by decide +kernel
theorem dX12_wordHere_84 : decode cX12_wordHere 84 = .ok (.ireturn, 1) := by decide +kernel
theorem dX12_wordHere_85 : decode cX12_wordHere 85 = .ok (.aload_n 0, 1) := by decide +kernel
theorem dX12_wordHere_86 : decode cX12_wordHere 86 = .ok (.ldc2_w 130, 3) := by decide +kernel
theorem dX12_wordHere_89 : decode cX12_wordHere 89 = .ok (.invokevirtual 95, 3) := by decide +kernel
theorem dX12_wordHere_92 : decode cX12_wordHere 92 = .ok (.ifCond .eq 6, 3) := by decide +kernel
theorem dX12_wordHere_95 : decode cX12_wordHere 95 = .ok (.bipush 7, 2) := by decide +kernel
theorem dX12_wordHere_97 : decode cX12_wordHere 97 = .ok (.ireturn, 1) := by decide +kernel
theorem dX12_wordHere_98 : decode cX12_wordHere 98 = .ok (.aload_n 0, 1) := by decide +kernel
theorem dX12_wordHere_99 : decode cX12_wordHere 99 = .ok (.ldc2_w 132, 3) := by decide +kernel
theorem dX12_wordHere_102 : decode cX12_wordHere 102 = .ok (.invokevirtual 95, 3) := by decide +kernel
theorem dX12_wordHere_105 : decode cX12_wordHere 105 = .ok (.ifCond .eq 6, 3) := by decide +kernel
theorem dX12_wordHere_108 : decode cX12_wordHere 108 = .ok (.bipush 8, 2) := by decide +kernel
theorem dX12_wordHere_110 : decode cX12_wordHere 110 = .ok (.ireturn, 1) := by decide +kernel
theorem dX12_wordHere_111 : decode cX12_wordHere 111 = .ok (.aload_n 0, 1) := by decide +kernel
theorem dX12_wordHere_112 : decode cX12_wordHere 112 = .ok (.ldc2_w 134, 3) := by decide +kernel
theorem dX12_wordHere_115 : decode cX12_wordHere 115 = .ok (.invokevirtual 95, 3) := by decide +kernel
theorem dX12_wordHere_118 : decode cX12_wordHere 118 = .ok (.ifCond .eq 6, 3) := by decide +kernel
theorem dX12_wordHere_121 : decode cX12_wordHere 121 = .ok (.bipush 9, 2) := by decide +kernel
theorem dX12_wordHere_123 : decode cX12_wordHere 123 = .ok (.ireturn, 1) := by decide +kernel
theorem dX12_wordHere_124 : decode cX12_wordHere 124 = .ok (.aload_n 0, 1) := by decide +kernel
theorem dX12_wordHere_125 : decode cX12_wordHere 125 = .ok (.ldc2_w 136, 3) := by decide +kernel
theorem dX12_wordHere_128 : decode cX12_wordHere 128 = .ok (.invokevirtual 95, 3) := by decide +kernel
theorem dX12_wordHere_131 : decode cX12_wordHere 131 = .ok (.ifCond .eq 8, 3) := by decide +kernel
theorem dX12_wordHere_134 : decode cX12_wordHere 134 = .ok (.bipush 10, 2) := by decide +kernel
theorem dX12_wordHere_136 : decode cX12_wordHere 136 = .ok (.goto 19, 3) := by decide +kernel
theorem dX12_wordHere_139 : decode cX12_wordHere 139 = .ok (.aload_n 0, 1) := by decide +kernel
theorem dX12_wordHere_140 : decode cX12_wordHere 140 = .ok (.ldc2_w 138, 3) := by decide +kernel
theorem dX12_wordHere_143 : decode cX12_wordHere 143 = .ok (.invokevirtual 95, 3) := by decide +kernel
theorem dX12_wordHere_146 : decode cX12_wordHere 146 = .ok (.ifCond .eq 8, 3) := by decide +kernel
theorem dX12_wordHere_149 : decode cX12_wordHere 149 = .ok (.bipush 11, 2) := by decide +kernel
theorem dX12_wordHere_151 : decode cX12_wordHere 151 = .ok (.goto 4, 3) := by decide +kernel
theorem dX12_wordHere_154 : decode cX12_wordHere 154 = .ok (.iconst (-1), 1) := by decide +kernel
theorem dX12_wordHere_155 : decode cX12_wordHere 155 = .ok (.ireturn, 1) := by decide +kernel
theorem dX12_makes_0 : decode cX12_makes 0 = .ok (.aload_n 0, 1) := by decide +kernel
theorem dX12_makes_1 : decode cX12_makes 1 = .ok (.getfield 143, 3) := by decide +kernel
theorem dX12_makes_4 : decode cX12_makes 4 = .ok (.bipush 60, 2) := by decide +kernel
theorem dX12_makes_6 : decode cX12_makes 6 = .ok (.if_icmp .ne 10, 3) := by decide +kernel
theorem dX12_makes_9 : decode cX12_makes 9 = .ok (.aload_n 0, 1) := by decide +kernel
theorem dX12_makes_10 : decode cX12_makes 10 = .ok (.iconst 3, 1) := by decide +kernel
theorem dX12_makes_11 : decode cX12_makes 11 = .ok (.iload_n 1, 1) := by decide +kernel
theorem dX12_makes_12 : decode cX12_makes 12 = .ok (.invokevirtual 105, 3) := by decide +kernel
theorem dX12_makes_15 : decode cX12_makes 15 = .ok (.ireturn, 1) := by decide +kernel
theorem dX12_makes_16 : decode cX12_makes 16 = .ok (.aload_n 0, 1) := by decide +kernel
theorem dX12_makes_17 : decode cX12_makes 17 = .ok (.dup, 1) := by decide +kernel
theorem dX12_makes_18 : decode cX12_makes 18 = .ok (.getfield 143, 3) := by decide +kernel
theorem dX12_makes_21 : decode cX12_makes 21 = .ok (.iconst 1, 1) := by decide +kernel
theorem dX12_makes_22 : decode cX12_makes 22 = .ok (.iadd, 1) := by decide +kernel
theorem dX12_makes_23 : decode cX12_makes 23 = .ok (.putfield 143, 3) := by decide +kernel
theorem dX12_makes_26 : decode cX12_makes 26 = .ok (.iconst 1, 1) := by decide +kernel
theorem dX12_makes_27 : decode cX12_makes 27 = .ok (.ireturn, 1) := by decide +kernel
theorem dX12_strength_0 : decode cX12_strength 0 = .ok (.iload_n 0, 1) := by decide +kernel
theorem dX12_strength_1 : decode cX12_strength 1 = .ok (.bipush 13, 2) := by decide +kernel
theorem dX12_strength_3 : decode cX12_strength 3 = .ok (.if_icmp .ne 7, 3) := by decide +kernel
theorem dX12_strength_6 : decode cX12_strength 6 = .ok (.iconst 1, 1) := by decide +kernel
theorem dX12_strength_7 : decode cX12_strength 7 = .ok (.goto 24, 3) := by decide +kernel
theorem dX12_strength_10 : decode cX12_strength 10 = .ok (.iload_n 0, 1) := by decide +kernel
theorem dX12_strength_11 : decode cX12_strength 11 = .ok (.bipush 12, 2) := by decide +kernel
theorem dX12_strength_13 : decode cX12_strength 13 = .ok (.if_icmp .ne 7, 3) := by decide +kernel
theorem dX12_strength_16 : decode cX12_strength 16 = .ok (.iconst 2, 1) := by decide +kernel
theorem dX12_strength_17 : decode cX12_strength 17 = .ok (.goto 14, 3) := by decide +kernel
theorem dX12_strength_20 : decode cX12_strength 20 = .ok (.iload_n 0, 1) := by decide +kernel
theorem dX12_strength_21 : decode cX12_strength 21 = .ok (.bipush 11, 2) := by decide +kernel
theorem dX12_strength_23 : decode cX12_strength 23 = .ok (.if_icmp .ne 7, 3) := by decide +kernel
theorem dX12_strength_26 : decode cX12_strength 26 = .ok (.iconst 3, 1) := by decide +kernel
theorem dX12_strength_27 : decode cX12_strength 27 = .ok (.goto 4, 3) := by decide +kernel
theorem dX12_strength_30 : decode cX12_strength 30 = .ok (.iconst 0, 1) := by decide +kernel
theorem dX12_strength_31 : decode cX12_strength 31 = .ok (.ireturn, 1) := by decide +kernel
theorem dX12_value_0 : decode cX12_value 0 = .ok (.aload_n 0, 1) := by decide +kernel
theorem dX12_value_1 : decode cX12_value 1 = .ok (.invokevirtual 87, 3) := by decide +kernel
theorem dX12_value_4 : decode cX12_value 4 = .ok (.pop, 1) := by decide +kernel
theorem dX12_value_5 : decode cX12_value 5 = .ok (.aload_n 0, 1) := by decide +kernel
theorem dX12_value_6 : decode cX12_value 6 = .ok (.getfield 84, 3) := by decide +kernel
theorem dX12_value_9 : decode cX12_value 9 = .ok (.istore_n 1, 1) := by decide +kernel
theorem dX12_value_10 : decode cX12_value 10 = .ok (.aload_n 0, 1) := by decide +kernel
theorem dX12_value_11 : decode cX12_value 11 = .ok (.aload_n 0, 1) := by decide +kernel
theorem dX12_value_12 : decode cX12_value 12 = .ok (.getfield 84, 3) := by decide +kernel
theorem dX12_value_15 : decode cX12_value 15 = .ok (.invokevirtual 102, 3) := by decide +kernel
theorem dX12_value_18 : decode cX12_value 18 = .ok (.ifCond .eq 34, 3) := by decide +kernel
theorem dX12_value_21 : decode cX12_value 21 = .ok (.aload_n 0, 1) := by decide +kernel
theorem dX12_value_22 : decode cX12_value 22 = .ok (.iconst 0, 1) := by decide +kernel
theorem dX12_value_23 : decode cX12_value 23 = .ok (.ldc 160, 2) := by decide +kernel
theorem dX12_value_25 : decode cX12_value 25 = .ok (.invokevirtual 161, 3) := by decide +kernel
theorem dX12_value_28 : decode cX12_value 28 = .ok (.ifCond .eq 11, 3) := by decide +kernel
theorem dX12_value_31 : decode cX12_value 31 = .ok (.aload_n 0, 1) := by decide +kernel
theorem dX12_value_32 : decode cX12_value 32 = .ok (.iload_n 1, 1) := by decide +kernel
theorem dX12_value_33 : decode cX12_value 33 = .ok (.invokevirtual 164, 3) := by decide +kernel
theorem dX12_value_36 : decode cX12_value 36 = .ok (.ifCond .ne 5, 3) := by decide +kernel
theorem dX12_value_39 : decode cX12_value 39 = .ok (.iconst 0, 1) := by decide +kernel
theorem dX12_value_40 : decode cX12_value 40 = .ok (.ireturn, 1) := by decide +kernel
theorem dX12_value_41 : decode cX12_value 41 = .ok (.aload_n 0, 1) := by decide +kernel
theorem dX12_value_42 : decode cX12_value 42 = .ok (.iconst 0, 1) := by decide +kernel
theorem dX12_value_43 : decode cX12_value 43 = .ok (.aload_n 0, 1) := by decide +kernel
theorem dX12_value_44 : decode cX12_value 44 = .ok (.getfield 109, 3) := by decide +kernel
theorem dX12_value_47 : decode cX12_value 47 = .ok (.invokevirtual 156, 3) := by decide +kernel
theorem dX12_value_50 : decode cX12_value 50 = .ok (.iconst 1, 1) := by decide +kernel
theorem dX12_value_51 : decode cX12_value 51 = .ok (.ireturn, 1) := by decide +kernel
theorem dX12_value_52 : decode cX12_value 52 = .ok (.aload_n 0, 1) := by decide +kernel
theorem dX12_value_53 : decode cX12_value 53 = .ok (.invokevirtual 167, 3) := by decide +kernel
theorem dX12_value_56 : decode cX12_value 56 = .ok (.istore_n 2, 1) := by decide +kernel
theorem dX12_value_57 : decode cX12_value 57 = .ok (.iload_n 2, 1) := by decide +kernel
theorem dX12_value_58 : decode cX12_value 58 = .ok (.ifCond .ge 10, 3) := by decide +kernel
theorem dX12_value_61 : decode cX12_value 61 = .ok (.aload_n 0, 1) := by decide +kernel
theorem dX12_value_62 : decode cX12_value 62 = .ok (.iconst 0, 1) := by decide +kernel
theorem dX12_value_63 : decode cX12_value 63 = .ok (.iload_n 1, 1) := by decide +kernel
theorem dX12_value_64 : decode cX12_value 64 = .ok (.invokevirtual 105, 3) := by decide +kernel
theorem dX12_value_67 : decode cX12_value 67 = .ok (.ireturn, 1) := by decide +kernel
theorem dX12_value_68 : decode cX12_value 68 = .ok (.aload_n 0, 1) := by decide +kernel
theorem dX12_value_69 : decode cX12_value 69 = .ok (.iload_n 1, 1) := by decide +kernel
theorem dX12_value_70 : decode cX12_value 70 = .ok (.invokevirtual 164, 3) := by decide +kernel
theorem dX12_value_73 : decode cX12_value 73 = .ok (.ifCond .ne 5, 3) := by decide +kernel
theorem dX12_value_76 : decode cX12_value 76 = .ok (.iconst 0, 1) := by decide +kernel
theorem dX12_value_77 : decode cX12_value 77 = .ok (.ireturn, 1) := by decide +kernel
theorem dX12_value_78 : decode cX12_value 78 = .ok (.aload_n 0, 1) := by decide +kernel
theorem dX12_value_79 : decode cX12_value 79 = .ok (.invokevirtual 99, 3) := by decide +kernel
theorem dX12_value_82 : decode cX12_value 82 = .ok (.aload_n 0, 1) := by decide +kernel
theorem dX12_value_83 : decode cX12_value 83 = .ok (.iconst 1, 1) := by decide +kernel
theorem dX12_value_84 : decode cX12_value 84 = .ok (.iload_n 2, 1) := by decide +kernel
theorem dX12_value_85 : decode cX12_value 85 = .ok (.invokevirtual 156, 3) := by decide +kernel
theorem dX12_value_88 : decode cX12_value 88 = .ok (.iconst 1, 1) := by decide +kernel
theorem dX12_value_89 : decode cX12_value 89 = .ok (.ireturn, 1) := by decide +kernel
theorem dX12_sum_0 : decode cX12_sum 0 = .ok (.aload_n 0, 1) := by decide +kernel
theorem dX12_sum_1 : decode cX12_sum 1 = .ok (.invokevirtual 174, 3) := by decide +kernel
theorem dX12_sum_4 : decode cX12_sum 4 = .ok (.ifCond .ne 5, 3) := by decide +kernel
theorem dX12_sum_7 : decode cX12_sum 7 = .ok (.iconst 0, 1) := by decide +kernel
theorem dX12_sum_8 : decode cX12_sum 8 = .ok (.ireturn, 1) := by decide +kernel
theorem dX12_sum_9 : decode cX12_sum 9 = .ok (.aload_n 0, 1) := by decide +kernel
theorem dX12_sum_10 : decode cX12_sum 10 = .ok (.invokevirtual 87, 3) := by decide +kernel
theorem dX12_sum_13 : decode cX12_sum 13 = .ok (.bipush 43, 2) := by decide +kernel
theorem dX12_sum_15 : decode cX12_sum 15 = .ok (.if_icmp .eq 12, 3) := by decide +kernel
theorem dX12_sum_18 : decode cX12_sum 18 = .ok (.aload_n 0, 1) := by decide +kernel
theorem dX12_sum_19 : decode cX12_sum 19 = .ok (.invokevirtual 87, 3) := by decide +kernel
theorem dX12_sum_22 : decode cX12_sum 22 = .ok (.bipush 45, 2) := by decide +kernel
theorem dX12_sum_24 : decode cX12_sum 24 = .ok (.if_icmp .ne 51, 3) := by decide +kernel
theorem dX12_sum_27 : decode cX12_sum 27 = .ok (.aload_n 0, 1) := by decide +kernel
theorem dX12_sum_28 : decode cX12_sum 28 = .ok (.getfield 7, 3) := by decide +kernel
theorem dX12_sum_31 : decode cX12_sum 31 = .ok (.aload_n 0, 1) := by decide +kernel
theorem dX12_sum_32 : decode cX12_sum 32 = .ok (.getfield 84, 3) := by decide +kernel
theorem dX12_sum_35 : decode cX12_sum 35 = .ok (.baload, 1) := by decide +kernel
theorem dX12_sum_36 : decode cX12_sum 36 = .ok (.bipush 43, 2) := by decide +kernel
theorem dX12_sum_38 : decode cX12_sum 38 = .ok (.if_icmp .ne 7, 3) := by decide +kernel
theorem dX12_sum_41 : decode cX12_sum 41 = .ok (.iconst 2, 1) := by decide +kernel
theorem dX12_sum_42 : decode cX12_sum 42 = .ok (.goto 4, 3) := by decide +kernel
theorem dX12_sum_45 : decode cX12_sum 45 = .ok (.iconst 3, 1) := by decide +kernel
theorem dX12_sum_46 : decode cX12_sum 46 = .ok (.istore_n 1, 1) := by decide +kernel
theorem dX12_sum_47 : decode cX12_sum 47 = .ok (.aload_n 0, 1) := by decide +kernel
theorem dX12_sum_48 : decode cX12_sum 48 = .ok (.dup, 1) := by decide +kernel
theorem dX12_sum_49 : decode cX12_sum 49 = .ok (.getfield 84, 3) := by decide +kernel
theorem dX12_sum_52 : decode cX12_sum 52 = .ok (.iconst 1, 1) := by decide +kernel
theorem dX12_sum_53 : decode cX12_sum 53 = .ok (.iadd, 1) := by decide +kernel
theorem dX12_sum_54 : decode cX12_sum 54 = .ok (.putfield 84, 3) := by decide +kernel
theorem dX12_sum_57 : decode cX12_sum 57 = .ok (.aload_n 0, 1) := by decide +kernel
theorem dX12_sum_58 : decode cX12_sum 58 = .ok (.invokevirtual 174, 3) := by decide +kernel
theorem dX12_sum_61 : decode cX12_sum 61 = .ok (.ifCond .ne 5, 3) := by decide +kernel
theorem dX12_sum_64 : decode cX12_sum 64 = .ok (.iconst 0, 1) := by decide +kernel
theorem dX12_sum_65 : decode cX12_sum 65 = .ok (.ireturn, 1) := by decide +kernel
theorem dX12_sum_66 : decode cX12_sum 66 = .ok (.aload_n 0, 1) := by decide +kernel
theorem dX12_sum_67 : decode cX12_sum 67 = .ok (.iload_n 1, 1) := by decide +kernel
theorem dX12_sum_68 : decode cX12_sum 68 = .ok (.iconst 0, 1) := by decide +kernel
theorem dX12_sum_69 : decode cX12_sum 69 = .ok (.invokevirtual 156, 3) := by decide +kernel
theorem dX12_sum_72 : decode cX12_sum 72 = .ok (.goto (-63), 3) := by decide +kernel
theorem dX12_sum_75 : decode cX12_sum 75 = .ok (.iconst 1, 1) := by decide +kernel
theorem dX12_sum_76 : decode cX12_sum 76 = .ok (.ireturn, 1) := by decide +kernel
theorem dX12_fact_0 : decode cX12_fact 0 = .ok (.iconst 1, 1) := by decide +kernel
theorem dX12_fact_1 : decode cX12_fact 1 = .ok (.istore_n 1, 1) := by decide +kernel
theorem dX12_fact_2 : decode cX12_fact 2 = .ok (.iload_n 1, 1) := by decide +kernel
theorem dX12_fact_3 : decode cX12_fact 3 = .ok (.ifCond .eq 72, 3) := by decide +kernel
theorem dX12_fact_6 : decode cX12_fact 6 = .ok (.iconst 0, 1) := by decide +kernel
theorem dX12_fact_7 : decode cX12_fact 7 = .ok (.istore_n 1, 1) := by decide +kernel
theorem dX12_fact_8 : decode cX12_fact 8 = .ok (.aload_n 0, 1) := by decide +kernel
theorem dX12_fact_9 : decode cX12_fact 9 = .ok (.invokevirtual 87, 3) := by decide +kernel
theorem dX12_fact_12 : decode cX12_fact 12 = .ok (.istore_n 2, 1) := by decide +kernel
theorem dX12_fact_13 : decode cX12_fact 13 = .ok (.aload_n 0, 1) := by decide +kernel
theorem dX12_fact_14 : decode cX12_fact 14 = .ok (.ldc2_w 180, 3) := by decide +kernel
theorem dX12_fact_17 : decode cX12_fact 17 = .ok (.invokevirtual 95, 3) := by decide +kernel
theorem dX12_fact_20 : decode cX12_fact 20 = .ok (.ifCond .eq 23, 3) := by decide +kernel
theorem dX12_fact_23 : decode cX12_fact 23 = .ok (.aload_n 0, 1) := by decide +kernel
theorem dX12_fact_24 : decode cX12_fact 24 = .ok (.bipush 11, 2) := by decide +kernel
theorem dX12_fact_26 : decode cX12_fact 26 = .ok (.invokevirtual 182, 3) := by decide +kernel
theorem dX12_fact_29 : decode cX12_fact 29 = .ok (.ifCond .ne 5, 3) := by decide +kernel
theorem dX12_fact_32 : decode cX12_fact 32 = .ok (.iconst 0, 1) := by decide +kernel
theorem dX12_fact_33 : decode cX12_fact 33 = .ok (.ireturn, 1) := by decide +kernel
theorem dX12_fact_34 : decode cX12_fact 34 = .ok (.aload_n 0, 1) := by decide +kernel
theorem dX12_fact_35 : decode cX12_fact 35 = .ok (.invokevirtual 99, 3) := by decide +kernel
theorem dX12_fact_38 : decode cX12_fact 38 = .ok (.iconst 1, 1) := by decide +kernel
theorem dX12_fact_39 : decode cX12_fact 39 = .ok (.istore_n 1, 1) := by decide +kernel
theorem dX12_fact_40 : decode cX12_fact 40 = .ok (.goto 32, 3) := by decide +kernel
theorem dX12_fact_43 : decode cX12_fact 43 = .ok (.iload_n 2, 1) := by decide +kernel
theorem dX12_fact_44 : decode cX12_fact 44 = .ok (.bipush 91, 2) := by decide +kernel
theorem dX12_fact_46 : decode cX12_fact 46 = .ok (.if_icmp .ne 26, 3) := by decide +kernel
theorem dX12_fact_49 : decode cX12_fact 49 = .ok (.aload_n 0, 1) := by decide +kernel
theorem dX12_fact_50 : decode cX12_fact 50 = .ok (.bipush 91, 2) := by decide +kernel
theorem dX12_fact_52 : decode cX12_fact 52 = .ok (.invokevirtual 182, 3) := by decide +kernel
theorem dX12_fact_55 : decode cX12_fact 55 = .ok (.ifCond .ne 5, 3) := by decide +kernel
theorem dX12_fact_58 : decode cX12_fact 58 = .ok (.iconst 0, 1) := by decide +kernel
theorem dX12_fact_59 : decode cX12_fact 59 = .ok (.ireturn, 1) := by decide +kernel
theorem dX12_fact_60 : decode cX12_fact 60 = .ok (.aload_n 0, 1) := by decide +kernel
theorem dX12_fact_61 : decode cX12_fact 61 = .ok (.dup, 1) := by decide +kernel
theorem dX12_fact_62 : decode cX12_fact 62 = .ok (.getfield 84, 3) := by decide +kernel
theorem dX12_fact_65 : decode cX12_fact 65 = .ok (.iconst 1, 1) := by decide +kernel
theorem dX12_fact_66 : decode cX12_fact 66 = .ok (.iadd, 1) := by decide +kernel
theorem dX12_fact_67 : decode cX12_fact 67 = .ok (.putfield 84, 3) := by decide +kernel
theorem dX12_fact_70 : decode cX12_fact 70 = .ok (.iconst 1, 1) := by decide +kernel
theorem dX12_fact_71 : decode cX12_fact 71 = .ok (.istore_n 1, 1) := by decide +kernel
theorem dX12_fact_72 : decode cX12_fact 72 = .ok (.goto (-70), 3) := by decide +kernel
theorem dX12_fact_75 : decode cX12_fact 75 = .ok (.aload_n 0, 1) := by decide +kernel
theorem dX12_fact_76 : decode cX12_fact 76 = .ok (.invokevirtual 185, 3) := by decide +kernel
theorem dX12_fact_79 : decode cX12_fact 79 = .ok (.ireturn, 1) := by decide +kernel
theorem dX12_closes_0 : decode cX12_closes 0 = .ok (.aload_n 0, 1) := by decide +kernel
theorem dX12_closes_1 : decode cX12_closes 1 = .ok (.iconst 3, 1) := by decide +kernel
theorem dX12_closes_2 : decode cX12_closes 2 = .ok (.invokevirtual 188, 3) := by decide +kernel
theorem dX12_closes_5 : decode cX12_closes 5 = .ok (.aload_n 0, 1) := by decide +kernel
theorem dX12_closes_6 : decode cX12_closes 6 = .ok (.invokevirtual 87, 3) := by decide +kernel
theorem dX12_closes_9 : decode cX12_closes 9 = .ok (.bipush 93, 2) := by decide +kernel
theorem dX12_closes_11 : decode cX12_closes 11 = .ok (.if_icmp .ne 53, 3) := by decide +kernel
theorem dX12_closes_14 : decode cX12_closes 14 = .ok (.aload_n 0, 1) := by decide +kernel
theorem dX12_closes_15 : decode cX12_closes 15 = .ok (.invokevirtual 191, 3) := by decide +kernel
theorem dX12_closes_18 : decode cX12_closes 18 = .ok (.ifCond .eq 46, 3) := by decide +kernel
theorem dX12_closes_21 : decode cX12_closes 21 = .ok (.aload_n 0, 1) := by decide +kernel
theorem dX12_closes_22 : decode cX12_closes 22 = .ok (.iconst 1, 1) := by decide +kernel
theorem dX12_closes_23 : decode cX12_closes 23 = .ok (.invokevirtual 188, 3) := by decide +kernel
theorem dX12_closes_26 : decode cX12_closes 26 = .ok (.aload_n 0, 1) := by decide +kernel
theorem dX12_closes_27 : decode cX12_closes 27 = .ok (.dup, 1) := by decide +kernel
theorem dX12_closes_28 : decode cX12_closes 28 = .ok (.getfield 149, 3) := by decide +kernel
theorem dX12_closes_31 : decode cX12_closes 31 = .ok (.iconst 1, 1) := by decide +kernel
theorem dX12_closes_32 : decode cX12_closes 32 = .ok (.isub, 1) := by decide +kernel
theorem dX12_closes_33 : decode cX12_closes 33 = .ok (.putfield 149, 3) := by decide +kernel
theorem dX12_closes_36 : decode cX12_closes 36 = .ok (.aload_n 0, 1) := by decide +kernel
theorem dX12_closes_37 : decode cX12_closes 37 = .ok (.dup, 1) := by decide +kernel
theorem dX12_closes_38 : decode cX12_closes 38 = .ok (.getfield 146, 3) := by decide +kernel
theorem dX12_closes_41 : decode cX12_closes 41 = .ok (.iconst 1, 1) := by decide +kernel
theorem dX12_closes_42 : decode cX12_closes 42 = .ok (.isub, 1) := by decide +kernel
theorem dX12_closes_43 : decode cX12_closes 43 = .ok (.putfield 146, 3) := by decide +kernel
theorem dX12_closes_46 : decode cX12_closes 46 = .ok (.aload_n 0, 1) := by decide +kernel
theorem dX12_closes_47 : decode cX12_closes 47 = .ok (.dup, 1) := by decide +kernel
theorem dX12_closes_48 : decode cX12_closes 48 = .ok (.getfield 84, 3) := by decide +kernel
theorem dX12_closes_51 : decode cX12_closes 51 = .ok (.iconst 1, 1) := by decide +kernel
theorem dX12_closes_52 : decode cX12_closes 52 = .ok (.iadd, 1) := by decide +kernel
theorem dX12_closes_53 : decode cX12_closes 53 = .ok (.putfield 84, 3) := by decide +kernel
theorem dX12_closes_56 : decode cX12_closes 56 = .ok (.aload_n 0, 1) := by decide +kernel
theorem dX12_closes_57 : decode cX12_closes 57 = .ok (.iconst 3, 1) := by decide +kernel
theorem dX12_closes_58 : decode cX12_closes 58 = .ok (.invokevirtual 188, 3) := by decide +kernel
theorem dX12_closes_61 : decode cX12_closes 61 = .ok (.goto (-56), 3) := by decide +kernel
theorem dX12_closes_64 : decode cX12_closes 64 = .ok (.return_, 1) := by decide +kernel
theorem dX12_clauseOf_0 : decode cX12_clauseOf 0 = .ok (.aload_n 0, 1) := by decide +kernel
theorem dX12_clauseOf_1 : decode cX12_clauseOf 1 = .ok (.invokevirtual 99, 3) := by decide +kernel
theorem dX12_clauseOf_4 : decode cX12_clauseOf 4 = .ok (.bipush 60, 2) := by decide +kernel
theorem dX12_clauseOf_6 : decode cX12_clauseOf 6 = .ok (.aload_n 0, 1) := by decide +kernel
theorem dX12_clauseOf_7 : decode cX12_clauseOf 7 = .ok (.getfield 140, 3) := by decide +kernel
theorem dX12_clauseOf_10 : decode cX12_clauseOf 10 = .ok (.imul, 1) := by decide +kernel
theorem dX12_clauseOf_11 : decode cX12_clauseOf 11 = .ok (.iconst 5, 1) := by decide +kernel
theorem dX12_clauseOf_12 : decode cX12_clauseOf 12 = .ok (.aload_n 0, 1) := by decide +kernel
theorem dX12_clauseOf_13 : decode cX12_clauseOf 13 = .ok (.getfield 26, 3) := by decide +kernel
theorem dX12_clauseOf_16 : decode cX12_clauseOf 16 = .ok (.aload_n 0, 1) := by decide +kernel
theorem dX12_clauseOf_17 : decode cX12_clauseOf 17 = .ok (.getfield 140, 3) := by decide +kernel
theorem dX12_clauseOf_20 : decode cX12_clauseOf 20 = .ok (.iaload, 1) := by decide +kernel
theorem dX12_clauseOf_21 : decode cX12_clauseOf 21 = .ok (.imul, 1) := by decide +kernel
theorem dX12_clauseOf_22 : decode cX12_clauseOf 22 = .ok (.iadd, 1) := by decide +kernel
theorem dX12_clauseOf_23 : decode cX12_clauseOf 23 = .ok (.istore_n 2, 1) := by decide +kernel
theorem dX12_clauseOf_24 : decode cX12_clauseOf 24 = .ok (.aload_n 0, 1) := by decide +kernel
theorem dX12_clauseOf_25 : decode cX12_clauseOf 25 = .ok (.getfield 23, 3) := by decide +kernel
theorem dX12_clauseOf_28 : decode cX12_clauseOf 28 = .ok (.iload_n 2, 1) := by decide +kernel
theorem dX12_clauseOf_29 : decode cX12_clauseOf 29 = .ok (.iload_n 1, 1) := by decide +kernel
theorem dX12_clauseOf_30 : decode cX12_clauseOf 30 = .ok (.iastore, 1) := by decide +kernel
theorem dX12_clauseOf_31 : decode cX12_clauseOf 31 = .ok (.aload_n 0, 1) := by decide +kernel
theorem dX12_clauseOf_32 : decode cX12_clauseOf 32 = .ok (.getfield 23, 3) := by decide +kernel
theorem dX12_clauseOf_35 : decode cX12_clauseOf 35 = .ok (.iload_n 2, 1) := by decide +kernel
theorem dX12_clauseOf_36 : decode cX12_clauseOf 36 = .ok (.iconst 1, 1) := by decide +kernel
theorem dX12_clauseOf_37 : decode cX12_clauseOf 37 = .ok (.iadd, 1) := by decide +kernel
theorem dX12_clauseOf_38 : decode cX12_clauseOf 38 = .ok (.aload_n 0, 1) := by decide +kernel
theorem dX12_clauseOf_39 : decode cX12_clauseOf 39 = .ok (.getfield 20, 3) := by decide +kernel
theorem dX12_clauseOf_42 : decode cX12_clauseOf 42 = .ok (.aload_n 0, 1) := by decide +kernel
theorem dX12_clauseOf_43 : decode cX12_clauseOf 43 = .ok (.getfield 140, 3) := by decide +kernel
theorem dX12_clauseOf_46 : decode cX12_clauseOf 46 = .ok (.iaload, 1) := by decide +kernel
theorem dX12_clauseOf_47 : decode cX12_clauseOf 47 = .ok (.iastore, 1) := by decide +kernel
theorem dX12_clauseOf_48 : decode cX12_clauseOf 48 = .ok (.iload_n 1, 1) := by decide +kernel
theorem dX12_clauseOf_49 : decode cX12_clauseOf 49 = .ok (.ifCond .ne 12, 3) := by decide +kernel
theorem dX12_clauseOf_52 : decode cX12_clauseOf 52 = .ok (.aload_n 0, 1) := by decide +kernel
theorem dX12_clauseOf_53 : decode cX12_clauseOf 53 = .ok (.invokevirtual 177, 3) := by decide +kernel
theorem dX12_clauseOf_56 : decode cX12_clauseOf 56 = .ok (.ifCond .ne 5, 3) := by decide +kernel
theorem dX12_clauseOf_59 : decode cX12_clauseOf 59 = .ok (.iconst 0, 1) := by decide +kernel
theorem dX12_clauseOf_60 : decode cX12_clauseOf 60 = .ok (.ireturn, 1) := by decide +kernel
theorem dX12_clauseOf_61 : decode cX12_clauseOf 61 = .ok (.aload_n 0, 1) := by decide +kernel
theorem dX12_clauseOf_62 : decode cX12_clauseOf 62 = .ok (.getfield 23, 3) := by decide +kernel
theorem dX12_clauseOf_65 : decode cX12_clauseOf 65 = .ok (.iload_n 2, 1) := by decide +kernel
theorem dX12_clauseOf_66 : decode cX12_clauseOf 66 = .ok (.iconst 2, 1) := by decide +kernel
theorem dX12_clauseOf_67 : decode cX12_clauseOf 67 = .ok (.iadd, 1) := by decide +kernel
theorem dX12_clauseOf_68 : decode cX12_clauseOf 68 = .ok (.aload_n 0, 1) := by decide +kernel
theorem dX12_clauseOf_69 : decode cX12_clauseOf 69 = .ok (.getfield 20, 3) := by decide +kernel
theorem dX12_clauseOf_72 : decode cX12_clauseOf 72 = .ok (.aload_n 0, 1) := by decide +kernel
theorem dX12_clauseOf_73 : decode cX12_clauseOf 73 = .ok (.getfield 140, 3) := by decide +kernel
theorem dX12_clauseOf_76 : decode cX12_clauseOf 76 = .ok (.iaload, 1) := by decide +kernel
theorem dX12_clauseOf_77 : decode cX12_clauseOf 77 = .ok (.iastore, 1) := by decide +kernel
theorem dX12_clauseOf_78 : decode cX12_clauseOf 78 = .ok (.aload_n 0, 1) := by decide +kernel
theorem dX12_clauseOf_79 : decode cX12_clauseOf 79 = .ok (.getfield 23, 3) := by decide +kernel
theorem dX12_clauseOf_82 : decode cX12_clauseOf 82 = .ok (.iload_n 2, 1) := by decide +kernel
theorem dX12_clauseOf_83 : decode cX12_clauseOf 83 = .ok (.iconst 3, 1) := by decide +kernel
theorem dX12_clauseOf_84 : decode cX12_clauseOf 84 = .ok (.iadd, 1) := by decide +kernel
theorem dX12_clauseOf_85 : decode cX12_clauseOf 85 = .ok (.iconst (-1), 1) := by decide +kernel
theorem dX12_clauseOf_86 : decode cX12_clauseOf 86 = .ok (.iastore, 1) := by decide +kernel
theorem dX12_clauseOf_87 : decode cX12_clauseOf 87 = .ok (.iload_n 1, 1) := by decide +kernel
theorem dX12_clauseOf_88 : decode cX12_clauseOf 88 = .ok (.ifCond .gt 13, 3) := by decide +kernel
theorem dX12_clauseOf_91 : decode cX12_clauseOf 91 = .ok (.aload_n 0, 1) := by decide +kernel
theorem dX12_clauseOf_92 : decode cX12_clauseOf 92 = .ok (.ldc2_w 204, 3) := by decide +kernel
theorem dX12_clauseOf_95 : decode cX12_clauseOf 95 = .ok (.invokevirtual 206, 3) := by decide +kernel
theorem dX12_clauseOf_98 : decode cX12_clauseOf 98 = .ok (.ifCond .eq 29, 3) := by decide +kernel
theorem dX12_clauseOf_101 : decode cX12_clauseOf 101 = .ok (.aload_n 0, 1) := by decide +kernel
theorem dX12_clauseOf_102 : decode cX12_clauseOf 102 = .ok (.getfield 23, 3) := by decide +kernel
theorem dX12_clauseOf_105 : decode cX12_clauseOf 105 = .ok (.iload_n 2, 1) := by decide +kernel
theorem dX12_clauseOf_106 : decode cX12_clauseOf 106 = .ok (.iconst 3, 1) := by decide +kernel
theorem dX12_clauseOf_107 : decode cX12_clauseOf 107 = .ok (.iadd, 1) := by decide +kernel
theorem dX12_clauseOf_108 : decode cX12_clauseOf 108 = .ok (.aload_n 0, 1) := by decide +kernel
theorem dX12_clauseOf_109 : decode cX12_clauseOf 109 = .ok (.getfield 20, 3) := by decide +kernel
theorem dX12_clauseOf_112 : decode cX12_clauseOf 112 = .ok (.aload_n 0, 1) := by decide +kernel
theorem dX12_clauseOf_113 : decode cX12_clauseOf 113 = .ok (.getfield 140, 3) := by decide +kernel
theorem dX12_clauseOf_116 : decode cX12_clauseOf 116 = .ok (.iaload, 1) := by decide +kernel
theorem dX12_clauseOf_117 : decode cX12_clauseOf 117 = .ok (.iastore, 1) := by decide +kernel
theorem dX12_clauseOf_118 : decode cX12_clauseOf 118 = .ok (.aload_n 0, 1) := by decide +kernel
theorem dX12_clauseOf_119 : decode cX12_clauseOf 119 = .ok (.invokevirtual 209, 3) := by decide +kernel
theorem dX12_clauseOf_122 : decode cX12_clauseOf 122 = .ok (.ifCond .ne 5, 3) := by decide +kernel
theorem dX12_clauseOf_125 : decode cX12_clauseOf 125 = .ok (.iconst 0, 1) := by decide +kernel
theorem dX12_clauseOf_126 : decode cX12_clauseOf 126 = .ok (.ireturn, 1) := by decide +kernel
theorem dX12_clauseOf_127 : decode cX12_clauseOf 127 = .ok (.aload_n 0, 1) := by decide +kernel
theorem dX12_clauseOf_128 : decode cX12_clauseOf 128 = .ok (.getfield 23, 3) := by decide +kernel
theorem dX12_clauseOf_131 : decode cX12_clauseOf 131 = .ok (.iload_n 2, 1) := by decide +kernel
theorem dX12_clauseOf_132 : decode cX12_clauseOf 132 = .ok (.iconst 4, 1) := by decide +kernel
theorem dX12_clauseOf_133 : decode cX12_clauseOf 133 = .ok (.iadd, 1) := by decide +kernel
theorem dX12_clauseOf_134 : decode cX12_clauseOf 134 = .ok (.aload_n 0, 1) := by decide +kernel
theorem dX12_clauseOf_135 : decode cX12_clauseOf 135 = .ok (.getfield 20, 3) := by decide +kernel
theorem dX12_clauseOf_138 : decode cX12_clauseOf 138 = .ok (.aload_n 0, 1) := by decide +kernel
theorem dX12_clauseOf_139 : decode cX12_clauseOf 139 = .ok (.getfield 140, 3) := by decide +kernel
theorem dX12_clauseOf_142 : decode cX12_clauseOf 142 = .ok (.iaload, 1) := by decide +kernel
theorem dX12_clauseOf_143 : decode cX12_clauseOf 143 = .ok (.iastore, 1) := by decide +kernel
theorem dX12_clauseOf_144 : decode cX12_clauseOf 144 = .ok (.aload_n 0, 1) := by decide +kernel
theorem dX12_clauseOf_145 : decode cX12_clauseOf 145 = .ok (.getfield 26, 3) := by decide +kernel
theorem dX12_clauseOf_148 : decode cX12_clauseOf 148 = .ok (.aload_n 0, 1) := by decide +kernel
theorem dX12_clauseOf_149 : decode cX12_clauseOf 149 = .ok (.getfield 140, 3) := by decide +kernel
theorem dX12_clauseOf_152 : decode cX12_clauseOf 152 = .ok (.dup2, 1) := by decide +kernel
theorem dX12_clauseOf_153 : decode cX12_clauseOf 153 = .ok (.iaload, 1) := by decide +kernel
theorem dX12_clauseOf_154 : decode cX12_clauseOf 154 = .ok (.iconst 1, 1) := by decide +kernel
theorem dX12_clauseOf_155 : decode cX12_clauseOf 155 = .ok (.iadd, 1) := by decide +kernel
theorem dX12_clauseOf_156 : decode cX12_clauseOf 156 = .ok (.iastore, 1) := by decide +kernel
theorem dX12_clauseOf_157 : decode cX12_clauseOf 157 = .ok (.iconst 1, 1) := by decide +kernel
theorem dX12_clauseOf_158 : decode cX12_clauseOf 158 = .ok (.ireturn, 1) := by decide +kernel
theorem dX12_widens_0 : decode cX12_widens 0 = .ok (.aload_n 0, 1) := by decide +kernel
theorem dX12_widens_1 : decode cX12_widens 1 = .ok (.getfield 212, 3) := by decide +kernel
theorem dX12_widens_4 : decode cX12_widens 4 = .ok (.ifCond .lt 10, 3) := by decide +kernel
theorem dX12_widens_7 : decode cX12_widens 7 = .ok (.aload_n 0, 1) := by decide +kernel
theorem dX12_widens_8 : decode cX12_widens 8 = .ok (.iconst 4, 1) := by decide +kernel
theorem dX12_widens_9 : decode cX12_widens 9 = .ok (.iload_n 1, 1) := by decide +kernel
theorem dX12_widens_10 : decode cX12_widens 10 = .ok (.invokevirtual 105, 3) := by decide +kernel
theorem dX12_widens_13 : decode cX12_widens 13 = .ok (.ireturn, 1) := by decide +kernel
theorem dX12_widens_14 : decode cX12_widens 14 = .ok (.aload_n 0, 1) := by decide +kernel
theorem dX12_widens_15 : decode cX12_widens 15 = .ok (.invokevirtual 99, 3) := by decide +kernel
theorem dX12_widens_18 : decode cX12_widens 18 = .ok (.aload_n 0, 1) := by decide +kernel
theorem dX12_widens_19 : decode cX12_widens 19 = .ok (.iconst 5, 1) := by decide +kernel
theorem dX12_widens_20 : decode cX12_widens 20 = .ok (.bipush 40, 2) := by decide +kernel
theorem dX12_widens_22 : decode cX12_widens 22 = .ok (.invokevirtual 161, 3) := by decide +kernel
theorem dX12_widens_25 : decode cX12_widens 25 = .ok (.ifCond .ne 5, 3) := by decide +kernel
theorem dX12_widens_28 : decode cX12_widens 28 = .ok (.iconst 0, 1) := by decide +kernel
theorem dX12_widens_29 : decode cX12_widens 29 = .ok (.ireturn, 1) := by decide +kernel
theorem dX12_widens_30 : decode cX12_widens 30 = .ok (.aload_n 0, 1) := by decide +kernel
theorem dX12_widens_31 : decode cX12_widens 31 = .ok (.aload_n 0, 1) := by decide +kernel
theorem dX12_widens_32 : decode cX12_widens 32 = .ok (.getfield 109, 3) := by decide +kernel
theorem dX12_widens_35 : decode cX12_widens 35 = .ok (.putfield 212, 3) := by decide +kernel
theorem dX12_widens_38 : decode cX12_widens 38 = .ok (.aload_n 0, 1) := by decide +kernel
theorem dX12_widens_39 : decode cX12_widens 39 = .ok (.iconst 5, 1) := by decide +kernel
theorem dX12_widens_40 : decode cX12_widens 40 = .ok (.bipush 40, 2) := by decide +kernel
theorem dX12_widens_42 : decode cX12_widens 42 = .ok (.invokevirtual 161, 3) := by decide +kernel
theorem dX12_widens_45 : decode cX12_widens 45 = .ok (.ifCond .ne 5, 3) := by decide +kernel
theorem dX12_widens_48 : decode cX12_widens 48 = .ok (.iconst 0, 1) := by decide +kernel
theorem dX12_widens_49 : decode cX12_widens 49 = .ok (.ireturn, 1) := by decide +kernel
theorem dX12_widens_50 : decode cX12_widens 50 = .ok (.aload_n 0, 1) := by decide +kernel
theorem dX12_widens_51 : decode cX12_widens 51 = .ok (.aload_n 0, 1) := by decide +kernel
theorem dX12_widens_52 : decode cX12_widens 52 = .ok (.getfield 109, 3) := by decide +kernel
theorem dX12_widens_55 : decode cX12_widens 55 = .ok (.putfield 215, 3) := by decide +kernel
theorem dX12_widens_58 : decode cX12_widens 58 = .ok (.iconst 1, 1) := by decide +kernel
theorem dX12_widens_59 : decode cX12_widens 59 = .ok (.ireturn, 1) := by decide +kernel
theorem dX12_isWorth_0 : decode cX12_isWorth 0 = .ok (.aload_n 0, 1) := by decide +kernel
theorem dX12_isWorth_1 : decode cX12_isWorth 1 = .ok (.invokevirtual 99, 3) := by decide +kernel
theorem dX12_isWorth_4 : decode cX12_isWorth 4 = .ok (.aload_n 0, 1) := by decide +kernel
theorem dX12_isWorth_5 : decode cX12_isWorth 5 = .ok (.iconst 0, 1) := by decide +kernel
theorem dX12_isWorth_6 : decode cX12_isWorth 6 = .ok (.bipush 99, 2) := by decide +kernel
theorem dX12_isWorth_8 : decode cX12_isWorth 8 = .ok (.invokevirtual 161, 3) := by decide +kernel
theorem dX12_isWorth_11 : decode cX12_isWorth 11 = .ok (.ifCond .ne 5, 3) := by decide +kernel
theorem dX12_isWorth_14 : decode cX12_isWorth 14 = .ok (.iconst 0, 1) := by decide +kernel
theorem dX12_isWorth_15 : decode cX12_isWorth 15 = .ok (.ireturn, 1) := by decide +kernel
theorem dX12_isWorth_16 : decode cX12_isWorth 16 = .ok (.aload_n 0, 1) := by decide +kernel
theorem dX12_isWorth_17 : decode cX12_isWorth 17 = .ok (.getfield 109, 3) := by decide +kernel
theorem dX12_isWorth_20 : decode cX12_isWorth 20 = .ok (.istore_n 1, 1) := by decide +kernel
theorem dX12_isWorth_21 : decode cX12_isWorth 21 = .ok (.aload_n 0, 1) := by decide +kernel
theorem dX12_isWorth_22 : decode cX12_isWorth 22 = .ok (.invokevirtual 230, 3) := by decide +kernel
theorem dX12_isWorth_25 : decode cX12_isWorth 25 = .ok (.ifCond .ne 5, 3) := by decide +kernel
theorem dX12_isWorth_28 : decode cX12_isWorth 28 = .ok (.iconst 0, 1) := by decide +kernel
theorem dX12_isWorth_29 : decode cX12_isWorth 29 = .ok (.ireturn, 1) := by decide +kernel
theorem dX12_isWorth_30 : decode cX12_isWorth 30 = .ok (.aload_n 0, 1) := by decide +kernel
theorem dX12_isWorth_31 : decode cX12_isWorth 31 = .ok (.getfield 221, 3) := by decide +kernel
theorem dX12_isWorth_34 : decode cX12_isWorth 34 = .ok (.istore_n 2, 1) := by decide +kernel
theorem dX12_isWorth_35 : decode cX12_isWorth 35 = .ok (.iload_n 2, 1) := by decide +kernel
theorem dX12_isWorth_36 : decode cX12_isWorth 36 = .ok (.aload_n 0, 1) := by decide +kernel
theorem dX12_isWorth_37 : decode cX12_isWorth 37 = .ok (.getfield 227, 3) := by decide +kernel
theorem dX12_isWorth_40 : decode cX12_isWorth 40 = .ok (.if_icmp .ge 60, 3) := by decide +kernel
theorem dX12_isWorth_43 : decode cX12_isWorth 43 = .ok (.aload_n 0, 1) := by decide +kernel
theorem dX12_isWorth_44 : decode cX12_isWorth 44 = .ok (.getfield 218, 3) := by decide +kernel
theorem dX12_isWorth_47 : decode cX12_isWorth 47 = .ok (.istore_n 3, 1) := by decide +kernel
theorem dX12_isWorth_48 : decode cX12_isWorth 48 = .ok (.iload_n 3, 1) := by decide +kernel
theorem dX12_isWorth_49 : decode cX12_isWorth 49 = .ok (.aload_n 0, 1) := by decide +kernel
theorem dX12_isWorth_50 : decode cX12_isWorth 50 = .ok (.getfield 224, 3) := by decide +kernel
theorem dX12_isWorth_53 : decode cX12_isWorth 53 = .ok (.if_icmp .ge 41, 3) := by decide +kernel
theorem dX12_isWorth_56 : decode cX12_isWorth 56 = .ok (.aload_n 0, 1) := by decide +kernel
theorem dX12_isWorth_57 : decode cX12_isWorth 57 = .ok (.getfield 32, 3) := by decide +kernel
theorem dX12_isWorth_60 : decode cX12_isWorth 60 = .ok (.bipush 40, 2) := by decide +kernel
theorem dX12_isWorth_62 : decode cX12_isWorth 62 = .ok (.iload_n 2, 1) := by decide +kernel
theorem dX12_isWorth_63 : decode cX12_isWorth 63 = .ok (.imul, 1) := by decide +kernel
theorem dX12_isWorth_64 : decode cX12_isWorth 64 = .ok (.iload_n 3, 1) := by decide +kernel
theorem dX12_isWorth_65 : decode cX12_isWorth 65 = .ok (.iadd, 1) := by decide +kernel
theorem dX12_isWorth_66 : decode cX12_isWorth 66 = .ok (.aload_n 0, 1) := by decide +kernel
theorem dX12_isWorth_67 : decode cX12_isWorth 67 = .ok (.getfield 32, 3) := by decide +kernel
theorem dX12_isWorth_70 : decode cX12_isWorth 70 = .ok (.bipush 40, 2) := by decide +kernel
theorem dX12_isWorth_72 : decode cX12_isWorth 72 = .ok (.iload_n 2, 1) := by decide +kernel
theorem dX12_isWorth_73 : decode cX12_isWorth 73 = .ok (.imul, 1) := by decide +kernel
theorem dX12_isWorth_74 : decode cX12_isWorth 74 = .ok (.iload_n 3, 1) := by decide +kernel
theorem dX12_isWorth_75 : decode cX12_isWorth 75 = .ok (.iadd, 1) := by decide +kernel
theorem dX12_isWorth_76 : decode cX12_isWorth 76 = .ok (.iaload, 1) := by decide +kernel
theorem dX12_isWorth_77 : decode cX12_isWorth 77 = .ok (.sipush 128, 3) := by decide +kernel
theorem dX12_isWorth_80 : decode cX12_isWorth 80 = .ok (.idiv, 1) := by decide +kernel
theorem dX12_isWorth_81 : decode cX12_isWorth 81 = .ok (.sipush 128, 3) := by decide +kernel
theorem dX12_isWorth_84 : decode cX12_isWorth 84 = .ok (.imul, 1) := by decide +kernel
theorem dX12_isWorth_85 : decode cX12_isWorth 85 = .ok (.iload_n 1, 1) := by decide +kernel
theorem dX12_isWorth_86 : decode cX12_isWorth 86 = .ok (.iadd, 1) := by decide +kernel
theorem dX12_isWorth_87 : decode cX12_isWorth 87 = .ok (.iastore, 1) := by decide +kernel
theorem dX12_isWorth_88 : decode cX12_isWorth 88 = .ok (.iinc 3 1, 3) := by decide +kernel
theorem dX12_isWorth_91 : decode cX12_isWorth 91 = .ok (.goto (-43), 3) := by decide +kernel
theorem dX12_isWorth_94 : decode cX12_isWorth 94 = .ok (.iinc 2 1, 3) := by decide +kernel
theorem dX12_isWorth_97 : decode cX12_isWorth 97 = .ok (.goto (-62), 3) := by decide +kernel
theorem dX12_isWorth_100 : decode cX12_isWorth 100 = .ok (.iconst 1, 1) := by decide +kernel
theorem dX12_isWorth_101 : decode cX12_isWorth 101 = .ok (.ireturn, 1) := by decide +kernel
theorem dX12_isWellHere_0 : decode cX12_isWellHere 0 = .ok (.aload_n 0, 1) := by decide +kernel
theorem dX12_isWellHere_1 : decode cX12_isWellHere 1 = .ok (.invokevirtual 99, 3) := by decide +kernel
theorem dX12_isWellHere_4 : decode cX12_isWellHere 4 = .ok (.aload_n 0, 1) := by decide +kernel
theorem dX12_isWellHere_5 : decode cX12_isWellHere 5 = .ok (.iconst 0, 1) := by decide +kernel
theorem dX12_isWellHere_6 : decode cX12_isWellHere 6 = .ok (.bipush 39, 2) := by decide +kernel
theorem dX12_isWellHere_8 : decode cX12_isWellHere 8 = .ok (.invokevirtual 161, 3) := by decide +kernel
theorem dX12_isWellHere_11 : decode cX12_isWellHere 11 = .ok (.ifCond .ne 5, 3) := by decide +kernel
theorem dX12_isWellHere_14 : decode cX12_isWellHere 14 = .ok (.iconst 0, 1) := by decide +kernel
theorem dX12_isWellHere_15 : decode cX12_isWellHere 15 = .ok (.ireturn, 1) := by decide +kernel
theorem dX12_isWellHere_16 : decode cX12_isWellHere 16 = .ok (.aload_n 0, 1) := by decide +kernel
theorem dX12_isWellHere_17 : decode cX12_isWellHere 17 = .ok (.getfield 109, 3) := by decide +kernel
theorem dX12_isWellHere_20 : decode cX12_isWellHere 20 = .ok (.istore_n 1, 1) := by decide +kernel
theorem dX12_isWellHere_21 : decode cX12_isWellHere 21 = .ok (.aload_n 0, 1) := by decide +kernel
theorem dX12_isWellHere_22 : decode cX12_isWellHere 22 = .ok (.iconst 0, 1) := by decide +kernel
theorem dX12_isWellHere_23 : decode cX12_isWellHere 23 = .ok (.bipush 39, 2) := by decide +kernel
theorem dX12_isWellHere_25 : decode cX12_isWellHere 25 = .ok (.invokevirtual 161, 3) := by decide +kernel
theorem dX12_isWellHere_28 : decode cX12_isWellHere 28 = .ok (.ifCond .ne 5, 3) := by decide +kernel
theorem dX12_isWellHere_31 : decode cX12_isWellHere 31 = .ok (.iconst 0, 1) := by decide +kernel
theorem dX12_isWellHere_32 : decode cX12_isWellHere 32 = .ok (.ireturn, 1) := by decide +kernel
theorem dX12_isWellHere_33 : decode cX12_isWellHere 33 = .ok (.aload_n 0, 1) := by decide +kernel
theorem dX12_isWellHere_34 : decode cX12_isWellHere 34 = .ok (.getfield 32, 3) := by decide +kernel
theorem dX12_isWellHere_37 : decode cX12_isWellHere 37 = .ok (.bipush 40, 2) := by decide +kernel
theorem dX12_isWellHere_39 : decode cX12_isWellHere 39 = .ok (.aload_n 0, 1) := by decide +kernel
theorem dX12_isWellHere_40 : decode cX12_isWellHere 40 = .ok (.getfield 109, 3) := by decide +kernel
theorem dX12_isWellHere_43 : decode cX12_isWellHere 43 = .ok (.imul, 1) := by decide +kernel
theorem dX12_isWellHere_44 : decode cX12_isWellHere 44 = .ok (.iload_n 1, 1) := by decide +kernel
theorem dX12_isWellHere_45 : decode cX12_isWellHere 45 = .ok (.iadd, 1) := by decide +kernel
theorem dX12_isWellHere_46 : decode cX12_isWellHere 46 = .ok (.dup2, 1) := by decide +kernel
theorem dX12_isWellHere_47 : decode cX12_isWellHere 47 = .ok (.iaload, 1) := by decide +kernel
theorem dX12_isWellHere_48 : decode cX12_isWellHere 48 = .ok (.sipush 256, 3) := by decide +kernel
theorem dX12_isWellHere_51 : decode cX12_isWellHere 51 = .ok (.ior, 1) := by decide +kernel
theorem dX12_isWellHere_52 : decode cX12_isWellHere 52 = .ok (.iastore, 1) := by decide +kernel
theorem dX12_isWellHere_53 : decode cX12_isWellHere 53 = .ok (.iconst 1, 1) := by decide +kernel
theorem dX12_isWellHere_54 : decode cX12_isWellHere 54 = .ok (.ireturn, 1) := by decide +kernel
theorem dX12_clauseHere_0 : decode cX12_clauseHere 0 = .ok (.aload_n 0, 1) := by decide +kernel
theorem dX12_clauseHere_1 : decode cX12_clauseHere 1 = .ok (.invokevirtual 87, 3) := by decide +kernel
theorem dX12_clauseHere_4 : decode cX12_clauseHere 4 = .ok (.pop, 1) := by decide +kernel
theorem dX12_clauseHere_5 : decode cX12_clauseHere 5 = .ok (.aload_n 0, 1) := by decide +kernel
theorem dX12_clauseHere_6 : decode cX12_clauseHere 6 = .ok (.getfield 84, 3) := by decide +kernel
theorem dX12_clauseHere_9 : decode cX12_clauseHere 9 = .ok (.istore_n 1, 1) := by decide +kernel
theorem dX12_clauseHere_10 : decode cX12_clauseHere 10 = .ok (.aload_n 0, 1) := by decide +kernel
theorem dX12_clauseHere_11 : decode cX12_clauseHere 11 = .ok (.ldc2_w 240, 3) := by decide +kernel
theorem dX12_clauseHere_14 : decode cX12_clauseHere 14 = .ok (.invokevirtual 95, 3) := by decide +kernel
theorem dX12_clauseHere_17 : decode cX12_clauseHere 17 = .ok (.ifCond .ne 43, 3) := by decide +kernel
theorem dX12_clauseHere_20 : decode cX12_clauseHere 20 = .ok (.aload_n 0, 1) := by decide +kernel
theorem dX12_clauseHere_21 : decode cX12_clauseHere 21 = .ok (.ldc2_w 124, 3) := by decide +kernel
theorem dX12_clauseHere_24 : decode cX12_clauseHere 24 = .ok (.invokevirtual 95, 3) := by decide +kernel
theorem dX12_clauseHere_27 : decode cX12_clauseHere 27 = .ok (.ifCond .ne 33, 3) := by decide +kernel
theorem dX12_clauseHere_30 : decode cX12_clauseHere 30 = .ok (.aload_n 0, 1) := by decide +kernel
theorem dX12_clauseHere_31 : decode cX12_clauseHere 31 = .ok (.ldc2_w 128, 3) := by decide +kernel
theorem dX12_clauseHere_34 : decode cX12_clauseHere 34 = .ok (.invokevirtual 95, 3) := by decide +kernel
theorem dX12_clauseHere_37 : decode cX12_clauseHere 37 = .ok (.ifCond .ne 23, 3) := by decide +kernel
theorem dX12_clauseHere_40 : decode cX12_clauseHere 40 = .ok (.aload_n 0, 1) := by decide +kernel
theorem dX12_clauseHere_41 : decode cX12_clauseHere 41 = .ok (.ldc2_w 242, 3) := by decide +kernel
theorem dX12_clauseHere_44 : decode cX12_clauseHere 44 = .ok (.invokevirtual 95, 3) := by decide +kernel
theorem dX12_clauseHere_47 : decode cX12_clauseHere 47 = .ok (.ifCond .ne 13, 3) := by decide +kernel
theorem dX12_clauseHere_50 : decode cX12_clauseHere 50 = .ok (.aload_n 0, 1) := by decide +kernel
theorem dX12_clauseHere_51 : decode cX12_clauseHere 51 = .ok (.ldc2_w 244, 3) := by decide +kernel
theorem dX12_clauseHere_54 : decode cX12_clauseHere 54 = .ok (.invokevirtual 95, 3) := by decide +kernel
theorem dX12_clauseHere_57 : decode cX12_clauseHere 57 = .ok (.ifCond .eq 7, 3) := by decide +kernel
theorem dX12_clauseHere_60 : decode cX12_clauseHere 60 = .ok (.iconst 1, 1) := by decide +kernel
theorem dX12_clauseHere_61 : decode cX12_clauseHere 61 = .ok (.goto 4, 3) := by decide +kernel
theorem dX12_clauseHere_64 : decode cX12_clauseHere 64 = .ok (.iconst 0, 1) := by decide +kernel
theorem dX12_clauseHere_65 : decode cX12_clauseHere 65 = .ok (.istore_n 2, 1) := by decide +kernel
theorem dX12_clauseHere_66 : decode cX12_clauseHere 66 = .ok (.aload_n 0, 1) := by decide +kernel
theorem dX12_clauseHere_67 : decode cX12_clauseHere 67 = .ok (.ldc2_w 246, 3) := by decide +kernel
theorem dX12_clauseHere_70 : decode cX12_clauseHere 70 = .ok (.invokevirtual 95, 3) := by decide +kernel
theorem dX12_clauseHere_73 : decode cX12_clauseHere 73 = .ok (.ifCond .ne 33, 3) := by decide +kernel
theorem dX12_clauseHere_76 : decode cX12_clauseHere 76 = .ok (.aload_n 0, 1) := by decide +kernel
theorem dX12_clauseHere_77 : decode cX12_clauseHere 77 = .ok (.ldc2_w 248, 3) := by decide +kernel
theorem dX12_clauseHere_80 : decode cX12_clauseHere 80 = .ok (.invokevirtual 95, 3) := by decide +kernel
theorem dX12_clauseHere_83 : decode cX12_clauseHere 83 = .ok (.ifCond .ne 23, 3) := by decide +kernel
theorem dX12_clauseHere_86 : decode cX12_clauseHere 86 = .ok (.aload_n 0, 1) := by decide +kernel
theorem dX12_clauseHere_87 : decode cX12_clauseHere 87 = .ok (.ldc2_w 180, 3) := by decide +kernel
theorem dX12_clauseHere_90 : decode cX12_clauseHere 90 = .ok (.invokevirtual 95, 3) := by decide +kernel
theorem dX12_clauseHere_93 : decode cX12_clauseHere 93 = .ok (.ifCond .ne 13, 3) := by decide +kernel
theorem dX12_clauseHere_96 : decode cX12_clauseHere 96 = .ok (.aload_n 0, 1) := by decide +kernel
theorem dX12_clauseHere_97 : decode cX12_clauseHere 97 = .ok (.ldc2_w 250, 3) := by decide +kernel
theorem dX12_clauseHere_100 : decode cX12_clauseHere 100 = .ok (.invokevirtual 95, 3) := by decide +kernel
theorem dX12_clauseHere_103 : decode cX12_clauseHere 103 = .ok (.ifCond .eq 7, 3) := by decide +kernel
theorem dX12_clauseHere_106 : decode cX12_clauseHere 106 = .ok (.iconst 1, 1) := by decide +kernel
theorem dX12_clauseHere_107 : decode cX12_clauseHere 107 = .ok (.goto 4, 3) := by decide +kernel
theorem dX12_clauseHere_110 : decode cX12_clauseHere 110 = .ok (.iconst 0, 1) := by decide +kernel
theorem dX12_clauseHere_111 : decode cX12_clauseHere 111 = .ok (.istore_n 3, 1) := by decide +kernel
theorem dX12_clauseHere_112 : decode cX12_clauseHere 112 = .ok (.aload_n 0, 1) := by decide +kernel
theorem dX12_clauseHere_113 : decode cX12_clauseHere 113 = .ok (.getfield 140, 3) := by decide +kernel
theorem dX12_clauseHere_116 : decode cX12_clauseHere 116 = .ok (.bipush 12, 2) := by decide +kernel
theorem dX12_clauseHere_118 : decode cX12_clauseHere 118 = .ok (.if_icmp .ne 7, 3) := by decide +kernel
theorem dX12_clauseHere_121 : decode cX12_clauseHere 121 = .ok (.iload_n 2, 1) := by decide +kernel
theorem dX12_clauseHere_122 : decode cX12_clauseHere 122 = .ok (.goto 23, 3) := by decide +kernel
theorem dX12_clauseHere_125 : decode cX12_clauseHere 125 = .ok (.aload_n 0, 1) := by decide +kernel
theorem dX12_clauseHere_126 : decode cX12_clauseHere 126 = .ok (.getfield 140, 3) := by decide +kernel
theorem dX12_clauseHere_129 : decode cX12_clauseHere 129 = .ok (.bipush 6, 2) := by decide +kernel
theorem dX12_clauseHere_131 : decode cX12_clauseHere 131 = .ok (.if_icmp .ge 7, 3) := by decide +kernel
theorem dX12_clauseHere_134 : decode cX12_clauseHere 134 = .ok (.iload_n 3, 1) := by decide +kernel
theorem dX12_clauseHere_135 : decode cX12_clauseHere 135 = .ok (.goto 10, 3) := by decide +kernel
theorem dX12_clauseHere_138 : decode cX12_clauseHere 138 = .ok (.aload_n 0, 1) := by decide +kernel
theorem dX12_clauseHere_139 : decode cX12_clauseHere 139 = .ok (.ldc2_w 252, 3) := by decide +kernel
theorem dX12_clauseHere_142 : decode cX12_clauseHere 142 = .ok (.invokevirtual 95, 3) := by decide +kernel
theorem dX12_clauseHere_145 : decode cX12_clauseHere 145 = .ok (.istore 4, 2) := by decide +kernel
theorem dX12_clauseHere_147 : decode cX12_clauseHere 147 = .ok (.iload 4, 2) := by decide +kernel
theorem dX12_clauseHere_149 : decode cX12_clauseHere 149 = .ok (.ifCond .ne 10, 3) := by decide +kernel
theorem dX12_clauseHere_152 : decode cX12_clauseHere 152 = .ok (.aload_n 0, 1) := by decide +kernel
theorem dX12_clauseHere_153 : decode cX12_clauseHere 153 = .ok (.iconst 0, 1) := by decide +kernel
theorem dX12_clauseHere_154 : decode cX12_clauseHere 154 = .ok (.iload_n 1, 1) := by decide +kernel
theorem dX12_clauseHere_155 : decode cX12_clauseHere 155 = .ok (.invokevirtual 105, 3) := by decide +kernel
theorem dX12_clauseHere_158 : decode cX12_clauseHere 158 = .ok (.ireturn, 1) := by decide +kernel
theorem dX12_clauseHere_159 : decode cX12_clauseHere 159 = .ok (.aload_n 0, 1) := by decide +kernel
theorem dX12_clauseHere_160 : decode cX12_clauseHere 160 = .ok (.getfield 254, 3) := by decide +kernel
theorem dX12_clauseHere_163 : decode cX12_clauseHere 163 = .ok (.aload_n 0, 1) := by decide +kernel
theorem dX12_clauseHere_164 : decode cX12_clauseHere 164 = .ok (.getfield 140, 3) := by decide +kernel
theorem dX12_clauseHere_167 : decode cX12_clauseHere 167 = .ok (.bipush 12, 2) := by decide +kernel
theorem dX12_clauseHere_169 : decode cX12_clauseHere 169 = .ok (.if_icmp .ne 8, 3) := by decide +kernel
theorem dX12_clauseHere_172 : decode cX12_clauseHere 172 = .ok (.bipush 24, 2) := by decide +kernel
theorem dX12_clauseHere_174 : decode cX12_clauseHere 174 = .ok (.goto 5, 3) := by decide +kernel
theorem dX12_clauseHere_177 : decode cX12_clauseHere 177 = .ok (.bipush 12, 2) := by decide +kernel
theorem dX12_clauseHere_179 : decode cX12_clauseHere 179 = .ok (.if_icmp .ne 10, 3) := by decide +kernel
theorem dX12_clauseHere_182 : decode cX12_clauseHere 182 = .ok (.aload_n 0, 1) := by decide +kernel
theorem dX12_clauseHere_183 : decode cX12_clauseHere 183 = .ok (.iconst 4, 1) := by decide +kernel
theorem dX12_clauseHere_184 : decode cX12_clauseHere 184 = .ok (.iload_n 1, 1) := by decide +kernel
theorem dX12_clauseHere_185 : decode cX12_clauseHere 185 = .ok (.invokevirtual 105, 3) := by decide +kernel
theorem dX12_clauseHere_188 : decode cX12_clauseHere 188 = .ok (.ireturn, 1) := by decide +kernel
theorem dX12_clauseHere_189 : decode cX12_clauseHere 189 = .ok (.aload_n 0, 1) := by decide +kernel
theorem dX12_clauseHere_190 : decode cX12_clauseHere 190 = .ok (.dup, 1) := by decide +kernel
theorem dX12_clauseHere_191 : decode cX12_clauseHere 191 = .ok (.getfield 254, 3) := by decide +kernel
theorem dX12_clauseHere_194 : decode cX12_clauseHere 194 = .ok (.iconst 1, 1) := by decide +kernel
theorem dX12_clauseHere_195 : decode cX12_clauseHere 195 = .ok (.iadd, 1) := by decide +kernel
theorem dX12_clauseHere_196 : decode cX12_clauseHere 196 = .ok (.putfield 254, 3) := by decide +kernel
theorem dX12_clauseHere_199 : decode cX12_clauseHere 199 = .ok (.aload_n 0, 1) := by decide +kernel
theorem dX12_clauseHere_200 : decode cX12_clauseHere 200 = .ok (.getfield 140, 3) := by decide +kernel
theorem dX12_clauseHere_203 : decode cX12_clauseHere 203 = .ok (.bipush 12, 2) := by decide +kernel
theorem dX12_clauseHere_205 : decode cX12_clauseHere 205 = .ok (.if_icmp .ne 78, 3) := by decide +kernel
theorem dX12_clauseHere_208 : decode cX12_clauseHere 208 = .ok (.aload_n 0, 1) := by decide +kernel
theorem dX12_clauseHere_209 : decode cX12_clauseHere 209 = .ok (.ldc2_w 240, 3) := by decide +kernel
theorem dX12_clauseHere_212 : decode cX12_clauseHere 212 = .ok (.invokevirtual 95, 3) := by decide +kernel
theorem dX12_clauseHere_215 : decode cX12_clauseHere 215 = .ok (.ifCond .eq 11, 3) := by decide +kernel
theorem dX12_clauseHere_218 : decode cX12_clauseHere 218 = .ok (.aload_n 0, 1) := by decide +kernel
theorem dX12_clauseHere_219 : decode cX12_clauseHere 219 = .ok (.iload_n 1, 1) := by decide +kernel
theorem dX12_clauseHere_220 : decode cX12_clauseHere 220 = .ok (.invokevirtual 257, 3) := by decide +kernel
theorem dX12_clauseHere_223 : decode cX12_clauseHere 223 = .ok (.goto 59, 3) := by decide +kernel
theorem dX12_clauseHere_226 : decode cX12_clauseHere 226 = .ok (.aload_n 0, 1) := by decide +kernel
theorem dX12_clauseHere_227 : decode cX12_clauseHere 227 = .ok (.ldc2_w 124, 3) := by decide +kernel
theorem dX12_clauseHere_230 : decode cX12_clauseHere 230 = .ok (.invokevirtual 95, 3) := by decide +kernel
theorem dX12_clauseHere_233 : decode cX12_clauseHere 233 = .ok (.ifCond .eq 10, 3) := by decide +kernel
theorem dX12_clauseHere_236 : decode cX12_clauseHere 236 = .ok (.aload_n 0, 1) := by decide +kernel
theorem dX12_clauseHere_237 : decode cX12_clauseHere 237 = .ok (.invokevirtual 260, 3) := by decide +kernel
theorem dX12_clauseHere_240 : decode cX12_clauseHere 240 = .ok (.goto 42, 3) := by decide +kernel
theorem dX12_clauseHere_243 : decode cX12_clauseHere 243 = .ok (.aload_n 0, 1) := by decide +kernel
theorem dX12_clauseHere_244 : decode cX12_clauseHere 244 = .ok (.ldc2_w 128, 3) := by decide +kernel
theorem dX12_clauseHere_247 : decode cX12_clauseHere 247 = .ok (.invokevirtual 95, 3) := by decide +kernel
theorem dX12_clauseHere_250 : decode cX12_clauseHere 250 = .ok (.ifCond .eq 10, 3) := by decide +kernel
theorem dX12_clauseHere_253 : decode cX12_clauseHere 253 = .ok (.aload_n 0, 1) := by decide +kernel
theorem dX12_clauseHere_254 : decode cX12_clauseHere 254 = .ok (.invokevirtual 263, 3) := by decide +kernel
theorem dX12_clauseHere_257 : decode cX12_clauseHere 257 = .ok (.goto 25, 3) := by decide +kernel
theorem dX12_clauseHere_260 : decode cX12_clauseHere 260 = .ok (.aload_n 0, 1) := by decide +kernel
theorem dX12_clauseHere_261 : decode cX12_clauseHere 261 = .ok (.ldc2_w 242, 3) := by decide +kernel
theorem dX12_clauseHere_264 : decode cX12_clauseHere 264 = .ok (.invokevirtual 95, 3) := by decide +kernel
theorem dX12_clauseHere_267 : decode cX12_clauseHere 267 = .ok (.ifCond .eq 10, 3) := by decide +kernel
theorem dX12_clauseHere_270 : decode cX12_clauseHere 270 = .ok (.aload_n 0, 1) := by decide +kernel
theorem dX12_clauseHere_271 : decode cX12_clauseHere 271 = .ok (.invokevirtual 266, 3) := by decide +kernel
theorem dX12_clauseHere_274 : decode cX12_clauseHere 274 = .ok (.goto 8, 3) := by decide +kernel
theorem dX12_clauseHere_277 : decode cX12_clauseHere 277 = .ok (.aload_n 0, 1) := by decide +kernel
theorem dX12_clauseHere_278 : decode cX12_clauseHere 278 = .ok (.iload_n 1, 1) := by decide +kernel
theorem dX12_clauseHere_279 : decode cX12_clauseHere 279 = .ok (.invokevirtual 269, 3) := by decide +kernel
theorem dX12_clauseHere_282 : decode cX12_clauseHere 282 = .ok (.ireturn, 1) := by decide +kernel
theorem dX12_clauseHere_283 : decode cX12_clauseHere 283 = .ok (.aload_n 0, 1) := by decide +kernel
theorem dX12_clauseHere_284 : decode cX12_clauseHere 284 = .ok (.ldc2_w 250, 3) := by decide +kernel
theorem dX12_clauseHere_287 : decode cX12_clauseHere 287 = .ok (.invokevirtual 95, 3) := by decide +kernel
theorem dX12_clauseHere_290 : decode cX12_clauseHere 290 = .ok (.ifCond .eq 9, 3) := by decide +kernel
theorem dX12_clauseHere_293 : decode cX12_clauseHere 293 = .ok (.aload_n 0, 1) := by decide +kernel
theorem dX12_clauseHere_294 : decode cX12_clauseHere 294 = .ok (.iload_n 1, 1) := by decide +kernel
theorem dX12_clauseHere_295 : decode cX12_clauseHere 295 = .ok (.invokevirtual 272, 3) := by decide +kernel
theorem dX12_clauseHere_298 : decode cX12_clauseHere 298 = .ok (.ireturn, 1) := by decide +kernel
theorem dX12_clauseHere_299 : decode cX12_clauseHere 299 = .ok (.aload_n 0, 1) := by decide +kernel
theorem dX12_clauseHere_300 : decode cX12_clauseHere 300 = .ok (.aload_n 0, 1) := by decide +kernel
theorem dX12_clauseHere_301 : decode cX12_clauseHere 301 = .ok (.ldc2_w 248, 3) := by decide +kernel
theorem dX12_clauseHere_304 : decode cX12_clauseHere 304 = .ok (.invokevirtual 95, 3) := by decide +kernel
theorem dX12_clauseHere_307 : decode cX12_clauseHere 307 = .ok (.ifCond .eq 7, 3) := by decide +kernel
theorem dX12_clauseHere_310 : decode cX12_clauseHere 310 = .ok (.iconst 1, 1) := by decide +kernel
theorem dX12_clauseHere_311 : decode cX12_clauseHere 311 = .ok (.goto 18, 3) := by decide +kernel
theorem dX12_clauseHere_314 : decode cX12_clauseHere 314 = .ok (.aload_n 0, 1) := by decide +kernel
theorem dX12_clauseHere_315 : decode cX12_clauseHere 315 = .ok (.ldc2_w 180, 3) := by decide +kernel
theorem dX12_clauseHere_318 : decode cX12_clauseHere 318 = .ok (.invokevirtual 95, 3) := by decide +kernel
theorem dX12_clauseHere_321 : decode cX12_clauseHere 321 = .ok (.ifCond .eq 7, 3) := by decide +kernel
theorem dX12_clauseHere_324 : decode cX12_clauseHere 324 = .ok (.iconst 2, 1) := by decide +kernel
theorem dX12_clauseHere_325 : decode cX12_clauseHere 325 = .ok (.goto 4, 3) := by decide +kernel
theorem dX12_clauseHere_328 : decode cX12_clauseHere 328 = .ok (.iconst 0, 1) := by decide +kernel
theorem dX12_clauseHere_329 : decode cX12_clauseHere 329 = .ok (.invokevirtual 275, 3) := by decide +kernel
theorem dX12_clauseHere_332 : decode cX12_clauseHere 332 = .ok (.ireturn, 1) := by decide +kernel
theorem dX12_text_0 : decode cX12_text 0 = .ok (.iload_n 1, 1) := by decide +kernel
theorem dX12_text_1 : decode cX12_text 1 = .ok (.i2l, 1) := by decide +kernel
theorem dX12_text_2 : decode cX12_text 2 = .ok (.lconst 0, 1) := by decide +kernel
theorem dX12_text_3 : decode cX12_text 3 = .ok (.lconst 1, 1) := by decide +kernel
theorem dX12_text_4 : decode cX12_text 4 = .ok (.invokestatic 112, 3) := by decide +kernel
theorem dX12_text_7 : decode cX12_text 7 = .ok (.ifCond .eq 14, 3) := by decide +kernel
theorem dX12_text_10 : decode cX12_text 10 = .ok (.aload_n 0, 1) := by decide +kernel
theorem dX12_text_11 : decode cX12_text 11 = .ok (.getfield 13, 3) := by decide +kernel
theorem dX12_text_14 : decode cX12_text 14 = .ok (.iload_n 1, 1) := by decide +kernel
theorem dX12_text_15 : decode cX12_text 15 = .ok (.iaload, 1) := by decide +kernel
theorem dX12_text_16 : decode cX12_text 16 = .ok (.bipush 6, 2) := by decide +kernel
theorem dX12_text_18 : decode cX12_text 18 = .ok (.if_icmp .ne 5, 3) := by decide +kernel
theorem dX12_text_21 : decode cX12_text 21 = .ok (.iconst (-1), 1) := by decide +kernel
theorem dX12_text_22 : decode cX12_text 22 = .ok (.ireturn, 1) := by decide +kernel
theorem dX12_text_23 : decode cX12_text 23 = .ok (.aload_n 0, 1) := by decide +kernel
theorem dX12_text_24 : decode cX12_text 24 = .ok (.bipush 6, 2) := by decide +kernel
theorem dX12_text_26 : decode cX12_text 26 = .ok (.iload_n 1, 1) := by decide +kernel
theorem dX12_text_27 : decode cX12_text 27 = .ok (.imul, 1) := by decide +kernel
theorem dX12_text_28 : decode cX12_text 28 = .ok (.aload_n 0, 1) := by decide +kernel
theorem dX12_text_29 : decode cX12_text 29 = .ok (.getfield 13, 3) := by decide +kernel
theorem dX12_text_32 : decode cX12_text 32 = .ok (.iload_n 1, 1) := by decide +kernel
theorem dX12_text_33 : decode cX12_text 33 = .ok (.iaload, 1) := by decide +kernel
theorem dX12_text_34 : decode cX12_text 34 = .ok (.iadd, 1) := by decide +kernel
theorem dX12_text_35 : decode cX12_text 35 = .ok (.putfield 140, 3) := by decide +kernel
theorem dX12_text_38 : decode cX12_text 38 = .ok (.aload_n 0, 1) := by decide +kernel
theorem dX12_text_39 : decode cX12_text 39 = .ok (.getfield 26, 3) := by decide +kernel
theorem dX12_text_42 : decode cX12_text 42 = .ok (.aload_n 0, 1) := by decide +kernel
theorem dX12_text_43 : decode cX12_text 43 = .ok (.getfield 140, 3) := by decide +kernel
theorem dX12_text_46 : decode cX12_text 46 = .ok (.iconst 0, 1) := by decide +kernel
theorem dX12_text_47 : decode cX12_text 47 = .ok (.iastore, 1) := by decide +kernel
theorem dX12_text_48 : decode cX12_text 48 = .ok (.aload_n 0, 1) := by decide +kernel
theorem dX12_text_49 : decode cX12_text 49 = .ok (.getfield 29, 3) := by decide +kernel
theorem dX12_text_52 : decode cX12_text 52 = .ok (.aload_n 0, 1) := by decide +kernel
theorem dX12_text_53 : decode cX12_text 53 = .ok (.getfield 140, 3) := by decide +kernel
theorem dX12_text_56 : decode cX12_text 56 = .ok (.iconst (-1), 1) := by decide +kernel
theorem dX12_text_57 : decode cX12_text 57 = .ok (.iastore, 1) := by decide +kernel
theorem dX12_text_58 : decode cX12_text 58 = .ok (.aload_n 0, 1) := by decide +kernel
theorem dX12_text_59 : decode cX12_text 59 = .ok (.invokevirtual 281, 3) := by decide +kernel
theorem dX12_text_62 : decode cX12_text 62 = .ok (.istore_n 2, 1) := by decide +kernel
theorem dX12_text_63 : decode cX12_text 63 = .ok (.aload_n 0, 1) := by decide +kernel
theorem dX12_text_64 : decode cX12_text 64 = .ok (.iconst 0, 1) := by decide +kernel
theorem dX12_text_65 : decode cX12_text 65 = .ok (.putfield 73, 3) := by decide +kernel
theorem dX12_text_68 : decode cX12_text 68 = .ok (.iload_n 2, 1) := by decide +kernel
theorem dX12_text_69 : decode cX12_text 69 = .ok (.ifCond .ne 11, 3) := by decide +kernel
theorem dX12_text_72 : decode cX12_text 72 = .ok (.bipush (-2), 2) := by decide +kernel
theorem dX12_text_74 : decode cX12_text 74 = .ok (.aload_n 0, 1) := by decide +kernel
theorem dX12_text_75 : decode cX12_text 75 = .ok (.getfield 81, 3) := by decide +kernel
theorem dX12_text_78 : decode cX12_text 78 = .ok (.isub, 1) := by decide +kernel
theorem dX12_text_79 : decode cX12_text 79 = .ok (.ireturn, 1) := by decide +kernel
theorem dX12_text_80 : decode cX12_text 80 = .ok (.aload_n 0, 1) := by decide +kernel
theorem dX12_text_81 : decode cX12_text 81 = .ok (.getfield 13, 3) := by decide +kernel
theorem dX12_text_84 : decode cX12_text 84 = .ok (.iload_n 1, 1) := by decide +kernel
theorem dX12_text_85 : decode cX12_text 85 = .ok (.dup2, 1) := by decide +kernel
theorem dX12_text_86 : decode cX12_text 86 = .ok (.iaload, 1) := by decide +kernel
theorem dX12_text_87 : decode cX12_text 87 = .ok (.iconst 1, 1) := by decide +kernel
theorem dX12_text_88 : decode cX12_text 88 = .ok (.iadd, 1) := by decide +kernel
theorem dX12_text_89 : decode cX12_text 89 = .ok (.iastore, 1) := by decide +kernel
theorem dX12_text_90 : decode cX12_text 90 = .ok (.aload_n 0, 1) := by decide +kernel
theorem dX12_text_91 : decode cX12_text 91 = .ok (.getfield 13, 3) := by decide +kernel
theorem dX12_text_94 : decode cX12_text 94 = .ok (.iload_n 1, 1) := by decide +kernel
theorem dX12_text_95 : decode cX12_text 95 = .ok (.iaload, 1) := by decide +kernel
theorem dX12_text_96 : decode cX12_text 96 = .ok (.iconst 1, 1) := by decide +kernel
theorem dX12_text_97 : decode cX12_text 97 = .ok (.isub, 1) := by decide +kernel
theorem dX12_text_98 : decode cX12_text 98 = .ok (.ireturn, 1) := by decide +kernel
theorem dX12_isText_0 : decode cX12_isText 0 = .ok (.iload_n 2, 1) := by decide +kernel
theorem dX12_isText_1 : decode cX12_isText 1 = .ok (.ifCond .lt 17, 3) := by decide +kernel
theorem dX12_isText_4 : decode cX12_isText 4 = .ok (.iload_n 2, 1) := by decide +kernel
theorem dX12_isText_5 : decode cX12_isText 5 = .ok (.aload_n 0, 1) := by decide +kernel
theorem dX12_isText_6 : decode cX12_isText 6 = .ok (.getfield 13, 3) := by decide +kernel
theorem dX12_isText_9 : decode cX12_isText 9 = .ok (.iload_n 1, 1) := by decide +kernel
theorem dX12_isText_10 : decode cX12_isText 10 = .ok (.iaload, 1) := by decide +kernel
theorem dX12_isText_11 : decode cX12_isText 11 = .ok (.if_icmp .ge 7, 3) := by decide +kernel
theorem dX12_isText_14 : decode cX12_isText 14 = .ok (.iconst 1, 1) := by decide +kernel
theorem dX12_isText_15 : decode cX12_isText 15 = .ok (.goto 4, 3) := by decide +kernel
theorem dX12_isText_18 : decode cX12_isText 18 = .ok (.iconst 0, 1) := by decide +kernel
theorem dX12_isText_19 : decode cX12_isText 19 = .ok (.ireturn, 1) := by decide +kernel
theorem dX12_pop_0 : decode cX12_pop 0 = .ok (.aload_n 0, 1) := by decide +kernel
theorem dX12_pop_1 : decode cX12_pop 1 = .ok (.dup, 1) := by decide +kernel
theorem dX12_pop_2 : decode cX12_pop 2 = .ok (.getfield 291, 3) := by decide +kernel
theorem dX12_pop_5 : decode cX12_pop 5 = .ok (.iconst 1, 1) := by decide +kernel
theorem dX12_pop_6 : decode cX12_pop 6 = .ok (.isub, 1) := by decide +kernel
theorem dX12_pop_7 : decode cX12_pop 7 = .ok (.putfield 291, 3) := by decide +kernel
theorem dX12_pop_10 : decode cX12_pop 10 = .ok (.aload_n 0, 1) := by decide +kernel
theorem dX12_pop_11 : decode cX12_pop 11 = .ok (.getfield 41, 3) := by decide +kernel
theorem dX12_pop_14 : decode cX12_pop 14 = .ok (.aload_n 0, 1) := by decide +kernel
theorem dX12_pop_15 : decode cX12_pop 15 = .ok (.getfield 291, 3) := by decide +kernel
theorem dX12_pop_18 : decode cX12_pop 18 = .ok (.laload, 1) := by decide +kernel
theorem dX12_pop_19 : decode cX12_pop 19 = .ok (.lreturn, 1) := by decide +kernel
theorem dX12_reckons_0 : decode cX12_reckons 0 = .ok (.aload_n 0, 1) := by decide +kernel
theorem dX12_reckons_1 : decode cX12_reckons 1 = .ok (.iconst 0, 1) := by decide +kernel
theorem dX12_reckons_2 : decode cX12_reckons 2 = .ok (.putfield 291, 3) := by decide +kernel
theorem dX12_reckons_5 : decode cX12_reckons 5 = .ok (.iload_n 2, 1) := by decide +kernel
theorem dX12_reckons_6 : decode cX12_reckons 6 = .ok (.istore 4, 2) := by decide +kernel
theorem dX12_reckons_8 : decode cX12_reckons 8 = .ok (.iload 4, 2) := by decide +kernel
theorem dX12_reckons_10 : decode cX12_reckons 10 = .ok (.iload_n 3, 1) := by decide +kernel
theorem dX12_reckons_11 : decode cX12_reckons 11 = .ok (.if_icmp .ge 124, 3) := by decide +kernel
theorem dX12_reckons_14 : decode cX12_reckons 14 = .ok (.aload_n 0, 1) := by decide +kernel
theorem dX12_reckons_15 : decode cX12_reckons 15 = .ok (.getfield 17, 3) := by decide +kernel
theorem dX12_reckons_18 : decode cX12_reckons 18 = .ok (.sipush 400, 3) := by decide +kernel
theorem dX12_reckons_21 : decode cX12_reckons 21 = .ok (.iload_n 1, 1) := by decide +kernel
theorem dX12_reckons_22 : decode cX12_reckons 22 = .ok (.imul, 1) := by decide +kernel
theorem dX12_reckons_23 : decode cX12_reckons 23 = .ok (.iload 4, 2) := by decide +kernel
theorem dX12_reckons_25 : decode cX12_reckons 25 = .ok (.iadd, 1) := by decide +kernel
theorem dX12_reckons_26 : decode cX12_reckons 26 = .ok (.iaload, 1) := by decide +kernel
theorem dX12_reckons_27 : decode cX12_reckons 27 = .ok (.bipush 15, 2) := by decide +kernel
theorem dX12_reckons_29 : decode cX12_reckons 29 = .ok (.iand, 1) := by decide +kernel
theorem dX12_reckons_30 : decode cX12_reckons 30 = .ok (.istore 5, 2) := by decide +kernel
theorem dX12_reckons_32 : decode cX12_reckons 32 = .ok (.aload_n 0, 1) := by decide +kernel
theorem dX12_reckons_33 : decode cX12_reckons 33 = .ok (.getfield 17, 3) := by decide +kernel
theorem dX12_reckons_36 : decode cX12_reckons 36 = .ok (.sipush 400, 3) := by decide +kernel
theorem dX12_reckons_39 : decode cX12_reckons 39 = .ok (.iload_n 1, 1) := by decide +kernel
theorem dX12_reckons_40 : decode cX12_reckons 40 = .ok (.imul, 1) := by decide +kernel
theorem dX12_reckons_41 : decode cX12_reckons 41 = .ok (.iload 4, 2) := by decide +kernel
theorem dX12_reckons_43 : decode cX12_reckons 43 = .ok (.iadd, 1) := by decide +kernel
theorem dX12_reckons_44 : decode cX12_reckons 44 = .ok (.iaload, 1) := by decide +kernel
theorem dX12_reckons_45 : decode cX12_reckons 45 = .ok (.iconst 4, 1) := by decide +kernel
theorem dX12_reckons_46 : decode cX12_reckons 46 = .ok (.ishr, 1) := by decide +kernel
theorem dX12_reckons_47 : decode cX12_reckons 47 = .ok (.istore 6, 2) := by decide +kernel
theorem dX12_reckons_49 : decode cX12_reckons 49 = .ok (.iload 5, 2) := by decide +kernel
theorem dX12_reckons_51 : decode cX12_reckons 51 = .ok (.ifCond .ne 13, 3) := by decide +kernel
theorem dX12_reckons_54 : decode cX12_reckons 54 = .ok (.aload_n 0, 1) := by decide +kernel
theorem dX12_reckons_55 : decode cX12_reckons 55 = .ok (.iload 6, 2) := by decide +kernel
theorem dX12_reckons_57 : decode cX12_reckons 57 = .ok (.i2l, 1) := by decide +kernel
theorem dX12_reckons_58 : decode cX12_reckons 58 = .ok (.invokevirtual 294, 3) := by decide +kernel
theorem dX12_reckons_61 : decode cX12_reckons 61 = .ok (.goto 68, 3) := by decide +kernel
theorem dX12_reckons_64 : decode cX12_reckons 64 = .ok (.iload 5, 2) := by decide +kernel
theorem dX12_reckons_66 : decode cX12_reckons 66 = .ok (.iconst 1, 1) := by decide +kernel
theorem dX12_reckons_67 : decode cX12_reckons 67 = .ok (.if_icmp .ne 17, 3) := by decide +kernel
theorem dX12_reckons_70 : decode cX12_reckons 70 = .ok (.aload_n 0, 1) := by decide +kernel
theorem dX12_reckons_71 : decode cX12_reckons 71 = .ok (.aload_n 0, 1) := by decide +kernel
theorem dX12_reckons_72 : decode cX12_reckons 72 = .ok (.getfield 45, 3) := by decide +kernel
theorem dX12_reckons_75 : decode cX12_reckons 75 = .ok (.iload 6, 2) := by decide +kernel
theorem dX12_reckons_77 : decode cX12_reckons 77 = .ok (.laload, 1) := by decide +kernel
theorem dX12_reckons_78 : decode cX12_reckons 78 = .ok (.invokevirtual 294, 3) := by decide +kernel
theorem dX12_reckons_81 : decode cX12_reckons 81 = .ok (.goto 48, 3) := by decide +kernel
theorem dX12_reckons_84 : decode cX12_reckons 84 = .ok (.iload 5, 2) := by decide +kernel
theorem dX12_reckons_86 : decode cX12_reckons 86 = .ok (.bipush 11, 2) := by decide +kernel
theorem dX12_reckons_88 : decode cX12_reckons 88 = .ok (.if_icmp .ne 16, 3) := by decide +kernel
theorem dX12_reckons_91 : decode cX12_reckons 91 = .ok (.aload_n 0, 1) := by decide +kernel
theorem dX12_reckons_92 : decode cX12_reckons 92 = .ok (.lconst 1, 1) := by decide +kernel
theorem dX12_reckons_93 : decode cX12_reckons 93 = .ok (.aload_n 0, 1) := by decide +kernel
theorem dX12_reckons_94 : decode cX12_reckons 94 = .ok (.invokevirtual 298, 3) := by decide +kernel
theorem dX12_reckons_97 : decode cX12_reckons 97 = .ok (.lsub, 1) := by decide +kernel
theorem dX12_reckons_98 : decode cX12_reckons 98 = .ok (.invokevirtual 294, 3) := by decide +kernel
theorem dX12_reckons_101 : decode cX12_reckons 101 = .ok (.goto 28, 3) := by decide +kernel
theorem dX12_reckons_104 : decode cX12_reckons 104 = .ok (.aload_n 0, 1) := by decide +kernel
theorem dX12_reckons_105 : decode cX12_reckons 105 = .ok (.invokevirtual 298, 3) := by decide +kernel
theorem dX12_reckons_108 : decode cX12_reckons 108 = .ok (.lstore 7, 2) := by decide +kernel
theorem dX12_reckons_110 : decode cX12_reckons 110 = .ok (.aload_n 0, 1) := by decide +kernel
theorem dX12_reckons_111 : decode cX12_reckons 111 = .ok (.invokevirtual 298, 3) := by decide +kernel
theorem dX12_reckons_114 : decode cX12_reckons 114 = .ok (.lstore 9, 2) := by decide +kernel
theorem dX12_reckons_116 : decode cX12_reckons 116 = .ok (.aload_n 0, 1) := by decide +kernel
theorem dX12_reckons_117 : decode cX12_reckons 117 = .ok (.iload 5, 2) := by decide +kernel
theorem dX12_reckons_119 : decode cX12_reckons 119 = .ok (.lload 9, 2) := by decide +kernel
theorem dX12_reckons_121 : decode cX12_reckons 121 = .ok (.lload 7, 2) := by decide +kernel
theorem dX12_reckons_123 : decode cX12_reckons 123 = .ok (.invokestatic 302, 3) := by decide +kernel
theorem dX12_reckons_126 : decode cX12_reckons 126 = .ok (.invokevirtual 294, 3) := by decide +kernel
theorem dX12_reckons_129 : decode cX12_reckons 129 = .ok (.iinc 4 1, 3) := by decide +kernel
theorem dX12_reckons_132 : decode cX12_reckons 132 = .ok (.goto (-124), 3) := by decide +kernel
theorem dX12_reckons_135 : decode cX12_reckons 135 = .ok (.aload_n 0, 1) := by decide +kernel
theorem dX12_reckons_136 : decode cX12_reckons 136 = .ok (.invokevirtual 298, 3) := by decide +kernel
theorem dX12_reckons_139 : decode cX12_reckons 139 = .ok (.lreturn, 1) := by decide +kernel
theorem dX12_summed_0 : decode cX12_summed 0 = .ok (.aload_n 0, 1) := by decide +kernel
theorem dX12_summed_1 : decode cX12_summed 1 = .ok (.iload_n 1, 1) := by decide +kernel
theorem dX12_summed_2 : decode cX12_summed 2 = .ok (.aload_n 0, 1) := by decide +kernel
theorem dX12_summed_3 : decode cX12_summed 3 = .ok (.getfield 23, 3) := by decide +kernel
theorem dX12_summed_6 : decode cX12_summed 6 = .ok (.bipush 60, 2) := by decide +kernel
theorem dX12_summed_8 : decode cX12_summed 8 = .ok (.iload_n 1, 1) := by decide +kernel
theorem dX12_summed_9 : decode cX12_summed 9 = .ok (.imul, 1) := by decide +kernel
theorem dX12_summed_10 : decode cX12_summed 10 = .ok (.iconst 5, 1) := by decide +kernel
theorem dX12_summed_11 : decode cX12_summed 11 = .ok (.iload_n 2, 1) := by decide +kernel
theorem dX12_summed_12 : decode cX12_summed 12 = .ok (.imul, 1) := by decide +kernel
theorem dX12_summed_13 : decode cX12_summed 13 = .ok (.iadd, 1) := by decide +kernel
theorem dX12_summed_14 : decode cX12_summed 14 = .ok (.iconst 1, 1) := by decide +kernel
theorem dX12_summed_15 : decode cX12_summed 15 = .ok (.iadd, 1) := by decide +kernel
theorem dX12_summed_16 : decode cX12_summed 16 = .ok (.iaload, 1) := by decide +kernel
theorem dX12_summed_17 : decode cX12_summed 17 = .ok (.aload_n 0, 1) := by decide +kernel
theorem dX12_summed_18 : decode cX12_summed 18 = .ok (.getfield 23, 3) := by decide +kernel
theorem dX12_summed_21 : decode cX12_summed 21 = .ok (.bipush 60, 2) := by decide +kernel
theorem dX12_summed_23 : decode cX12_summed 23 = .ok (.iload_n 1, 1) := by decide +kernel
theorem dX12_summed_24 : decode cX12_summed 24 = .ok (.imul, 1) := by decide +kernel
theorem dX12_summed_25 : decode cX12_summed 25 = .ok (.iconst 5, 1) := by decide +kernel
theorem dX12_summed_26 : decode cX12_summed 26 = .ok (.iload_n 2, 1) := by decide +kernel
theorem dX12_summed_27 : decode cX12_summed 27 = .ok (.imul, 1) := by decide +kernel
theorem dX12_summed_28 : decode cX12_summed 28 = .ok (.iadd, 1) := by decide +kernel
theorem dX12_summed_29 : decode cX12_summed 29 = .ok (.iconst 2, 1) := by decide +kernel
theorem dX12_summed_30 : decode cX12_summed 30 = .ok (.iadd, 1) := by decide +kernel
theorem dX12_summed_31 : decode cX12_summed 31 = .ok (.iaload, 1) := by decide +kernel
theorem dX12_summed_32 : decode cX12_summed 32 = .ok (.invokevirtual 306, 3) := by decide +kernel
theorem dX12_summed_35 : decode cX12_summed 35 = .ok (.lreturn, 1) := by decide +kernel
theorem dX12_of_0 : decode cX12_of 0 = .ok (.aload_n 0, 1) := by decide +kernel
theorem dX12_of_1 : decode cX12_of 1 = .ok (.getfield 48, 3) := by decide +kernel
theorem dX12_of_4 : decode cX12_of 4 = .ok (.iload_n 1, 1) := by decide +kernel
theorem dX12_of_5 : decode cX12_of 5 = .ok (.invokestatic 284, 3) := by decide +kernel
theorem dX12_of_8 : decode cX12_of 8 = .ok (.iload_n 2, 1) := by decide +kernel
theorem dX12_of_9 : decode cX12_of 9 = .ok (.iadd, 1) := by decide +kernel
theorem dX12_of_10 : decode cX12_of 10 = .ok (.iaload, 1) := by decide +kernel
theorem dX12_of_11 : decode cX12_of 11 = .ok (.ireturn, 1) := by decide +kernel
theorem dX12_isWall_0 : decode cX12_isWall 0 = .ok (.iload_n 1, 1) := by decide +kernel
theorem dX12_isWall_1 : decode cX12_isWall 1 = .ok (.bipush 6, 2) := by decide +kernel
theorem dX12_isWall_3 : decode cX12_isWall 3 = .ok (.if_icmp .lt 15, 3) := by decide +kernel
theorem dX12_isWall_6 : decode cX12_isWall 6 = .ok (.aload_n 0, 1) := by decide +kernel
theorem dX12_isWall_7 : decode cX12_isWall 7 = .ok (.iload_n 1, 1) := by decide +kernel
theorem dX12_isWall_8 : decode cX12_isWall 8 = .ok (.invokevirtual 314, 3) := by decide +kernel
theorem dX12_isWall_11 : decode cX12_isWall 11 = .ok (.ifCond .eq 7, 3) := by decide +kernel
theorem dX12_isWall_14 : decode cX12_isWall 14 = .ok (.iconst 1, 1) := by decide +kernel
theorem dX12_isWall_15 : decode cX12_isWall 15 = .ok (.goto 4, 3) := by decide +kernel
theorem dX12_isWall_18 : decode cX12_isWall 18 = .ok (.iconst 0, 1) := by decide +kernel
theorem dX12_isWall_19 : decode cX12_isWall 19 = .ok (.ireturn, 1) := by decide +kernel
theorem dX12_comes_0 : decode cX12_comes 0 = .ok (.iload_n 1, 1) := by decide +kernel
theorem dX12_comes_1 : decode cX12_comes 1 = .ok (.invokestatic 284, 3) := by decide +kernel
theorem dX12_comes_4 : decode cX12_comes 4 = .ok (.istore 7, 2) := by decide +kernel
theorem dX12_comes_6 : decode cX12_comes 6 = .ok (.aload_n 0, 1) := by decide +kernel
theorem dX12_comes_7 : decode cX12_comes 7 = .ok (.getfield 48, 3) := by decide +kernel
theorem dX12_comes_10 : decode cX12_comes 10 = .ok (.iload 7, 2) := by decide +kernel
theorem dX12_comes_12 : decode cX12_comes 12 = .ok (.iconst 1, 1) := by decide +kernel
theorem dX12_comes_13 : decode cX12_comes 13 = .ok (.iastore, 1) := by decide +kernel
theorem dX12_comes_14 : decode cX12_comes 14 = .ok (.aload_n 0, 1) := by decide +kernel
theorem dX12_comes_15 : decode cX12_comes 15 = .ok (.getfield 48, 3) := by decide +kernel
theorem dX12_comes_18 : decode cX12_comes 18 = .ok (.iload 7, 2) := by decide +kernel
theorem dX12_comes_20 : decode cX12_comes 20 = .ok (.iconst 1, 1) := by decide +kernel
theorem dX12_comes_21 : decode cX12_comes 21 = .ok (.iadd, 1) := by decide +kernel
theorem dX12_comes_22 : decode cX12_comes 22 = .ok (.iload_n 2, 1) := by decide +kernel
theorem dX12_comes_23 : decode cX12_comes 23 = .ok (.iastore, 1) := by decide +kernel
theorem dX12_comes_24 : decode cX12_comes 24 = .ok (.aload_n 0, 1) := by decide +kernel
theorem dX12_comes_25 : decode cX12_comes 25 = .ok (.getfield 48, 3) := by decide +kernel
theorem dX12_comes_28 : decode cX12_comes 28 = .ok (.iload 7, 2) := by decide +kernel
theorem dX12_comes_30 : decode cX12_comes 30 = .ok (.iconst 2, 1) := by decide +kernel
theorem dX12_comes_31 : decode cX12_comes 31 = .ok (.iadd, 1) := by decide +kernel
theorem dX12_comes_32 : decode cX12_comes 32 = .ok (.iload_n 3, 1) := by decide +kernel
theorem dX12_comes_33 : decode cX12_comes 33 = .ok (.iastore, 1) := by decide +kernel
theorem dX12_comes_34 : decode cX12_comes 34 = .ok (.aload_n 0, 1) := by decide +kernel
theorem dX12_comes_35 : decode cX12_comes 35 = .ok (.getfield 48, 3) := by decide +kernel
theorem dX12_comes_38 : decode cX12_comes 38 = .ok (.iload 7, 2) := by decide +kernel
theorem dX12_comes_40 : decode cX12_comes 40 = .ok (.iconst 3, 1) := by decide +kernel
theorem dX12_comes_41 : decode cX12_comes 41 = .ok (.iadd, 1) := by decide +kernel
theorem dX12_comes_42 : decode cX12_comes 42 = .ok (.iload 4, 2) := by decide +kernel
theorem dX12_comes_44 : decode cX12_comes 44 = .ok (.iastore, 1) := by decide +kernel
theorem dX12_comes_45 : decode cX12_comes 45 = .ok (.aload_n 0, 1) := by decide +kernel
theorem dX12_comes_46 : decode cX12_comes 46 = .ok (.getfield 48, 3) := by decide +kernel
theorem dX12_comes_49 : decode cX12_comes 49 = .ok (.iload 7, 2) := by decide +kernel
theorem dX12_comes_51 : decode cX12_comes 51 = .ok (.iconst 4, 1) := by decide +kernel
theorem dX12_comes_52 : decode cX12_comes 52 = .ok (.iadd, 1) := by decide +kernel
theorem dX12_comes_53 : decode cX12_comes 53 = .ok (.iload 5, 2) := by decide +kernel
theorem dX12_comes_55 : decode cX12_comes 55 = .ok (.iastore, 1) := by decide +kernel
theorem dX12_comes_56 : decode cX12_comes 56 = .ok (.aload_n 0, 1) := by decide +kernel
theorem dX12_comes_57 : decode cX12_comes 57 = .ok (.getfield 48, 3) := by decide +kernel
theorem dX12_comes_60 : decode cX12_comes 60 = .ok (.iload 7, 2) := by decide +kernel
theorem dX12_comes_62 : decode cX12_comes 62 = .ok (.iconst 5, 1) := by decide +kernel
theorem dX12_comes_63 : decode cX12_comes 63 = .ok (.iadd, 1) := by decide +kernel
theorem dX12_comes_64 : decode cX12_comes 64 = .ok (.iload 6, 2) := by decide +kernel
theorem dX12_comes_66 : decode cX12_comes 66 = .ok (.iastore, 1) := by decide +kernel
theorem dX12_comes_67 : decode cX12_comes 67 = .ok (.aload_n 0, 1) := by decide +kernel
theorem dX12_comes_68 : decode cX12_comes 68 = .ok (.getfield 48, 3) := by decide +kernel
theorem dX12_comes_71 : decode cX12_comes 71 = .ok (.iload 7, 2) := by decide +kernel
theorem dX12_comes_73 : decode cX12_comes 73 = .ok (.bipush 6, 2) := by decide +kernel
theorem dX12_comes_75 : decode cX12_comes 75 = .ok (.iadd, 1) := by decide +kernel
theorem dX12_comes_76 : decode cX12_comes 76 = .ok (.iconst (-1), 1) := by decide +kernel
theorem dX12_comes_77 : decode cX12_comes 77 = .ok (.iastore, 1) := by decide +kernel
theorem dX12_comes_78 : decode cX12_comes 78 = .ok (.aload_n 0, 1) := by decide +kernel
theorem dX12_comes_79 : decode cX12_comes 79 = .ok (.getfield 48, 3) := by decide +kernel
theorem dX12_comes_82 : decode cX12_comes 82 = .ok (.iload 7, 2) := by decide +kernel
theorem dX12_comes_84 : decode cX12_comes 84 = .ok (.bipush 7, 2) := by decide +kernel
theorem dX12_comes_86 : decode cX12_comes 86 = .ok (.iadd, 1) := by decide +kernel
theorem dX12_comes_87 : decode cX12_comes 87 = .ok (.iconst (-1), 1) := by decide +kernel
theorem dX12_comes_88 : decode cX12_comes 88 = .ok (.iastore, 1) := by decide +kernel
theorem dX12_comes_89 : decode cX12_comes 89 = .ok (.aload_n 0, 1) := by decide +kernel
theorem dX12_comes_90 : decode cX12_comes 90 = .ok (.getfield 48, 3) := by decide +kernel
theorem dX12_comes_93 : decode cX12_comes 93 = .ok (.iload 7, 2) := by decide +kernel
theorem dX12_comes_95 : decode cX12_comes 95 = .ok (.bipush 8, 2) := by decide +kernel
theorem dX12_comes_97 : decode cX12_comes 97 = .ok (.iadd, 1) := by decide +kernel
theorem dX12_comes_98 : decode cX12_comes 98 = .ok (.iconst (-1), 1) := by decide +kernel
theorem dX12_comes_99 : decode cX12_comes 99 = .ok (.iastore, 1) := by decide +kernel
theorem dX12_comes_100 : decode cX12_comes 100 = .ok (.aload_n 0, 1) := by decide +kernel
theorem dX12_comes_101 : decode cX12_comes 101 = .ok (.getfield 48, 3) := by decide +kernel
theorem dX12_comes_104 : decode cX12_comes 104 = .ok (.iload 7, 2) := by decide +kernel
theorem dX12_comes_106 : decode cX12_comes 106 = .ok (.bipush 9, 2) := by decide +kernel
theorem dX12_comes_108 : decode cX12_comes 108 = .ok (.iadd, 1) := by decide +kernel
theorem dX12_comes_109 : decode cX12_comes 109 = .ok (.iconst (-1), 1) := by decide +kernel
theorem dX12_comes_110 : decode cX12_comes 110 = .ok (.iastore, 1) := by decide +kernel
theorem dX12_comes_111 : decode cX12_comes 111 = .ok (.aload_n 0, 1) := by decide +kernel
theorem dX12_comes_112 : decode cX12_comes 112 = .ok (.getfield 48, 3) := by decide +kernel
theorem dX12_comes_115 : decode cX12_comes 115 = .ok (.iload 7, 2) := by decide +kernel
theorem dX12_comes_117 : decode cX12_comes 117 = .ok (.bipush 10, 2) := by decide +kernel
theorem dX12_comes_119 : decode cX12_comes 119 = .ok (.iadd, 1) := by decide +kernel
theorem dX12_comes_120 : decode cX12_comes 120 = .ok (.iconst 0, 1) := by decide +kernel
theorem dX12_comes_121 : decode cX12_comes 121 = .ok (.iastore, 1) := by decide +kernel
theorem dX12_comes_122 : decode cX12_comes 122 = .ok (.return_, 1) := by decide +kernel
theorem dX12_isOuter_0 : decode cX12_isOuter 0 = .ok (.aload_n 0, 1) := by decide +kernel
theorem dX12_isOuter_1 : decode cX12_isOuter 1 = .ok (.iload_n 1, 1) := by decide +kernel
theorem dX12_isOuter_2 : decode cX12_isOuter 2 = .ok (.bipush 6, 2) := by decide +kernel
theorem dX12_isOuter_4 : decode cX12_isOuter 4 = .ok (.invokevirtual 310, 3) := by decide +kernel
theorem dX12_isOuter_7 : decode cX12_isOuter 7 = .ok (.iconst (-1), 1) := by decide +kernel
theorem dX12_isOuter_8 : decode cX12_isOuter 8 = .ok (.if_icmp .ne 7, 3) := by decide +kernel
theorem dX12_isOuter_11 : decode cX12_isOuter 11 = .ok (.iconst 1, 1) := by decide +kernel
theorem dX12_isOuter_12 : decode cX12_isOuter 12 = .ok (.goto 4, 3) := by decide +kernel
theorem dX12_isOuter_15 : decode cX12_isOuter 15 = .ok (.iconst 0, 1) := by decide +kernel
theorem dX12_isOuter_16 : decode cX12_isOuter 16 = .ok (.ireturn, 1) := by decide +kernel
theorem dX12_hasCell_0 : decode cX12_hasCell 0 = .ok (.iload_n 2, 1) := by decide +kernel
theorem dX12_hasCell_1 : decode cX12_hasCell 1 = .ok (.aload_n 0, 1) := by decide +kernel
theorem dX12_hasCell_2 : decode cX12_hasCell 2 = .ok (.iload_n 1, 1) := by decide +kernel
theorem dX12_hasCell_3 : decode cX12_hasCell 3 = .ok (.iconst 1, 1) := by decide +kernel
theorem dX12_hasCell_4 : decode cX12_hasCell 4 = .ok (.invokevirtual 310, 3) := by decide +kernel
theorem dX12_hasCell_7 : decode cX12_hasCell 7 = .ok (.if_icmp .lt 37, 3) := by decide +kernel
theorem dX12_hasCell_10 : decode cX12_hasCell 10 = .ok (.iload_n 2, 1) := by decide +kernel
theorem dX12_hasCell_11 : decode cX12_hasCell 11 = .ok (.aload_n 0, 1) := by decide +kernel
theorem dX12_hasCell_12 : decode cX12_hasCell 12 = .ok (.iload_n 1, 1) := by decide +kernel
theorem dX12_hasCell_13 : decode cX12_hasCell 13 = .ok (.iconst 3, 1) := by decide +kernel
theorem dX12_hasCell_14 : decode cX12_hasCell 14 = .ok (.invokevirtual 310, 3) := by decide +kernel
theorem dX12_hasCell_17 : decode cX12_hasCell 17 = .ok (.if_icmp .ge 27, 3) := by decide +kernel
theorem dX12_hasCell_20 : decode cX12_hasCell 20 = .ok (.iload_n 3, 1) := by decide +kernel
theorem dX12_hasCell_21 : decode cX12_hasCell 21 = .ok (.aload_n 0, 1) := by decide +kernel
theorem dX12_hasCell_22 : decode cX12_hasCell 22 = .ok (.iload_n 1, 1) := by decide +kernel
theorem dX12_hasCell_23 : decode cX12_hasCell 23 = .ok (.iconst 2, 1) := by decide +kernel
theorem dX12_hasCell_24 : decode cX12_hasCell 24 = .ok (.invokevirtual 310, 3) := by decide +kernel
theorem dX12_hasCell_27 : decode cX12_hasCell 27 = .ok (.if_icmp .lt 17, 3) := by decide +kernel
theorem dX12_hasCell_30 : decode cX12_hasCell 30 = .ok (.iload_n 3, 1) := by decide +kernel
theorem dX12_hasCell_31 : decode cX12_hasCell 31 = .ok (.aload_n 0, 1) := by decide +kernel
theorem dX12_hasCell_32 : decode cX12_hasCell 32 = .ok (.iload_n 1, 1) := by decide +kernel
theorem dX12_hasCell_33 : decode cX12_hasCell 33 = .ok (.iconst 4, 1) := by decide +kernel
theorem dX12_hasCell_34 : decode cX12_hasCell 34 = .ok (.invokevirtual 310, 3) := by decide +kernel
theorem dX12_hasCell_37 : decode cX12_hasCell 37 = .ok (.if_icmp .ge 7, 3) := by decide +kernel
theorem dX12_hasCell_40 : decode cX12_hasCell 40 = .ok (.iconst 1, 1) := by decide +kernel
theorem dX12_hasCell_41 : decode cX12_hasCell 41 = .ok (.goto 4, 3) := by decide +kernel
theorem dX12_hasCell_44 : decode cX12_hasCell 44 = .ok (.iconst 0, 1) := by decide +kernel
theorem dX12_hasCell_45 : decode cX12_hasCell 45 = .ok (.ireturn, 1) := by decide +kernel
theorem dX12_deepOf_0 : decode cX12_deepOf 0 = .ok (.iconst 0, 1) := by decide +kernel
theorem dX12_deepOf_1 : decode cX12_deepOf 1 = .ok (.istore_n 2, 1) := by decide +kernel
theorem dX12_deepOf_2 : decode cX12_deepOf 2 = .ok (.bipush 6, 2) := by decide +kernel
theorem dX12_deepOf_4 : decode cX12_deepOf 4 = .ok (.istore_n 3, 1) := by decide +kernel
theorem dX12_deepOf_5 : decode cX12_deepOf 5 = .ok (.iload_n 3, 1) := by decide +kernel
theorem dX12_deepOf_6 : decode cX12_deepOf 6 = .ok (.bipush 54, 2) := by decide +kernel
theorem dX12_deepOf_8 : decode cX12_deepOf 8 = .ok (.if_icmp .ge 36, 3) := by decide +kernel
theorem dX12_deepOf_11 : decode cX12_deepOf 11 = .ok (.iload_n 2, 1) := by decide +kernel
theorem dX12_deepOf_12 : decode cX12_deepOf 12 = .ok (.aload_n 0, 1) := by decide +kernel
theorem dX12_deepOf_13 : decode cX12_deepOf 13 = .ok (.iload_n 3, 1) := by decide +kernel
theorem dX12_deepOf_14 : decode cX12_deepOf 14 = .ok (.iconst 0, 1) := by decide +kernel
theorem dX12_deepOf_15 : decode cX12_deepOf 15 = .ok (.invokevirtual 310, 3) := by decide +kernel
theorem dX12_deepOf_18 : decode cX12_deepOf 18 = .ok (.iconst 1, 1) := by decide +kernel
theorem dX12_deepOf_19 : decode cX12_deepOf 19 = .ok (.if_icmp .ne 16, 3) := by decide +kernel
theorem dX12_deepOf_22 : decode cX12_deepOf 22 = .ok (.aload_n 0, 1) := by decide +kernel
theorem dX12_deepOf_23 : decode cX12_deepOf 23 = .ok (.iload_n 3, 1) := by decide +kernel
theorem dX12_deepOf_24 : decode cX12_deepOf 24 = .ok (.iload_n 1, 1) := by decide +kernel
theorem dX12_deepOf_25 : decode cX12_deepOf 25 = .ok (.invokevirtual 317, 3) := by decide +kernel
theorem dX12_deepOf_28 : decode cX12_deepOf 28 = .ok (.ifCond .eq 7, 3) := by decide +kernel
theorem dX12_deepOf_31 : decode cX12_deepOf 31 = .ok (.iconst 1, 1) := by decide +kernel
theorem dX12_deepOf_32 : decode cX12_deepOf 32 = .ok (.goto 4, 3) := by decide +kernel
theorem dX12_deepOf_35 : decode cX12_deepOf 35 = .ok (.iconst 0, 1) := by decide +kernel
theorem dX12_deepOf_36 : decode cX12_deepOf 36 = .ok (.iadd, 1) := by decide +kernel
theorem dX12_deepOf_37 : decode cX12_deepOf 37 = .ok (.istore_n 2, 1) := by decide +kernel
theorem dX12_deepOf_38 : decode cX12_deepOf 38 = .ok (.iinc 3 1, 3) := by decide +kernel
theorem dX12_deepOf_41 : decode cX12_deepOf 41 = .ok (.goto (-36), 3) := by decide +kernel
theorem dX12_deepOf_44 : decode cX12_deepOf 44 = .ok (.iload_n 2, 1) := by decide +kernel
theorem dX12_deepOf_45 : decode cX12_deepOf 45 = .ok (.ireturn, 1) := by decide +kernel
theorem dX12_likeOf_0 : decode cX12_likeOf 0 = .ok (.iload_n 2, 1) := by decide +kernel
theorem dX12_likeOf_1 : decode cX12_likeOf 1 = .ok (.bipush 6, 2) := by decide +kernel
theorem dX12_likeOf_3 : decode cX12_likeOf 3 = .ok (.if_icmp .lt 13, 3) := by decide +kernel
theorem dX12_likeOf_6 : decode cX12_likeOf 6 = .ok (.aload_n 0, 1) := by decide +kernel
theorem dX12_likeOf_7 : decode cX12_likeOf 7 = .ok (.iload_n 2, 1) := by decide +kernel
theorem dX12_likeOf_8 : decode cX12_likeOf 8 = .ok (.iconst 5, 1) := by decide +kernel
theorem dX12_likeOf_9 : decode cX12_likeOf 9 = .ok (.invokevirtual 310, 3) := by decide +kernel
theorem dX12_likeOf_12 : decode cX12_likeOf 12 = .ok (.iload_n 1, 1) := by decide +kernel
theorem dX12_likeOf_13 : decode cX12_likeOf 13 = .ok (.if_icmp .ne 7, 3) := by decide +kernel
theorem dX12_likeOf_16 : decode cX12_likeOf 16 = .ok (.iconst 0, 1) := by decide +kernel
theorem dX12_likeOf_17 : decode cX12_likeOf 17 = .ok (.goto 23, 3) := by decide +kernel
theorem dX12_likeOf_20 : decode cX12_likeOf 20 = .ok (.aload_n 0, 1) := by decide +kernel
theorem dX12_likeOf_21 : decode cX12_likeOf 21 = .ok (.getfield 48, 3) := by decide +kernel
theorem dX12_likeOf_24 : decode cX12_likeOf 24 = .ok (.sipush 2256, 3) := by decide +kernel
theorem dX12_likeOf_27 : decode cX12_likeOf 27 = .ok (.bipush 12, 2) := by decide +kernel
theorem dX12_likeOf_29 : decode cX12_likeOf 29 = .ok (.iload_n 1, 1) := by decide +kernel
theorem dX12_likeOf_30 : decode cX12_likeOf 30 = .ok (.imul, 1) := by decide +kernel
theorem dX12_likeOf_31 : decode cX12_likeOf 31 = .ok (.iadd, 1) := by decide +kernel
theorem dX12_likeOf_32 : decode cX12_likeOf 32 = .ok (.aload_n 0, 1) := by decide +kernel
theorem dX12_likeOf_33 : decode cX12_likeOf 33 = .ok (.iload_n 2, 1) := by decide +kernel
theorem dX12_likeOf_34 : decode cX12_likeOf 34 = .ok (.iconst 5, 1) := by decide +kernel
theorem dX12_likeOf_35 : decode cX12_likeOf 35 = .ok (.invokevirtual 310, 3) := by decide +kernel
theorem dX12_likeOf_38 : decode cX12_likeOf 38 = .ok (.iadd, 1) := by decide +kernel
theorem dX12_likeOf_39 : decode cX12_likeOf 39 = .ok (.iaload, 1) := by decide +kernel
theorem dX12_likeOf_40 : decode cX12_likeOf 40 = .ok (.ireturn, 1) := by decide +kernel
theorem dX12_thinks_0 : decode cX12_thinks 0 = .ok (.aload_n 0, 1) := by decide +kernel
theorem dX12_thinks_1 : decode cX12_thinks 1 = .ok (.iload_n 1, 1) := by decide +kernel
theorem dX12_thinks_2 : decode cX12_thinks 2 = .ok (.putfield 320, 3) := by decide +kernel
theorem dX12_thinks_5 : decode cX12_thinks 5 = .ok (.aload_n 0, 1) := by decide +kernel
theorem dX12_thinks_6 : decode cX12_thinks 6 = .ok (.iload_n 2, 1) := by decide +kernel
theorem dX12_thinks_7 : decode cX12_thinks 7 = .ok (.putfield 323, 3) := by decide +kernel
theorem dX12_thinks_10 : decode cX12_thinks 10 = .ok (.aload_n 0, 1) := by decide +kernel
theorem dX12_thinks_11 : decode cX12_thinks 11 = .ok (.iload_n 3, 1) := by decide +kernel
theorem dX12_thinks_12 : decode cX12_thinks 12 = .ok (.putfield 326, 3) := by decide +kernel
theorem dX12_thinks_15 : decode cX12_thinks 15 = .ok (.aload_n 0, 1) := by decide +kernel
theorem dX12_thinks_16 : decode cX12_thinks 16 = .ok (.iload 4, 2) := by decide +kernel
theorem dX12_thinks_18 : decode cX12_thinks 18 = .ok (.putfield 329, 3) := by decide +kernel
theorem dX12_thinks_21 : decode cX12_thinks 21 = .ok (.aload_n 0, 1) := by decide +kernel
theorem dX12_thinks_22 : decode cX12_thinks 22 = .ok (.iload 5, 2) := by decide +kernel
theorem dX12_thinks_24 : decode cX12_thinks 24 = .ok (.putfield 332, 3) := by decide +kernel
theorem dX12_thinks_27 : decode cX12_thinks 27 = .ok (.aload_n 0, 1) := by decide +kernel
theorem dX12_thinks_28 : decode cX12_thinks 28 = .ok (.iload 6, 2) := by decide +kernel
theorem dX12_thinks_30 : decode cX12_thinks 30 = .ok (.putfield 335, 3) := by decide +kernel
theorem dX12_thinks_33 : decode cX12_thinks 33 = .ok (.return_, 1) := by decide +kernel
theorem dX12_isFit_0 : decode cX12_isFit 0 = .ok (.aload_n 0, 1) := by decide +kernel
theorem dX12_isFit_1 : decode cX12_isFit 1 = .ok (.getfield 320, 3) := by decide +kernel
theorem dX12_isFit_4 : decode cX12_isFit 4 = .ok (.ifCond .lt 58, 3) := by decide +kernel
theorem dX12_isFit_7 : decode cX12_isFit 7 = .ok (.aload_n 0, 1) := by decide +kernel
theorem dX12_isFit_8 : decode cX12_isFit 8 = .ok (.getfield 323, 3) := by decide +kernel
theorem dX12_isFit_11 : decode cX12_isFit 11 = .ok (.ifCond .lt 51, 3) := by decide +kernel
theorem dX12_isFit_14 : decode cX12_isFit 14 = .ok (.aload_n 0, 1) := by decide +kernel
theorem dX12_isFit_15 : decode cX12_isFit 15 = .ok (.getfield 326, 3) := by decide +kernel
theorem dX12_isFit_18 : decode cX12_isFit 18 = .ok (.aload_n 0, 1) := by decide +kernel
theorem dX12_isFit_19 : decode cX12_isFit 19 = .ok (.getfield 48, 3) := by decide +kernel
theorem dX12_isFit_22 : decode cX12_isFit 22 = .ok (.iconst 0, 1) := by decide +kernel
theorem dX12_isFit_23 : decode cX12_isFit 23 = .ok (.iaload, 1) := by decide +kernel
theorem dX12_isFit_24 : decode cX12_isFit 24 = .ok (.if_icmp .gt 38, 3) := by decide +kernel
theorem dX12_isFit_27 : decode cX12_isFit 27 = .ok (.aload_n 0, 1) := by decide +kernel
theorem dX12_isFit_28 : decode cX12_isFit 28 = .ok (.getfield 329, 3) := by decide +kernel
theorem dX12_isFit_31 : decode cX12_isFit 31 = .ok (.aload_n 0, 1) := by decide +kernel
theorem dX12_isFit_32 : decode cX12_isFit 32 = .ok (.getfield 48, 3) := by decide +kernel
theorem dX12_isFit_35 : decode cX12_isFit 35 = .ok (.iconst 1, 1) := by decide +kernel
theorem dX12_isFit_36 : decode cX12_isFit 36 = .ok (.iaload, 1) := by decide +kernel
theorem dX12_isFit_37 : decode cX12_isFit 37 = .ok (.if_icmp .gt 25, 3) := by decide +kernel
theorem dX12_isFit_40 : decode cX12_isFit 40 = .ok (.aload_n 0, 1) := by decide +kernel
theorem dX12_isFit_41 : decode cX12_isFit 41 = .ok (.getfield 320, 3) := by decide +kernel
theorem dX12_isFit_44 : decode cX12_isFit 44 = .ok (.aload_n 0, 1) := by decide +kernel
theorem dX12_isFit_45 : decode cX12_isFit 45 = .ok (.getfield 326, 3) := by decide +kernel
theorem dX12_isFit_48 : decode cX12_isFit 48 = .ok (.if_icmp .ge 14, 3) := by decide +kernel
theorem dX12_isFit_51 : decode cX12_isFit 51 = .ok (.aload_n 0, 1) := by decide +kernel
theorem dX12_isFit_52 : decode cX12_isFit 52 = .ok (.getfield 323, 3) := by decide +kernel
theorem dX12_isFit_55 : decode cX12_isFit 55 = .ok (.aload_n 0, 1) := by decide +kernel
theorem dX12_isFit_56 : decode cX12_isFit 56 = .ok (.getfield 329, 3) := by decide +kernel
theorem dX12_isFit_59 : decode cX12_isFit 59 = .ok (.if_icmp .lt 5, 3) := by decide +kernel
theorem dX12_isFit_62 : decode cX12_isFit 62 = .ok (.iconst 0, 1) := by decide +kernel
theorem dX12_isFit_63 : decode cX12_isFit 63 = .ok (.ireturn, 1) := by decide +kernel
theorem dX12_isFit_64 : decode cX12_isFit 64 = .ok (.aload_n 0, 1) := by decide +kernel
theorem dX12_isFit_65 : decode cX12_isFit 65 = .ok (.getfield 332, 3) := by decide +kernel
theorem dX12_isFit_68 : decode cX12_isFit 68 = .ok (.aload_n 0, 1) := by decide +kernel
theorem dX12_isFit_69 : decode cX12_isFit 69 = .ok (.getfield 335, 3) := by decide +kernel
theorem dX12_isFit_72 : decode cX12_isFit 72 = .ok (.if_icmp .eq 33, 3) := by decide +kernel
theorem dX12_isFit_75 : decode cX12_isFit 75 = .ok (.aload_n 0, 1) := by decide +kernel
theorem dX12_isFit_76 : decode cX12_isFit 76 = .ok (.aload_n 0, 1) := by decide +kernel
theorem dX12_isFit_77 : decode cX12_isFit 77 = .ok (.getfield 332, 3) := by decide +kernel
theorem dX12_isFit_80 : decode cX12_isFit 80 = .ok (.invokevirtual 338, 3) := by decide +kernel
theorem dX12_isFit_83 : decode cX12_isFit 83 = .ok (.ifCond .eq 22, 3) := by decide +kernel
theorem dX12_isFit_86 : decode cX12_isFit 86 = .ok (.aload_n 0, 1) := by decide +kernel
theorem dX12_isFit_87 : decode cX12_isFit 87 = .ok (.getfield 335, 3) := by decide +kernel
theorem dX12_isFit_90 : decode cX12_isFit 90 = .ok (.iconst (-1), 1) := by decide +kernel
theorem dX12_isFit_91 : decode cX12_isFit 91 = .ok (.if_icmp .eq 16, 3) := by decide +kernel
theorem dX12_isFit_94 : decode cX12_isFit 94 = .ok (.aload_n 0, 1) := by decide +kernel
theorem dX12_isFit_95 : decode cX12_isFit 95 = .ok (.aload_n 0, 1) := by decide +kernel
theorem dX12_isFit_96 : decode cX12_isFit 96 = .ok (.getfield 335, 3) := by decide +kernel
theorem dX12_isFit_99 : decode cX12_isFit 99 = .ok (.invokevirtual 338, 3) := by decide +kernel
theorem dX12_isFit_102 : decode cX12_isFit 102 = .ok (.ifCond .ne 5, 3) := by decide +kernel
theorem dX12_isFit_105 : decode cX12_isFit 105 = .ok (.iconst 0, 1) := by decide +kernel
theorem dX12_isFit_106 : decode cX12_isFit 106 = .ok (.ireturn, 1) := by decide +kernel
theorem dX12_isFit_107 : decode cX12_isFit 107 = .ok (.aload_n 0, 1) := by decide +kernel
theorem dX12_isFit_108 : decode cX12_isFit 108 = .ok (.aload_n 0, 1) := by decide +kernel
theorem dX12_isFit_109 : decode cX12_isFit 109 = .ok (.getfield 332, 3) := by decide +kernel
theorem dX12_isFit_112 : decode cX12_isFit 112 = .ok (.lconst 0, 1) := by decide +kernel
theorem dX12_isFit_113 : decode cX12_isFit 113 = .ok (.invokevirtual 341, 3) := by decide +kernel
theorem dX12_isFit_116 : decode cX12_isFit 116 = .ok (.ifCond .eq 27, 3) := by decide +kernel
theorem dX12_isFit_119 : decode cX12_isFit 119 = .ok (.aload_n 0, 1) := by decide +kernel
theorem dX12_isFit_120 : decode cX12_isFit 120 = .ok (.getfield 335, 3) := by decide +kernel
theorem dX12_isFit_123 : decode cX12_isFit 123 = .ok (.iconst (-1), 1) := by decide +kernel
theorem dX12_isFit_124 : decode cX12_isFit 124 = .ok (.if_icmp .eq 15, 3) := by decide +kernel
theorem dX12_isFit_127 : decode cX12_isFit 127 = .ok (.aload_n 0, 1) := by decide +kernel
theorem dX12_isFit_128 : decode cX12_isFit 128 = .ok (.aload_n 0, 1) := by decide +kernel
theorem dX12_isFit_129 : decode cX12_isFit 129 = .ok (.getfield 335, 3) := by decide +kernel
theorem dX12_isFit_132 : decode cX12_isFit 132 = .ok (.lconst 0, 1) := by decide +kernel
theorem dX12_isFit_133 : decode cX12_isFit 133 = .ok (.invokevirtual 341, 3) := by decide +kernel
theorem dX12_isFit_136 : decode cX12_isFit 136 = .ok (.ifCond .eq 7, 3) := by decide +kernel
theorem dX12_isFit_139 : decode cX12_isFit 139 = .ok (.iconst 1, 1) := by decide +kernel
theorem dX12_isFit_140 : decode cX12_isFit 140 = .ok (.goto 4, 3) := by decide +kernel
theorem dX12_isFit_143 : decode cX12_isFit 143 = .ok (.iconst 0, 1) := by decide +kernel
theorem dX12_isFit_144 : decode cX12_isFit 144 = .ok (.ireturn, 1) := by decide +kernel
theorem dX12_farBy_0 : decode cX12_farBy 0 = .ok (.iconst 0, 1) := by decide +kernel
theorem dX12_farBy_1 : decode cX12_farBy 1 = .ok (.istore_n 2, 1) := by decide +kernel
theorem dX12_farBy_2 : decode cX12_farBy 2 = .ok (.iload_n 2, 1) := by decide +kernel
theorem dX12_farBy_3 : decode cX12_farBy 3 = .ok (.aload_n 0, 1) := by decide +kernel
theorem dX12_farBy_4 : decode cX12_farBy 4 = .ok (.getfield 26, 3) := by decide +kernel
theorem dX12_farBy_7 : decode cX12_farBy 7 = .ok (.iload_n 1, 1) := by decide +kernel
theorem dX12_farBy_8 : decode cX12_farBy 8 = .ok (.iaload, 1) := by decide +kernel
theorem dX12_farBy_9 : decode cX12_farBy 9 = .ok (.if_icmp .ge 48, 3) := by decide +kernel
theorem dX12_farBy_12 : decode cX12_farBy 12 = .ok (.aload_n 0, 1) := by decide +kernel
theorem dX12_farBy_13 : decode cX12_farBy 13 = .ok (.getfield 23, 3) := by decide +kernel
theorem dX12_farBy_16 : decode cX12_farBy 16 = .ok (.bipush 60, 2) := by decide +kernel
theorem dX12_farBy_18 : decode cX12_farBy 18 = .ok (.iload_n 1, 1) := by decide +kernel
theorem dX12_farBy_19 : decode cX12_farBy 19 = .ok (.imul, 1) := by decide +kernel
theorem dX12_farBy_20 : decode cX12_farBy 20 = .ok (.iconst 5, 1) := by decide +kernel
theorem dX12_farBy_21 : decode cX12_farBy 21 = .ok (.iload_n 2, 1) := by decide +kernel
theorem dX12_farBy_22 : decode cX12_farBy 22 = .ok (.imul, 1) := by decide +kernel
theorem dX12_farBy_23 : decode cX12_farBy 23 = .ok (.iadd, 1) := by decide +kernel
theorem dX12_farBy_24 : decode cX12_farBy 24 = .ok (.iaload, 1) := by decide +kernel
theorem dX12_farBy_25 : decode cX12_farBy 25 = .ok (.ifCond .ne 26, 3) := by decide +kernel
theorem dX12_farBy_28 : decode cX12_farBy 28 = .ok (.aload_n 0, 1) := by decide +kernel
theorem dX12_farBy_29 : decode cX12_farBy 29 = .ok (.iload_n 1, 1) := by decide +kernel
theorem dX12_farBy_30 : decode cX12_farBy 30 = .ok (.iload_n 2, 1) := by decide +kernel
theorem dX12_farBy_31 : decode cX12_farBy 31 = .ok (.invokevirtual 360, 3) := by decide +kernel
theorem dX12_farBy_34 : decode cX12_farBy 34 = .ok (.ifCond .eq 17, 3) := by decide +kernel
theorem dX12_farBy_37 : decode cX12_farBy 37 = .ok (.aload_n 0, 1) := by decide +kernel
theorem dX12_farBy_38 : decode cX12_farBy 38 = .ok (.iload_n 1, 1) := by decide +kernel
theorem dX12_farBy_39 : decode cX12_farBy 39 = .ok (.iload_n 2, 1) := by decide +kernel
theorem dX12_farBy_40 : decode cX12_farBy 40 = .ok (.invokevirtual 363, 3) := by decide +kernel
theorem dX12_farBy_43 : decode cX12_farBy 43 = .ok (.lconst 1, 1) := by decide +kernel
theorem dX12_farBy_44 : decode cX12_farBy 44 = .ok (.ldc2_w 367, 3) := by decide +kernel
theorem dX12_farBy_47 : decode cX12_farBy 47 = .ok (.invokestatic 369, 3) := by decide +kernel
theorem dX12_farBy_50 : decode cX12_farBy 50 = .ok (.lreturn, 1) := by decide +kernel
theorem dX12_farBy_51 : decode cX12_farBy 51 = .ok (.iinc 2 1, 3) := by decide +kernel
theorem dX12_farBy_54 : decode cX12_farBy 54 = .ok (.goto (-52), 3) := by decide +kernel
theorem dX12_farBy_57 : decode cX12_farBy 57 = .ok (.lconst 1, 1) := by decide +kernel
theorem dX12_farBy_58 : decode cX12_farBy 58 = .ok (.lreturn, 1) := by decide +kernel
theorem dX12_goesOverRiver_0 : decode cX12_goesOverRiver 0 = .ok (.aload_n 0, 1) := by decide +kernel
theorem dX12_goesOverRiver_1 : decode cX12_goesOverRiver 1 = .ok (.getfield 320, 3) := by decide +kernel
theorem dX12_goesOverRiver_4 : decode cX12_goesOverRiver 4 = .ok (.istore_n 1, 1) := by decide +kernel
theorem dX12_goesOverRiver_5 : decode cX12_goesOverRiver 5 = .ok (.iload_n 1, 1) := by decide +kernel
theorem dX12_goesOverRiver_6 : decode cX12_goesOverRiver 6 = .ok (.aload_n 0, 1) := by decide +kernel
theorem dX12_goesOverRiver_7 : decode cX12_goesOverRiver 7 = .ok (.getfield 326, 3) := by decide +kernel
theorem dX12_goesOverRiver_10 : decode cX12_goesOverRiver 10 = .ok (.if_icmp .ge 63, 3) := by decide +kernel
theorem dX12_goesOverRiver_13 : decode cX12_goesOverRiver 13 = .ok (.aload_n 0, 1) := by decide +kernel
theorem dX12_goesOverRiver_14 : decode cX12_goesOverRiver 14 = .ok (.iload_n 1, 1) := by decide +kernel
theorem dX12_goesOverRiver_15 : decode cX12_goesOverRiver 15 = .ok (.aload_n 0, 1) := by decide +kernel
theorem dX12_goesOverRiver_16 : decode cX12_goesOverRiver 16 = .ok (.getfield 323, 3) := by decide +kernel
theorem dX12_goesOverRiver_19 : decode cX12_goesOverRiver 19 = .ok (.invokevirtual 373, 3) := by decide +kernel
theorem dX12_goesOverRiver_22 : decode cX12_goesOverRiver 22 = .ok (.ifCond .eq 17, 3) := by decide +kernel
theorem dX12_goesOverRiver_25 : decode cX12_goesOverRiver 25 = .ok (.aload_n 0, 1) := by decide +kernel
theorem dX12_goesOverRiver_26 : decode cX12_goesOverRiver 26 = .ok (.iload_n 1, 1) := by decide +kernel
theorem dX12_goesOverRiver_27 : decode cX12_goesOverRiver 27 = .ok (.aload_n 0, 1) := by decide +kernel
theorem dX12_goesOverRiver_28 : decode cX12_goesOverRiver 28 = .ok (.getfield 323, 3) := by decide +kernel
theorem dX12_goesOverRiver_31 : decode cX12_goesOverRiver 31 = .ok (.iconst 1, 1) := by decide +kernel
theorem dX12_goesOverRiver_32 : decode cX12_goesOverRiver 32 = .ok (.isub, 1) := by decide +kernel
theorem dX12_goesOverRiver_33 : decode cX12_goesOverRiver 33 = .ok (.invokevirtual 373, 3) := by decide +kernel
theorem dX12_goesOverRiver_36 : decode cX12_goesOverRiver 36 = .ok (.ifCond .ne 29, 3) := by decide +kernel
theorem dX12_goesOverRiver_39 : decode cX12_goesOverRiver 39 = .ok (.aload_n 0, 1) := by decide +kernel
theorem dX12_goesOverRiver_40 : decode cX12_goesOverRiver 40 = .ok (.iload_n 1, 1) := by decide +kernel
theorem dX12_goesOverRiver_41 : decode cX12_goesOverRiver 41 = .ok (.aload_n 0, 1) := by decide +kernel
theorem dX12_goesOverRiver_42 : decode cX12_goesOverRiver 42 = .ok (.getfield 329, 3) := by decide +kernel
theorem dX12_goesOverRiver_45 : decode cX12_goesOverRiver 45 = .ok (.iconst 1, 1) := by decide +kernel
theorem dX12_goesOverRiver_46 : decode cX12_goesOverRiver 46 = .ok (.isub, 1) := by decide +kernel
theorem dX12_goesOverRiver_47 : decode cX12_goesOverRiver 47 = .ok (.invokevirtual 373, 3) := by decide +kernel
theorem dX12_goesOverRiver_50 : decode cX12_goesOverRiver 50 = .ok (.ifCond .eq 17, 3) := by decide +kernel
theorem dX12_goesOverRiver_53 : decode cX12_goesOverRiver 53 = .ok (.aload_n 0, 1) := by decide +kernel
theorem dX12_goesOverRiver_54 : decode cX12_goesOverRiver 54 = .ok (.iload_n 1, 1) := by decide +kernel
theorem dX12_goesOverRiver_55 : decode cX12_goesOverRiver 55 = .ok (.aload_n 0, 1) := by decide +kernel
theorem dX12_goesOverRiver_56 : decode cX12_goesOverRiver 56 = .ok (.getfield 329, 3) := by decide +kernel
theorem dX12_goesOverRiver_59 : decode cX12_goesOverRiver 59 = .ok (.invokevirtual 373, 3) := by decide +kernel
theorem dX12_goesOverRiver_62 : decode cX12_goesOverRiver 62 = .ok (.ifCond .eq 5, 3) := by decide +kernel
theorem dX12_goesOverRiver_65 : decode cX12_goesOverRiver 65 = .ok (.iconst 1, 1) := by decide +kernel
theorem dX12_goesOverRiver_66 : decode cX12_goesOverRiver 66 = .ok (.ireturn, 1) := by decide +kernel
theorem dX12_goesOverRiver_67 : decode cX12_goesOverRiver 67 = .ok (.iinc 1 1, 3) := by decide +kernel
theorem dX12_goesOverRiver_70 : decode cX12_goesOverRiver 70 = .ok (.goto (-65), 3) := by decide +kernel
theorem dX12_goesOverRiver_73 : decode cX12_goesOverRiver 73 = .ok (.aload_n 0, 1) := by decide +kernel
theorem dX12_goesOverRiver_74 : decode cX12_goesOverRiver 74 = .ok (.getfield 323, 3) := by decide +kernel
theorem dX12_goesOverRiver_77 : decode cX12_goesOverRiver 77 = .ok (.istore_n 1, 1) := by decide +kernel
theorem dX12_goesOverRiver_78 : decode cX12_goesOverRiver 78 = .ok (.iload_n 1, 1) := by decide +kernel
theorem dX12_goesOverRiver_79 : decode cX12_goesOverRiver 79 = .ok (.aload_n 0, 1) := by decide +kernel
theorem dX12_goesOverRiver_80 : decode cX12_goesOverRiver 80 = .ok (.getfield 329, 3) := by decide +kernel
theorem dX12_goesOverRiver_83 : decode cX12_goesOverRiver 83 = .ok (.if_icmp .ge 63, 3) := by decide +kernel
theorem dX12_goesOverRiver_86 : decode cX12_goesOverRiver 86 = .ok (.aload_n 0, 1) := by decide +kernel
theorem dX12_goesOverRiver_87 : decode cX12_goesOverRiver 87 = .ok (.aload_n 0, 1) := by decide +kernel
theorem dX12_goesOverRiver_88 : decode cX12_goesOverRiver 88 = .ok (.getfield 320, 3) := by decide +kernel
theorem dX12_goesOverRiver_91 : decode cX12_goesOverRiver 91 = .ok (.iload_n 1, 1) := by decide +kernel
theorem dX12_goesOverRiver_92 : decode cX12_goesOverRiver 92 = .ok (.invokevirtual 373, 3) := by decide +kernel
theorem dX12_goesOverRiver_95 : decode cX12_goesOverRiver 95 = .ok (.ifCond .eq 17, 3) := by decide +kernel
theorem dX12_goesOverRiver_98 : decode cX12_goesOverRiver 98 = .ok (.aload_n 0, 1) := by decide +kernel
theorem dX12_goesOverRiver_99 : decode cX12_goesOverRiver 99 = .ok (.aload_n 0, 1) := by decide +kernel
theorem dX12_goesOverRiver_100 : decode cX12_goesOverRiver 100 = .ok (.getfield 320, 3) := by decide +kernel
theorem dX12_goesOverRiver_103 : decode cX12_goesOverRiver 103 = .ok (.iconst 1, 1) := by decide +kernel
theorem dX12_goesOverRiver_104 : decode cX12_goesOverRiver 104 = .ok (.isub, 1) := by decide +kernel
theorem dX12_goesOverRiver_105 : decode cX12_goesOverRiver 105 = .ok (.iload_n 1, 1) := by decide +kernel
theorem dX12_goesOverRiver_106 : decode cX12_goesOverRiver 106 = .ok (.invokevirtual 373, 3) := by decide +kernel
theorem dX12_goesOverRiver_109 : decode cX12_goesOverRiver 109 = .ok (.ifCond .ne 29, 3) := by decide +kernel
theorem dX12_goesOverRiver_112 : decode cX12_goesOverRiver 112 = .ok (.aload_n 0, 1) := by decide +kernel
theorem dX12_goesOverRiver_113 : decode cX12_goesOverRiver 113 = .ok (.aload_n 0, 1) := by decide +kernel
theorem dX12_goesOverRiver_114 : decode cX12_goesOverRiver 114 = .ok (.getfield 326, 3) := by decide +kernel
theorem dX12_goesOverRiver_117 : decode cX12_goesOverRiver 117 = .ok (.iconst 1, 1) := by decide +kernel
theorem dX12_goesOverRiver_118 : decode cX12_goesOverRiver 118 = .ok (.isub, 1) := by decide +kernel
theorem dX12_goesOverRiver_119 : decode cX12_goesOverRiver 119 = .ok (.iload_n 1, 1) := by decide +kernel
theorem dX12_goesOverRiver_120 : decode cX12_goesOverRiver 120 = .ok (.invokevirtual 373, 3) := by decide +kernel
theorem dX12_goesOverRiver_123 : decode cX12_goesOverRiver 123 = .ok (.ifCond .eq 17, 3) := by decide +kernel
theorem dX12_goesOverRiver_126 : decode cX12_goesOverRiver 126 = .ok (.aload_n 0, 1) := by decide +kernel
theorem dX12_goesOverRiver_127 : decode cX12_goesOverRiver 127 = .ok (.aload_n 0, 1) := by decide +kernel
theorem dX12_goesOverRiver_128 : decode cX12_goesOverRiver 128 = .ok (.getfield 326, 3) := by decide +kernel
theorem dX12_goesOverRiver_131 : decode cX12_goesOverRiver 131 = .ok (.iload_n 1, 1) := by decide +kernel
theorem dX12_goesOverRiver_132 : decode cX12_goesOverRiver 132 = .ok (.invokevirtual 373, 3) := by decide +kernel
theorem dX12_goesOverRiver_135 : decode cX12_goesOverRiver 135 = .ok (.ifCond .eq 5, 3) := by decide +kernel
theorem dX12_goesOverRiver_138 : decode cX12_goesOverRiver 138 = .ok (.iconst 1, 1) := by decide +kernel
theorem dX12_goesOverRiver_139 : decode cX12_goesOverRiver 139 = .ok (.ireturn, 1) := by decide +kernel
theorem dX12_goesOverRiver_140 : decode cX12_goesOverRiver 140 = .ok (.iinc 1 1, 3) := by decide +kernel
theorem dX12_goesOverRiver_143 : decode cX12_goesOverRiver 143 = .ok (.goto (-65), 3) := by decide +kernel
theorem dX12_goesOverRiver_146 : decode cX12_goesOverRiver 146 = .ok (.iconst 0, 1) := by decide +kernel
theorem dX12_goesOverRiver_147 : decode cX12_goesOverRiver 147 = .ok (.ireturn, 1) := by decide +kernel
theorem dX12_canCome_0 : decode cX12_canCome 0 = .ok (.aload_n 0, 1) := by decide +kernel
theorem dX12_canCome_1 : decode cX12_canCome 1 = .ok (.invokevirtual 376, 3) := by decide +kernel
theorem dX12_canCome_4 : decode cX12_canCome 4 = .ok (.ifCond .eq 21, 3) := by decide +kernel
theorem dX12_canCome_7 : decode cX12_canCome 7 = .ok (.aload_n 0, 1) := by decide +kernel
theorem dX12_canCome_8 : decode cX12_canCome 8 = .ok (.getfield 335, 3) := by decide +kernel
theorem dX12_canCome_11 : decode cX12_canCome 11 = .ok (.iconst (-1), 1) := by decide +kernel
theorem dX12_canCome_12 : decode cX12_canCome 12 = .ok (.if_icmp .eq 15, 3) := by decide +kernel
theorem dX12_canCome_15 : decode cX12_canCome 15 = .ok (.aload_n 0, 1) := by decide +kernel
theorem dX12_canCome_16 : decode cX12_canCome 16 = .ok (.getfield 29, 3) := by decide +kernel
theorem dX12_canCome_19 : decode cX12_canCome 19 = .ok (.iload_n 1, 1) := by decide +kernel
theorem dX12_canCome_20 : decode cX12_canCome 20 = .ok (.iaload, 1) := by decide +kernel
theorem dX12_canCome_21 : decode cX12_canCome 21 = .ok (.iconst 1, 1) := by decide +kernel
theorem dX12_canCome_22 : decode cX12_canCome 22 = .ok (.if_icmp .eq 5, 3) := by decide +kernel
theorem dX12_canCome_25 : decode cX12_canCome 25 = .ok (.iconst 0, 1) := by decide +kernel
theorem dX12_canCome_26 : decode cX12_canCome 26 = .ok (.ireturn, 1) := by decide +kernel
theorem dX12_canCome_27 : decode cX12_canCome 27 = .ok (.aload_n 0, 1) := by decide +kernel
theorem dX12_canCome_28 : decode cX12_canCome 28 = .ok (.invokevirtual 379, 3) := by decide +kernel
theorem dX12_canCome_31 : decode cX12_canCome 31 = .ok (.ifCond .eq 10, 3) := by decide +kernel
theorem dX12_canCome_34 : decode cX12_canCome 34 = .ok (.aload_n 0, 1) := by decide +kernel
theorem dX12_canCome_35 : decode cX12_canCome 35 = .ok (.invokevirtual 382, 3) := by decide +kernel
theorem dX12_canCome_38 : decode cX12_canCome 38 = .ok (.ifCond .eq 5, 3) := by decide +kernel
theorem dX12_canCome_41 : decode cX12_canCome 41 = .ok (.iconst 0, 1) := by decide +kernel
theorem dX12_canCome_42 : decode cX12_canCome 42 = .ok (.ireturn, 1) := by decide +kernel
theorem dX12_canCome_43 : decode cX12_canCome 43 = .ok (.aload_n 0, 1) := by decide +kernel
theorem dX12_canCome_44 : decode cX12_canCome 44 = .ok (.iload_n 2, 1) := by decide +kernel
theorem dX12_canCome_45 : decode cX12_canCome 45 = .ok (.invokevirtual 385, 3) := by decide +kernel
theorem dX12_canCome_48 : decode cX12_canCome 48 = .ok (.aload_n 0, 1) := by decide +kernel
theorem dX12_canCome_49 : decode cX12_canCome 49 = .ok (.iload_n 1, 1) := by decide +kernel
theorem dX12_canCome_50 : decode cX12_canCome 50 = .ok (.invokevirtual 388, 3) := by decide +kernel
theorem dX12_canCome_53 : decode cX12_canCome 53 = .ok (.lstore_n 3, 1) := by decide +kernel
theorem dX12_canCome_54 : decode cX12_canCome 54 = .ok (.aload_n 0, 1) := by decide +kernel
theorem dX12_canCome_55 : decode cX12_canCome 55 = .ok (.aload_n 0, 1) := by decide +kernel
theorem dX12_canCome_56 : decode cX12_canCome 56 = .ok (.getfield 332, 3) := by decide +kernel
theorem dX12_canCome_59 : decode cX12_canCome 59 = .ok (.lload_n 3, 1) := by decide +kernel
theorem dX12_canCome_60 : decode cX12_canCome 60 = .ok (.invokevirtual 341, 3) := by decide +kernel
theorem dX12_canCome_63 : decode cX12_canCome 63 = .ok (.ifCond .eq 35, 3) := by decide +kernel
theorem dX12_canCome_66 : decode cX12_canCome 66 = .ok (.aload_n 0, 1) := by decide +kernel
theorem dX12_canCome_67 : decode cX12_canCome 67 = .ok (.getfield 335, 3) := by decide +kernel
theorem dX12_canCome_70 : decode cX12_canCome 70 = .ok (.iconst (-1), 1) := by decide +kernel
theorem dX12_canCome_71 : decode cX12_canCome 71 = .ok (.if_icmp .eq 15, 3) := by decide +kernel
theorem dX12_canCome_74 : decode cX12_canCome 74 = .ok (.aload_n 0, 1) := by decide +kernel
theorem dX12_canCome_75 : decode cX12_canCome 75 = .ok (.aload_n 0, 1) := by decide +kernel
theorem dX12_canCome_76 : decode cX12_canCome 76 = .ok (.getfield 335, 3) := by decide +kernel
theorem dX12_canCome_79 : decode cX12_canCome 79 = .ok (.lload_n 3, 1) := by decide +kernel
theorem dX12_canCome_80 : decode cX12_canCome 80 = .ok (.invokevirtual 341, 3) := by decide +kernel
theorem dX12_canCome_83 : decode cX12_canCome 83 = .ok (.ifCond .eq 15, 3) := by decide +kernel
theorem dX12_canCome_86 : decode cX12_canCome 86 = .ok (.aload_n 0, 1) := by decide +kernel
theorem dX12_canCome_87 : decode cX12_canCome 87 = .ok (.iload_n 1, 1) := by decide +kernel
theorem dX12_canCome_88 : decode cX12_canCome 88 = .ok (.invokevirtual 392, 3) := by decide +kernel
theorem dX12_canCome_91 : decode cX12_canCome 91 = .ok (.ifCond .eq 7, 3) := by decide +kernel
theorem dX12_canCome_94 : decode cX12_canCome 94 = .ok (.iconst 1, 1) := by decide +kernel
theorem dX12_canCome_95 : decode cX12_canCome 95 = .ok (.goto 4, 3) := by decide +kernel
theorem dX12_canCome_98 : decode cX12_canCome 98 = .ok (.iconst 0, 1) := by decide +kernel
theorem dX12_canCome_99 : decode cX12_canCome 99 = .ok (.ireturn, 1) := by decide +kernel
theorem dX12_builds_0 : decode cX12_builds 0 = .ok (.aload_n 0, 1) := by decide +kernel
theorem dX12_builds_1 : decode cX12_builds 1 = .ok (.iload_n 1, 1) := by decide +kernel
theorem dX12_builds_2 : decode cX12_builds 2 = .ok (.aload_n 0, 1) := by decide +kernel
theorem dX12_builds_3 : decode cX12_builds 3 = .ok (.getfield 320, 3) := by decide +kernel
theorem dX12_builds_6 : decode cX12_builds 6 = .ok (.aload_n 0, 1) := by decide +kernel
theorem dX12_builds_7 : decode cX12_builds 7 = .ok (.getfield 323, 3) := by decide +kernel
theorem dX12_builds_10 : decode cX12_builds 10 = .ok (.aload_n 0, 1) := by decide +kernel
theorem dX12_builds_11 : decode cX12_builds 11 = .ok (.getfield 326, 3) := by decide +kernel
theorem dX12_builds_14 : decode cX12_builds 14 = .ok (.aload_n 0, 1) := by decide +kernel
theorem dX12_builds_15 : decode cX12_builds 15 = .ok (.getfield 329, 3) := by decide +kernel
theorem dX12_builds_18 : decode cX12_builds 18 = .ok (.iload_n 2, 1) := by decide +kernel
theorem dX12_builds_19 : decode cX12_builds 19 = .ok (.invokevirtual 287, 3) := by decide +kernel
theorem dX12_builds_22 : decode cX12_builds 22 = .ok (.aload_n 0, 1) := by decide +kernel
theorem dX12_builds_23 : decode cX12_builds 23 = .ok (.getfield 48, 3) := by decide +kernel
theorem dX12_builds_26 : decode cX12_builds 26 = .ok (.aload_n 0, 1) := by decide +kernel
theorem dX12_builds_27 : decode cX12_builds 27 = .ok (.getfield 332, 3) := by decide +kernel
theorem dX12_builds_30 : decode cX12_builds 30 = .ok (.invokestatic 284, 3) := by decide +kernel
theorem dX12_builds_33 : decode cX12_builds 33 = .ok (.bipush 6, 2) := by decide +kernel
theorem dX12_builds_35 : decode cX12_builds 35 = .ok (.iadd, 1) := by decide +kernel
theorem dX12_builds_36 : decode cX12_builds 36 = .ok (.iload_n 1, 1) := by decide +kernel
theorem dX12_builds_37 : decode cX12_builds 37 = .ok (.iastore, 1) := by decide +kernel
theorem dX12_builds_38 : decode cX12_builds 38 = .ok (.aload_n 0, 1) := by decide +kernel
theorem dX12_builds_39 : decode cX12_builds 39 = .ok (.getfield 335, 3) := by decide +kernel
theorem dX12_builds_42 : decode cX12_builds 42 = .ok (.iconst (-1), 1) := by decide +kernel
theorem dX12_builds_43 : decode cX12_builds 43 = .ok (.if_icmp .eq 19, 3) := by decide +kernel
theorem dX12_builds_46 : decode cX12_builds 46 = .ok (.aload_n 0, 1) := by decide +kernel
theorem dX12_builds_47 : decode cX12_builds 47 = .ok (.getfield 48, 3) := by decide +kernel
theorem dX12_builds_50 : decode cX12_builds 50 = .ok (.aload_n 0, 1) := by decide +kernel
theorem dX12_builds_51 : decode cX12_builds 51 = .ok (.getfield 335, 3) := by decide +kernel
theorem dX12_builds_54 : decode cX12_builds 54 = .ok (.invokestatic 284, 3) := by decide +kernel
theorem dX12_builds_57 : decode cX12_builds 57 = .ok (.bipush 6, 2) := by decide +kernel
theorem dX12_builds_59 : decode cX12_builds 59 = .ok (.iadd, 1) := by decide +kernel
theorem dX12_builds_60 : decode cX12_builds 60 = .ok (.iload_n 1, 1) := by decide +kernel
theorem dX12_builds_61 : decode cX12_builds 61 = .ok (.iastore, 1) := by decide +kernel
theorem dX12_builds_62 : decode cX12_builds 62 = .ok (.return_, 1) := by decide +kernel
theorem dX12_freeNumber_0 : decode cX12_freeNumber 0 = .ok (.bipush 6, 2) := by decide +kernel
theorem dX12_freeNumber_2 : decode cX12_freeNumber 2 = .ok (.istore_n 1, 1) := by decide +kernel
theorem dX12_freeNumber_3 : decode cX12_freeNumber 3 = .ok (.iload_n 1, 1) := by decide +kernel
theorem dX12_freeNumber_4 : decode cX12_freeNumber 4 = .ok (.bipush 30, 2) := by decide +kernel
theorem dX12_freeNumber_6 : decode cX12_freeNumber 6 = .ok (.if_icmp .ge 20, 3) := by decide +kernel
theorem dX12_freeNumber_9 : decode cX12_freeNumber 9 = .ok (.aload_n 0, 1) := by decide +kernel
theorem dX12_freeNumber_10 : decode cX12_freeNumber 10 = .ok (.iload_n 1, 1) := by decide +kernel
theorem dX12_freeNumber_11 : decode cX12_freeNumber 11 = .ok (.iconst 0, 1) := by decide +kernel
theorem dX12_freeNumber_12 : decode cX12_freeNumber 12 = .ok (.invokevirtual 310, 3) := by decide +kernel
theorem dX12_freeNumber_15 : decode cX12_freeNumber 15 = .ok (.ifCond .ne 5, 3) := by decide +kernel
theorem dX12_freeNumber_18 : decode cX12_freeNumber 18 = .ok (.iload_n 1, 1) := by decide +kernel
theorem dX12_freeNumber_19 : decode cX12_freeNumber 19 = .ok (.ireturn, 1) := by decide +kernel
theorem dX12_freeNumber_20 : decode cX12_freeNumber 20 = .ok (.iinc 1 1, 3) := by decide +kernel
theorem dX12_freeNumber_23 : decode cX12_freeNumber 23 = .ok (.goto (-20), 3) := by decide +kernel
theorem dX12_freeNumber_26 : decode cX12_freeNumber 26 = .ok (.iconst (-1), 1) := by decide +kernel
theorem dX12_freeNumber_27 : decode cX12_freeNumber 27 = .ok (.ireturn, 1) := by decide +kernel
theorem dX12_like_0 : decode cX12_like 0 = .ok (.iload_n 1, 1) := by decide +kernel
theorem dX12_like_1 : decode cX12_like 1 = .ok (.invokestatic 395, 3) := by decide +kernel
theorem dX12_like_4 : decode cX12_like 4 = .ok (.ifCond .eq 29, 3) := by decide +kernel
theorem dX12_like_7 : decode cX12_like 7 = .ok (.iload_n 2, 1) := by decide +kernel
theorem dX12_like_8 : decode cX12_like 8 = .ok (.invokestatic 395, 3) := by decide +kernel
theorem dX12_like_11 : decode cX12_like 11 = .ok (.ifCond .eq 22, 3) := by decide +kernel
theorem dX12_like_14 : decode cX12_like 14 = .ok (.iload_n 1, 1) := by decide +kernel
theorem dX12_like_15 : decode cX12_like 15 = .ok (.iload_n 2, 1) := by decide +kernel
theorem dX12_like_16 : decode cX12_like 16 = .ok (.if_icmp .eq 17, 3) := by decide +kernel
theorem dX12_like_19 : decode cX12_like 19 = .ok (.iload_n 3, 1) := by decide +kernel
theorem dX12_like_20 : decode cX12_like 20 = .ok (.i2l, 1) := by decide +kernel
theorem dX12_like_21 : decode cX12_like 21 = .ok (.ldc2_w 398, 3) := by decide +kernel
theorem dX12_like_24 : decode cX12_like 24 = .ok (.ldc2_w 400, 3) := by decide +kernel
theorem dX12_like_27 : decode cX12_like 27 = .ok (.invokestatic 112, 3) := by decide +kernel
theorem dX12_like_30 : decode cX12_like 30 = .ok (.ifCond .ne 6, 3) := by decide +kernel
theorem dX12_like_33 : decode cX12_like 33 = .ok (.bipush (-100), 2) := by decide +kernel
theorem dX12_like_35 : decode cX12_like 35 = .ok (.ireturn, 1) := by decide +kernel
theorem dX12_like_36 : decode cX12_like 36 = .ok (.sipush 2256, 3) := by decide +kernel
theorem dX12_like_39 : decode cX12_like 39 = .ok (.bipush 12, 2) := by decide +kernel
theorem dX12_like_41 : decode cX12_like 41 = .ok (.iload_n 1, 1) := by decide +kernel
theorem dX12_like_42 : decode cX12_like 42 = .ok (.imul, 1) := by decide +kernel
theorem dX12_like_43 : decode cX12_like 43 = .ok (.iadd, 1) := by decide +kernel
theorem dX12_like_44 : decode cX12_like 44 = .ok (.iload_n 2, 1) := by decide +kernel
theorem dX12_like_45 : decode cX12_like 45 = .ok (.iadd, 1) := by decide +kernel
theorem dX12_like_46 : decode cX12_like 46 = .ok (.istore 4, 2) := by decide +kernel
theorem dX12_like_48 : decode cX12_like 48 = .ok (.aload_n 0, 1) := by decide +kernel
theorem dX12_like_49 : decode cX12_like 49 = .ok (.getfield 48, 3) := by decide +kernel
theorem dX12_like_52 : decode cX12_like 52 = .ok (.iload 4, 2) := by decide +kernel
theorem dX12_like_54 : decode cX12_like 54 = .ok (.iaload, 1) := by decide +kernel
theorem dX12_like_55 : decode cX12_like 55 = .ok (.istore 5, 2) := by decide +kernel
theorem dX12_like_57 : decode cX12_like 57 = .ok (.aload_n 0, 1) := by decide +kernel
theorem dX12_like_58 : decode cX12_like 58 = .ok (.getfield 48, 3) := by decide +kernel
theorem dX12_like_61 : decode cX12_like 61 = .ok (.iload 4, 2) := by decide +kernel
theorem dX12_like_63 : decode cX12_like 63 = .ok (.iload_n 3, 1) := by decide +kernel
theorem dX12_like_64 : decode cX12_like 64 = .ok (.iastore, 1) := by decide +kernel
theorem dX12_like_65 : decode cX12_like 65 = .ok (.iload 5, 2) := by decide +kernel
theorem dX12_like_67 : decode cX12_like 67 = .ok (.ireturn, 1) := by decide +kernel
theorem dX12_build_0 : decode cX12_build 0 = .ok (.aload_n 0, 1) := by decide +kernel
theorem dX12_build_1 : decode cX12_build 1 = .ok (.iconst 0, 1) := by decide +kernel
theorem dX12_build_2 : decode cX12_build 2 = .ok (.iload_n 1, 1) := by decide +kernel
theorem dX12_build_3 : decode cX12_build 3 = .ok (.invokevirtual 402, 3) := by decide +kernel
theorem dX12_build_6 : decode cX12_build 6 = .ok (.ifCond .eq 15, 3) := by decide +kernel
theorem dX12_build_9 : decode cX12_build 9 = .ok (.aload_n 0, 1) := by decide +kernel
theorem dX12_build_10 : decode cX12_build 10 = .ok (.iload_n 2, 1) := by decide +kernel
theorem dX12_build_11 : decode cX12_build 11 = .ok (.iload 7, 2) := by decide +kernel
theorem dX12_build_13 : decode cX12_build 13 = .ok (.iload 8, 2) := by decide +kernel
theorem dX12_build_15 : decode cX12_build 15 = .ok (.invokevirtual 405, 3) := by decide +kernel
theorem dX12_build_18 : decode cX12_build 18 = .ok (.ifCond .ne 5, 3) := by decide +kernel
theorem dX12_build_21 : decode cX12_build 21 = .ok (.iconst (-1), 1) := by decide +kernel
theorem dX12_build_22 : decode cX12_build 22 = .ok (.ireturn, 1) := by decide +kernel
theorem dX12_build_23 : decode cX12_build 23 = .ok (.aload_n 0, 1) := by decide +kernel
theorem dX12_build_24 : decode cX12_build 24 = .ok (.iload_n 3, 1) := by decide +kernel
theorem dX12_build_25 : decode cX12_build 25 = .ok (.iload 4, 2) := by decide +kernel
theorem dX12_build_27 : decode cX12_build 27 = .ok (.iload 5, 2) := by decide +kernel
theorem dX12_build_29 : decode cX12_build 29 = .ok (.iload 6, 2) := by decide +kernel
theorem dX12_build_31 : decode cX12_build 31 = .ok (.iload 7, 2) := by decide +kernel
theorem dX12_build_33 : decode cX12_build 33 = .ok (.iload 8, 2) := by decide +kernel
theorem dX12_build_35 : decode cX12_build 35 = .ok (.invokevirtual 408, 3) := by decide +kernel
theorem dX12_build_38 : decode cX12_build 38 = .ok (.aload_n 0, 1) := by decide +kernel
theorem dX12_build_39 : decode cX12_build 39 = .ok (.invokevirtual 414, 3) := by decide +kernel
theorem dX12_build_42 : decode cX12_build 42 = .ok (.istore 9, 2) := by decide +kernel
theorem dX12_build_44 : decode cX12_build 44 = .ok (.iload 9, 2) := by decide +kernel
theorem dX12_build_46 : decode cX12_build 46 = .ok (.iconst (-1), 1) := by decide +kernel
theorem dX12_build_47 : decode cX12_build 47 = .ok (.if_icmp .eq 12, 3) := by decide +kernel
theorem dX12_build_50 : decode cX12_build 50 = .ok (.aload_n 0, 1) := by decide +kernel
theorem dX12_build_51 : decode cX12_build 51 = .ok (.iload_n 1, 1) := by decide +kernel
theorem dX12_build_52 : decode cX12_build 52 = .ok (.iload_n 2, 1) := by decide +kernel
theorem dX12_build_53 : decode cX12_build 53 = .ok (.invokevirtual 411, 3) := by decide +kernel
theorem dX12_build_56 : decode cX12_build 56 = .ok (.ifCond .ne 6, 3) := by decide +kernel
theorem dX12_build_59 : decode cX12_build 59 = .ok (.bipush (-2), 2) := by decide +kernel
theorem dX12_build_61 : decode cX12_build 61 = .ok (.ireturn, 1) := by decide +kernel
theorem dX12_build_62 : decode cX12_build 62 = .ok (.aload_n 0, 1) := by decide +kernel
theorem dX12_build_63 : decode cX12_build 63 = .ok (.iload 9, 2) := by decide +kernel
theorem dX12_build_65 : decode cX12_build 65 = .ok (.iload_n 2, 1) := by decide +kernel
theorem dX12_build_66 : decode cX12_build 66 = .ok (.invokevirtual 417, 3) := by decide +kernel
theorem dX12_build_69 : decode cX12_build 69 = .ok (.iload 9, 2) := by decide +kernel
theorem dX12_build_71 : decode cX12_build 71 = .ok (.ireturn, 1) := by decide +kernel
theorem dX12_pull_0 : decode cX12_pull 0 = .ok (.aload_n 0, 1) := by decide +kernel
theorem dX12_pull_1 : decode cX12_pull 1 = .ok (.iload_n 1, 1) := by decide +kernel
theorem dX12_pull_2 : decode cX12_pull 2 = .ok (.invokevirtual 423, 3) := by decide +kernel
theorem dX12_pull_5 : decode cX12_pull 5 = .ok (.ifCond .ne 5, 3) := by decide +kernel
theorem dX12_pull_8 : decode cX12_pull 8 = .ok (.iconst 0, 1) := by decide +kernel
theorem dX12_pull_9 : decode cX12_pull 9 = .ok (.ireturn, 1) := by decide +kernel
theorem dX12_pull_10 : decode cX12_pull 10 = .ok (.aload_n 0, 1) := by decide +kernel
theorem dX12_pull_11 : decode cX12_pull 11 = .ok (.iload_n 1, 1) := by decide +kernel
theorem dX12_pull_12 : decode cX12_pull 12 = .ok (.invokevirtual 426, 3) := by decide +kernel
theorem dX12_pull_15 : decode cX12_pull 15 = .ok (.iconst 1, 1) := by decide +kernel
theorem dX12_pull_16 : decode cX12_pull 16 = .ok (.ireturn, 1) := by decide +kernel
theorem dX12_sideOf_0 : decode cX12_sideOf 0 = .ok (.iload_n 2, 1) := by decide +kernel
theorem dX12_sideOf_1 : decode cX12_sideOf 1 = .ok (.invokestatic 429, 3) := by decide +kernel
theorem dX12_sideOf_4 : decode cX12_sideOf 4 = .ok (.ifCond .eq 19, 3) := by decide +kernel
theorem dX12_sideOf_7 : decode cX12_sideOf 7 = .ok (.aload_n 0, 1) := by decide +kernel
theorem dX12_sideOf_8 : decode cX12_sideOf 8 = .ok (.iload_n 1, 1) := by decide +kernel
theorem dX12_sideOf_9 : decode cX12_sideOf 9 = .ok (.iconst 3, 1) := by decide +kernel
theorem dX12_sideOf_10 : decode cX12_sideOf 10 = .ok (.invokevirtual 310, 3) := by decide +kernel
theorem dX12_sideOf_13 : decode cX12_sideOf 13 = .ok (.aload_n 0, 1) := by decide +kernel
theorem dX12_sideOf_14 : decode cX12_sideOf 14 = .ok (.iload_n 1, 1) := by decide +kernel
theorem dX12_sideOf_15 : decode cX12_sideOf 15 = .ok (.iconst 1, 1) := by decide +kernel
theorem dX12_sideOf_16 : decode cX12_sideOf 16 = .ok (.invokevirtual 310, 3) := by decide +kernel
theorem dX12_sideOf_19 : decode cX12_sideOf 19 = .ok (.isub, 1) := by decide +kernel
theorem dX12_sideOf_20 : decode cX12_sideOf 20 = .ok (.goto 16, 3) := by decide +kernel
theorem dX12_sideOf_23 : decode cX12_sideOf 23 = .ok (.aload_n 0, 1) := by decide +kernel
theorem dX12_sideOf_24 : decode cX12_sideOf 24 = .ok (.iload_n 1, 1) := by decide +kernel
theorem dX12_sideOf_25 : decode cX12_sideOf 25 = .ok (.iconst 4, 1) := by decide +kernel
theorem dX12_sideOf_26 : decode cX12_sideOf 26 = .ok (.invokevirtual 310, 3) := by decide +kernel
theorem dX12_sideOf_29 : decode cX12_sideOf 29 = .ok (.aload_n 0, 1) := by decide +kernel
theorem dX12_sideOf_30 : decode cX12_sideOf 30 = .ok (.iload_n 1, 1) := by decide +kernel
theorem dX12_sideOf_31 : decode cX12_sideOf 31 = .ok (.iconst 2, 1) := by decide +kernel
theorem dX12_sideOf_32 : decode cX12_sideOf 32 = .ok (.invokevirtual 310, 3) := by decide +kernel
theorem dX12_sideOf_35 : decode cX12_sideOf 35 = .ok (.isub, 1) := by decide +kernel
theorem dX12_sideOf_36 : decode cX12_sideOf 36 = .ok (.ireturn, 1) := by decide +kernel
theorem dX12_gate_0 : decode cX12_gate 0 = .ok (.aload_n 0, 1) := by decide +kernel
theorem dX12_gate_1 : decode cX12_gate 1 = .ok (.iload_n 1, 1) := by decide +kernel
theorem dX12_gate_2 : decode cX12_gate 2 = .ok (.invokevirtual 423, 3) := by decide +kernel
theorem dX12_gate_5 : decode cX12_gate 5 = .ok (.ifCond .eq 46, 3) := by decide +kernel
theorem dX12_gate_8 : decode cX12_gate 8 = .ok (.iload_n 2, 1) := by decide +kernel
theorem dX12_gate_9 : decode cX12_gate 9 = .ok (.i2l, 1) := by decide +kernel
theorem dX12_gate_10 : decode cX12_gate 10 = .ok (.lconst 0, 1) := by decide +kernel
theorem dX12_gate_11 : decode cX12_gate 11 = .ok (.ldc2_w 432, 3) := by decide +kernel
theorem dX12_gate_14 : decode cX12_gate 14 = .ok (.invokestatic 112, 3) := by decide +kernel
theorem dX12_gate_17 : decode cX12_gate 17 = .ok (.ifCond .eq 34, 3) := by decide +kernel
theorem dX12_gate_20 : decode cX12_gate 20 = .ok (.iload_n 3, 1) := by decide +kernel
theorem dX12_gate_21 : decode cX12_gate 21 = .ok (.i2l, 1) := by decide +kernel
theorem dX12_gate_22 : decode cX12_gate 22 = .ok (.lconst 0, 1) := by decide +kernel
theorem dX12_gate_23 : decode cX12_gate 23 = .ok (.aload_n 0, 1) := by decide +kernel
theorem dX12_gate_24 : decode cX12_gate 24 = .ok (.iload_n 1, 1) := by decide +kernel
theorem dX12_gate_25 : decode cX12_gate 25 = .ok (.iload_n 2, 1) := by decide +kernel
theorem dX12_gate_26 : decode cX12_gate 26 = .ok (.invokevirtual 434, 3) := by decide +kernel
theorem dX12_gate_29 : decode cX12_gate 29 = .ok (.iconst 1, 1) := by decide +kernel
theorem dX12_gate_30 : decode cX12_gate 30 = .ok (.isub, 1) := by decide +kernel
theorem dX12_gate_31 : decode cX12_gate 31 = .ok (.i2l, 1) := by decide +kernel
theorem dX12_gate_32 : decode cX12_gate 32 = .ok (.invokestatic 112, 3) := by decide +kernel
theorem dX12_gate_35 : decode cX12_gate 35 = .ok (.ifCond .eq 16, 3) := by decide +kernel
theorem dX12_gate_38 : decode cX12_gate 38 = .ok (.iload 4, 2) := by decide +kernel
theorem dX12_gate_40 : decode cX12_gate 40 = .ok (.i2l, 1) := by decide +kernel
theorem dX12_gate_41 : decode cX12_gate 41 = .ok (.lconst 0, 1) := by decide +kernel
theorem dX12_gate_42 : decode cX12_gate 42 = .ok (.ldc2_w 437, 3) := by decide +kernel
theorem dX12_gate_45 : decode cX12_gate 45 = .ok (.invokestatic 112, 3) := by decide +kernel
theorem dX12_gate_48 : decode cX12_gate 48 = .ok (.ifCond .ne 5, 3) := by decide +kernel
theorem dX12_gate_51 : decode cX12_gate 51 = .ok (.iconst 0, 1) := by decide +kernel
theorem dX12_gate_52 : decode cX12_gate 52 = .ok (.ireturn, 1) := by decide +kernel
theorem dX12_gate_53 : decode cX12_gate 53 = .ok (.aload_n 0, 1) := by decide +kernel
theorem dX12_gate_54 : decode cX12_gate 54 = .ok (.iload_n 1, 1) := by decide +kernel
theorem dX12_gate_55 : decode cX12_gate 55 = .ok (.iload_n 2, 1) := by decide +kernel
theorem dX12_gate_56 : decode cX12_gate 56 = .ok (.iload_n 3, 1) := by decide +kernel
theorem dX12_gate_57 : decode cX12_gate 57 = .ok (.iload 4, 2) := by decide +kernel
theorem dX12_gate_59 : decode cX12_gate 59 = .ok (.invokevirtual 439, 3) := by decide +kernel
theorem dX12_gate_62 : decode cX12_gate 62 = .ok (.iconst 1, 1) := by decide +kernel
theorem dX12_gate_63 : decode cX12_gate 63 = .ok (.ireturn, 1) := by decide +kernel
theorem dX12_isGroundOf_0 : decode cX12_isGroundOf 0 = .ok (.iconst 0, 1) := by decide +kernel
theorem dX12_isGroundOf_1 : decode cX12_isGroundOf 1 = .ok (.istore 4, 2) := by decide +kernel
theorem dX12_isGroundOf_3 : decode cX12_isGroundOf 3 = .ok (.iload 4, 2) := by decide +kernel
theorem dX12_isGroundOf_5 : decode cX12_isGroundOf 5 = .ok (.bipush 30, 2) := by decide +kernel
theorem dX12_isGroundOf_7 : decode cX12_isGroundOf 7 = .ok (.if_icmp .ge 45, 3) := by decide +kernel
theorem dX12_isGroundOf_10 : decode cX12_isGroundOf 10 = .ok (.aload_n 0, 1) := by decide +kernel
theorem dX12_isGroundOf_11 : decode cX12_isGroundOf 11 = .ok (.iload 4, 2) := by decide +kernel
theorem dX12_isGroundOf_13 : decode cX12_isGroundOf 13 = .ok (.iconst 0, 1) := by decide +kernel
theorem dX12_isGroundOf_14 : decode cX12_isGroundOf 14 = .ok (.invokevirtual 310, 3) := by decide +kernel
theorem dX12_isGroundOf_17 : decode cX12_isGroundOf 17 = .ok (.iconst 1, 1) := by decide +kernel
theorem dX12_isGroundOf_18 : decode cX12_isGroundOf 18 = .ok (.if_icmp .ne 28, 3) := by decide +kernel
theorem dX12_isGroundOf_21 : decode cX12_isGroundOf 21 = .ok (.aload_n 0, 1) := by decide +kernel
theorem dX12_isGroundOf_22 : decode cX12_isGroundOf 22 = .ok (.iload 4, 2) := by decide +kernel
theorem dX12_isGroundOf_24 : decode cX12_isGroundOf 24 = .ok (.bipush 6, 2) := by decide +kernel
theorem dX12_isGroundOf_26 : decode cX12_isGroundOf 26 = .ok (.invokevirtual 310, 3) := by decide +kernel
theorem dX12_isGroundOf_29 : decode cX12_isGroundOf 29 = .ok (.iload_n 1, 1) := by decide +kernel
theorem dX12_isGroundOf_30 : decode cX12_isGroundOf 30 = .ok (.if_icmp .ne 16, 3) := by decide +kernel
theorem dX12_isGroundOf_33 : decode cX12_isGroundOf 33 = .ok (.aload_n 0, 1) := by decide +kernel
theorem dX12_isGroundOf_34 : decode cX12_isGroundOf 34 = .ok (.iload 4, 2) := by decide +kernel
theorem dX12_isGroundOf_36 : decode cX12_isGroundOf 36 = .ok (.iload_n 2, 1) := by decide +kernel
theorem dX12_isGroundOf_37 : decode cX12_isGroundOf 37 = .ok (.iload_n 3, 1) := by decide +kernel
theorem dX12_isGroundOf_38 : decode cX12_isGroundOf 38 = .ok (.invokevirtual 347, 3) := by decide +kernel
theorem dX12_isGroundOf_41 : decode cX12_isGroundOf 41 = .ok (.ifCond .eq 5, 3) := by decide +kernel
theorem dX12_isGroundOf_44 : decode cX12_isGroundOf 44 = .ok (.iconst 0, 1) := by decide +kernel
theorem dX12_isGroundOf_45 : decode cX12_isGroundOf 45 = .ok (.ireturn, 1) := by decide +kernel
theorem dX12_isGroundOf_46 : decode cX12_isGroundOf 46 = .ok (.iinc 4 1, 3) := by decide +kernel
theorem dX12_isGroundOf_49 : decode cX12_isGroundOf 49 = .ok (.goto (-46), 3) := by decide +kernel
theorem dX12_isGroundOf_52 : decode cX12_isGroundOf 52 = .ok (.iconst 1, 1) := by decide +kernel
theorem dX12_isGroundOf_53 : decode cX12_isGroundOf 53 = .ok (.ireturn, 1) := by decide +kernel
theorem dX12_thing_0 : decode cX12_thing 0 = .ok (.aload_n 0, 1) := by decide +kernel
theorem dX12_thing_1 : decode cX12_thing 1 = .ok (.iload_n 1, 1) := by decide +kernel
theorem dX12_thing_2 : decode cX12_thing 2 = .ok (.invokevirtual 314, 3) := by decide +kernel
theorem dX12_thing_5 : decode cX12_thing 5 = .ok (.ifCond .eq 15, 3) := by decide +kernel
theorem dX12_thing_8 : decode cX12_thing 8 = .ok (.iload_n 2, 1) := by decide +kernel
theorem dX12_thing_9 : decode cX12_thing 9 = .ok (.i2l, 1) := by decide +kernel
theorem dX12_thing_10 : decode cX12_thing 10 = .ok (.lconst 0, 1) := by decide +kernel
theorem dX12_thing_11 : decode cX12_thing 11 = .ok (.ldc2_w 446, 3) := by decide +kernel
theorem dX12_thing_14 : decode cX12_thing 14 = .ok (.invokestatic 112, 3) := by decide +kernel
theorem dX12_thing_17 : decode cX12_thing 17 = .ok (.ifCond .ne 6, 3) := by decide +kernel
theorem dX12_thing_20 : decode cX12_thing 20 = .ok (.bipush (-2), 2) := by decide +kernel
theorem dX12_thing_22 : decode cX12_thing 22 = .ok (.ireturn, 1) := by decide +kernel
theorem dX12_thing_23 : decode cX12_thing 23 = .ok (.iload_n 2, 1) := by decide +kernel
theorem dX12_thing_24 : decode cX12_thing 24 = .ok (.bipush 6, 2) := by decide +kernel
theorem dX12_thing_26 : decode cX12_thing 26 = .ok (.if_icmp .ge 31, 3) := by decide +kernel
theorem dX12_thing_29 : decode cX12_thing 29 = .ok (.aload_n 0, 1) := by decide +kernel
theorem dX12_thing_30 : decode cX12_thing 30 = .ok (.iload_n 1, 1) := by decide +kernel
theorem dX12_thing_31 : decode cX12_thing 31 = .ok (.iload_n 2, 1) := by decide +kernel
theorem dX12_thing_32 : decode cX12_thing 32 = .ok (.iconst 4, 1) := by decide +kernel
theorem dX12_thing_33 : decode cX12_thing 33 = .ok (.if_icmp .ge 9, 3) := by decide +kernel
theorem dX12_thing_36 : decode cX12_thing 36 = .ok (.iload_n 2, 1) := by decide +kernel
theorem dX12_thing_37 : decode cX12_thing 37 = .ok (.iconst 1, 1) := by decide +kernel
theorem dX12_thing_38 : decode cX12_thing 38 = .ok (.iadd, 1) := by decide +kernel
theorem dX12_thing_39 : decode cX12_thing 39 = .ok (.goto 14, 3) := by decide +kernel
theorem dX12_thing_42 : decode cX12_thing 42 = .ok (.iload_n 2, 1) := by decide +kernel
theorem dX12_thing_43 : decode cX12_thing 43 = .ok (.iconst 4, 1) := by decide +kernel
theorem dX12_thing_44 : decode cX12_thing 44 = .ok (.if_icmp .ne 7, 3) := by decide +kernel
theorem dX12_thing_47 : decode cX12_thing 47 = .ok (.iconst 5, 1) := by decide +kernel
theorem dX12_thing_48 : decode cX12_thing 48 = .ok (.goto 5, 3) := by decide +kernel
theorem dX12_thing_51 : decode cX12_thing 51 = .ok (.bipush 6, 2) := by decide +kernel
theorem dX12_thing_53 : decode cX12_thing 53 = .ok (.invokevirtual 310, 3) := by decide +kernel
theorem dX12_thing_56 : decode cX12_thing 56 = .ok (.ireturn, 1) := by decide +kernel
theorem dX12_thing_57 : decode cX12_thing 57 = .ok (.iload_n 2, 1) := by decide +kernel
theorem dX12_thing_58 : decode cX12_thing 58 = .ok (.bipush 6, 2) := by decide +kernel
theorem dX12_thing_60 : decode cX12_thing 60 = .ok (.if_icmp .ne 11, 3) := by decide +kernel
theorem dX12_thing_63 : decode cX12_thing 63 = .ok (.aload_n 0, 1) := by decide +kernel
theorem dX12_thing_64 : decode cX12_thing 64 = .ok (.iload_n 1, 1) := by decide +kernel
theorem dX12_thing_65 : decode cX12_thing 65 = .ok (.invokevirtual 351, 3) := by decide +kernel
theorem dX12_thing_68 : decode cX12_thing 68 = .ok (.goto 36, 3) := by decide +kernel
theorem dX12_thing_71 : decode cX12_thing 71 = .ok (.iload_n 2, 1) := by decide +kernel
theorem dX12_thing_72 : decode cX12_thing 72 = .ok (.bipush 9, 2) := by decide +kernel
theorem dX12_thing_74 : decode cX12_thing 74 = .ok (.if_icmp .ge 22, 3) := by decide +kernel
theorem dX12_thing_77 : decode cX12_thing 77 = .ok (.aload_n 0, 1) := by decide +kernel
theorem dX12_thing_78 : decode cX12_thing 78 = .ok (.iload_n 1, 1) := by decide +kernel
theorem dX12_thing_79 : decode cX12_thing 79 = .ok (.iload_n 2, 1) := by decide +kernel
theorem dX12_thing_80 : decode cX12_thing 80 = .ok (.bipush 8, 2) := by decide +kernel
theorem dX12_thing_82 : decode cX12_thing 82 = .ok (.if_icmp .ne 7, 3) := by decide +kernel
theorem dX12_thing_85 : decode cX12_thing 85 = .ok (.iconst 1, 1) := by decide +kernel
theorem dX12_thing_86 : decode cX12_thing 86 = .ok (.goto 4, 3) := by decide +kernel
theorem dX12_thing_89 : decode cX12_thing 89 = .ok (.iconst 0, 1) := by decide +kernel
theorem dX12_thing_90 : decode cX12_thing 90 = .ok (.invokevirtual 448, 3) := by decide +kernel
theorem dX12_thing_93 : decode cX12_thing 93 = .ok (.goto 11, 3) := by decide +kernel
theorem dX12_thing_96 : decode cX12_thing 96 = .ok (.aload_n 0, 1) := by decide +kernel
theorem dX12_thing_97 : decode cX12_thing 97 = .ok (.iload_n 1, 1) := by decide +kernel
theorem dX12_thing_98 : decode cX12_thing 98 = .ok (.iload_n 2, 1) := by decide +kernel
theorem dX12_thing_99 : decode cX12_thing 99 = .ok (.iconst 2, 1) := by decide +kernel
theorem dX12_thing_100 : decode cX12_thing 100 = .ok (.isub, 1) := by decide +kernel
theorem dX12_thing_101 : decode cX12_thing 101 = .ok (.invokevirtual 310, 3) := by decide +kernel
theorem dX12_thing_104 : decode cX12_thing 104 = .ok (.ireturn, 1) := by decide +kernel
theorem dX12_cell_0 : decode cX12_cell 0 = .ok (.aload_n 0, 1) := by decide +kernel
theorem dX12_cell_1 : decode cX12_cell 1 = .ok (.iload_n 1, 1) := by decide +kernel
theorem dX12_cell_2 : decode cX12_cell 2 = .ok (.iload_n 2, 1) := by decide +kernel
theorem dX12_cell_3 : decode cX12_cell 3 = .ok (.invokevirtual 452, 3) := by decide +kernel
theorem dX12_cell_6 : decode cX12_cell 6 = .ok (.ifCond .eq 15, 3) := by decide +kernel
theorem dX12_cell_9 : decode cX12_cell 9 = .ok (.iload_n 3, 1) := by decide +kernel
theorem dX12_cell_10 : decode cX12_cell 10 = .ok (.i2l, 1) := by decide +kernel
theorem dX12_cell_11 : decode cX12_cell 11 = .ok (.lconst 0, 1) := by decide +kernel
theorem dX12_cell_12 : decode cX12_cell 12 = .ok (.ldc2_w 432, 3) := by decide +kernel
theorem dX12_cell_15 : decode cX12_cell 15 = .ok (.invokestatic 112, 3) := by decide +kernel
theorem dX12_cell_18 : decode cX12_cell 18 = .ok (.ifCond .ne 6, 3) := by decide +kernel
theorem dX12_cell_21 : decode cX12_cell 21 = .ok (.bipush (-2), 2) := by decide +kernel
theorem dX12_cell_23 : decode cX12_cell 23 = .ok (.ireturn, 1) := by decide +kernel
theorem dX12_cell_24 : decode cX12_cell 24 = .ok (.aload_n 0, 1) := by decide +kernel
theorem dX12_cell_25 : decode cX12_cell 25 = .ok (.getfield 48, 3) := by decide +kernel
theorem dX12_cell_28 : decode cX12_cell 28 = .ok (.bipush 8, 2) := by decide +kernel
theorem dX12_cell_30 : decode cX12_cell 30 = .ok (.bipush 40, 2) := by decide +kernel
theorem dX12_cell_32 : decode cX12_cell 32 = .ok (.iload_n 2, 1) := by decide +kernel
theorem dX12_cell_33 : decode cX12_cell 33 = .ok (.imul, 1) := by decide +kernel
theorem dX12_cell_34 : decode cX12_cell 34 = .ok (.iadd, 1) := by decide +kernel
theorem dX12_cell_35 : decode cX12_cell 35 = .ok (.iload_n 1, 1) := by decide +kernel
theorem dX12_cell_36 : decode cX12_cell 36 = .ok (.iadd, 1) := by decide +kernel
theorem dX12_cell_37 : decode cX12_cell 37 = .ok (.iaload, 1) := by decide +kernel
theorem dX12_cell_38 : decode cX12_cell 38 = .ok (.istore 4, 2) := by decide +kernel
theorem dX12_cell_40 : decode cX12_cell 40 = .ok (.iload_n 3, 1) := by decide +kernel
theorem dX12_cell_41 : decode cX12_cell 41 = .ok (.iconst 3, 1) := by decide +kernel
theorem dX12_cell_42 : decode cX12_cell 42 = .ok (.if_icmp .ge 39, 3) := by decide +kernel
theorem dX12_cell_45 : decode cX12_cell 45 = .ok (.iload_n 3, 1) := by decide +kernel
theorem dX12_cell_46 : decode cX12_cell 46 = .ok (.ifCond .ne 12, 3) := by decide +kernel
theorem dX12_cell_49 : decode cX12_cell 49 = .ok (.iload 4, 2) := by decide +kernel
theorem dX12_cell_51 : decode cX12_cell 51 = .ok (.sipush 128, 3) := by decide +kernel
theorem dX12_cell_54 : decode cX12_cell 54 = .ok (.irem, 1) := by decide +kernel
theorem dX12_cell_55 : decode cX12_cell 55 = .ok (.goto 25, 3) := by decide +kernel
theorem dX12_cell_58 : decode cX12_cell 58 = .ok (.iload_n 3, 1) := by decide +kernel
theorem dX12_cell_59 : decode cX12_cell 59 = .ok (.iconst 1, 1) := by decide +kernel
theorem dX12_cell_60 : decode cX12_cell 60 = .ok (.if_icmp .ne 14, 3) := by decide +kernel
theorem dX12_cell_63 : decode cX12_cell 63 = .ok (.iload 4, 2) := by decide +kernel
theorem dX12_cell_65 : decode cX12_cell 65 = .ok (.sipush 128, 3) := by decide +kernel
theorem dX12_cell_68 : decode cX12_cell 68 = .ok (.idiv, 1) := by decide +kernel
theorem dX12_cell_69 : decode cX12_cell 69 = .ok (.iconst 2, 1) := by decide +kernel
theorem dX12_cell_70 : decode cX12_cell 70 = .ok (.irem, 1) := by decide +kernel
theorem dX12_cell_71 : decode cX12_cell 71 = .ok (.goto 9, 3) := by decide +kernel
theorem dX12_cell_74 : decode cX12_cell 74 = .ok (.iload 4, 2) := by decide +kernel
theorem dX12_cell_76 : decode cX12_cell 76 = .ok (.sipush 256, 3) := by decide +kernel
theorem dX12_cell_79 : decode cX12_cell 79 = .ok (.idiv, 1) := by decide +kernel
theorem dX12_cell_80 : decode cX12_cell 80 = .ok (.ireturn, 1) := by decide +kernel
theorem dX12_cell_81 : decode cX12_cell 81 = .ok (.iconst (-1), 1) := by decide +kernel
theorem dX12_cell_82 : decode cX12_cell 82 = .ok (.istore 5, 2) := by decide +kernel
theorem dX12_cell_84 : decode cX12_cell 84 = .ok (.iconst 0, 1) := by decide +kernel
theorem dX12_cell_85 : decode cX12_cell 85 = .ok (.istore 6, 2) := by decide +kernel
theorem dX12_cell_87 : decode cX12_cell 87 = .ok (.iload 6, 2) := by decide +kernel
theorem dX12_cell_89 : decode cX12_cell 89 = .ok (.bipush 30, 2) := by decide +kernel
theorem dX12_cell_91 : decode cX12_cell 91 = .ok (.if_icmp .ge 55, 3) := by decide +kernel
theorem dX12_cell_94 : decode cX12_cell 94 = .ok (.aload_n 0, 1) := by decide +kernel
theorem dX12_cell_95 : decode cX12_cell 95 = .ok (.iload 6, 2) := by decide +kernel
theorem dX12_cell_97 : decode cX12_cell 97 = .ok (.iconst 0, 1) := by decide +kernel
theorem dX12_cell_98 : decode cX12_cell 98 = .ok (.invokevirtual 310, 3) := by decide +kernel
theorem dX12_cell_101 : decode cX12_cell 101 = .ok (.iconst 1, 1) := by decide +kernel
theorem dX12_cell_102 : decode cX12_cell 102 = .ok (.if_icmp .ne 38, 3) := by decide +kernel
theorem dX12_cell_105 : decode cX12_cell 105 = .ok (.aload_n 0, 1) := by decide +kernel
theorem dX12_cell_106 : decode cX12_cell 106 = .ok (.iload 6, 2) := by decide +kernel
theorem dX12_cell_108 : decode cX12_cell 108 = .ok (.iload_n 1, 1) := by decide +kernel
theorem dX12_cell_109 : decode cX12_cell 109 = .ok (.iload_n 2, 1) := by decide +kernel
theorem dX12_cell_110 : decode cX12_cell 110 = .ok (.invokevirtual 347, 3) := by decide +kernel
theorem dX12_cell_113 : decode cX12_cell 113 = .ok (.ifCond .eq 27, 3) := by decide +kernel
theorem dX12_cell_116 : decode cX12_cell 116 = .ok (.iload 5, 2) := by decide +kernel
theorem dX12_cell_118 : decode cX12_cell 118 = .ok (.ifCond .lt 18, 3) := by decide +kernel
theorem dX12_cell_121 : decode cX12_cell 121 = .ok (.aload_n 0, 1) := by decide +kernel
theorem dX12_cell_122 : decode cX12_cell 122 = .ok (.iload 6, 2) := by decide +kernel
theorem dX12_cell_124 : decode cX12_cell 124 = .ok (.invokevirtual 455, 3) := by decide +kernel
theorem dX12_cell_127 : decode cX12_cell 127 = .ok (.aload_n 0, 1) := by decide +kernel
theorem dX12_cell_128 : decode cX12_cell 128 = .ok (.iload 5, 2) := by decide +kernel
theorem dX12_cell_130 : decode cX12_cell 130 = .ok (.invokevirtual 455, 3) := by decide +kernel
theorem dX12_cell_133 : decode cX12_cell 133 = .ok (.if_icmp .ge 7, 3) := by decide +kernel
theorem dX12_cell_136 : decode cX12_cell 136 = .ok (.iload 6, 2) := by decide +kernel
theorem dX12_cell_138 : decode cX12_cell 138 = .ok (.istore 5, 2) := by decide +kernel
theorem dX12_cell_140 : decode cX12_cell 140 = .ok (.iinc 6 1, 3) := by decide +kernel
theorem dX12_cell_143 : decode cX12_cell 143 = .ok (.goto (-56), 3) := by decide +kernel
theorem dX12_cell_146 : decode cX12_cell 146 = .ok (.iload 5, 2) := by decide +kernel
theorem dX12_cell_148 : decode cX12_cell 148 = .ok (.ireturn, 1) := by decide +kernel
theorem dX12_less_0 : decode cX12_less 0 = .ok (.iload_n 0, 1) := by decide +kernel
theorem dX12_less_1 : decode cX12_less 1 = .ok (.iload_n 1, 1) := by decide +kernel
theorem dX12_less_2 : decode cX12_less 2 = .ok (.if_icmp .ge 7, 3) := by decide +kernel
theorem dX12_less_5 : decode cX12_less 5 = .ok (.iload_n 0, 1) := by decide +kernel
theorem dX12_less_6 : decode cX12_less 6 = .ok (.goto 4, 3) := by decide +kernel
theorem dX12_less_9 : decode cX12_less 9 = .ok (.iload_n 1, 1) := by decide +kernel
theorem dX12_less_10 : decode cX12_less 10 = .ok (.ireturn, 1) := by decide +kernel
theorem dX12_bases_0 : decode cX12_bases 0 = .ok (.aload_n 0, 1) := by decide +kernel
theorem dX12_bases_1 : decode cX12_bases 1 = .ok (.aload_n 0, 1) := by decide +kernel
theorem dX12_bases_2 : decode cX12_bases 2 = .ok (.iload_n 1, 1) := by decide +kernel
theorem dX12_bases_3 : decode cX12_bases 3 = .ok (.iconst 1, 1) := by decide +kernel
theorem dX12_bases_4 : decode cX12_bases 4 = .ok (.invokevirtual 310, 3) := by decide +kernel
theorem dX12_bases_7 : decode cX12_bases 7 = .ok (.putfield 458, 3) := by decide +kernel
theorem dX12_bases_10 : decode cX12_bases 10 = .ok (.aload_n 0, 1) := by decide +kernel
theorem dX12_bases_11 : decode cX12_bases 11 = .ok (.aload_n 0, 1) := by decide +kernel
theorem dX12_bases_12 : decode cX12_bases 12 = .ok (.iload_n 1, 1) := by decide +kernel
theorem dX12_bases_13 : decode cX12_bases 13 = .ok (.iconst 2, 1) := by decide +kernel
theorem dX12_bases_14 : decode cX12_bases 14 = .ok (.invokevirtual 310, 3) := by decide +kernel
theorem dX12_bases_17 : decode cX12_bases 17 = .ok (.putfield 461, 3) := by decide +kernel
theorem dX12_bases_20 : decode cX12_bases 20 = .ok (.aload_n 0, 1) := by decide +kernel
theorem dX12_bases_21 : decode cX12_bases 21 = .ok (.aload_n 0, 1) := by decide +kernel
theorem dX12_bases_22 : decode cX12_bases 22 = .ok (.iload_n 1, 1) := by decide +kernel
theorem dX12_bases_23 : decode cX12_bases 23 = .ok (.iconst 3, 1) := by decide +kernel
theorem dX12_bases_24 : decode cX12_bases 24 = .ok (.invokevirtual 310, 3) := by decide +kernel
theorem dX12_bases_27 : decode cX12_bases 27 = .ok (.putfield 464, 3) := by decide +kernel
theorem dX12_bases_30 : decode cX12_bases 30 = .ok (.aload_n 0, 1) := by decide +kernel
theorem dX12_bases_31 : decode cX12_bases 31 = .ok (.aload_n 0, 1) := by decide +kernel
theorem dX12_bases_32 : decode cX12_bases 32 = .ok (.iload_n 1, 1) := by decide +kernel
theorem dX12_bases_33 : decode cX12_bases 33 = .ok (.iconst 4, 1) := by decide +kernel
theorem dX12_bases_34 : decode cX12_bases 34 = .ok (.invokevirtual 310, 3) := by decide +kernel
theorem dX12_bases_37 : decode cX12_bases 37 = .ok (.putfield 467, 3) := by decide +kernel
theorem dX12_bases_40 : decode cX12_bases 40 = .ok (.iload_n 2, 1) := by decide +kernel
theorem dX12_bases_41 : decode cX12_bases 41 = .ok (.iconst (-1), 1) := by decide +kernel
theorem dX12_bases_42 : decode cX12_bases 42 = .ok (.if_icmp .ne 4, 3) := by decide +kernel
theorem dX12_bases_45 : decode cX12_bases 45 = .ok (.return_, 1) := by decide +kernel
theorem dX12_bases_46 : decode cX12_bases 46 = .ok (.aload_n 0, 1) := by decide +kernel
theorem dX12_bases_47 : decode cX12_bases 47 = .ok (.aload_n 0, 1) := by decide +kernel
theorem dX12_bases_48 : decode cX12_bases 48 = .ok (.getfield 458, 3) := by decide +kernel
theorem dX12_bases_51 : decode cX12_bases 51 = .ok (.aload_n 0, 1) := by decide +kernel
theorem dX12_bases_52 : decode cX12_bases 52 = .ok (.iload_n 2, 1) := by decide +kernel
theorem dX12_bases_53 : decode cX12_bases 53 = .ok (.iconst 1, 1) := by decide +kernel
theorem dX12_bases_54 : decode cX12_bases 54 = .ok (.invokevirtual 310, 3) := by decide +kernel
theorem dX12_bases_57 : decode cX12_bases 57 = .ok (.invokestatic 470, 3) := by decide +kernel
theorem dX12_bases_60 : decode cX12_bases 60 = .ok (.putfield 458, 3) := by decide +kernel
theorem dX12_bases_63 : decode cX12_bases 63 = .ok (.aload_n 0, 1) := by decide +kernel
theorem dX12_bases_64 : decode cX12_bases 64 = .ok (.aload_n 0, 1) := by decide +kernel
theorem dX12_bases_65 : decode cX12_bases 65 = .ok (.getfield 461, 3) := by decide +kernel
theorem dX12_bases_68 : decode cX12_bases 68 = .ok (.aload_n 0, 1) := by decide +kernel
theorem dX12_bases_69 : decode cX12_bases 69 = .ok (.iload_n 2, 1) := by decide +kernel
theorem dX12_bases_70 : decode cX12_bases 70 = .ok (.iconst 2, 1) := by decide +kernel
theorem dX12_bases_71 : decode cX12_bases 71 = .ok (.invokevirtual 310, 3) := by decide +kernel
theorem dX12_bases_74 : decode cX12_bases 74 = .ok (.invokestatic 470, 3) := by decide +kernel
theorem dX12_bases_77 : decode cX12_bases 77 = .ok (.putfield 461, 3) := by decide +kernel
theorem dX12_bases_80 : decode cX12_bases 80 = .ok (.aload_n 0, 1) := by decide +kernel
theorem dX12_bases_81 : decode cX12_bases 81 = .ok (.aload_n 0, 1) := by decide +kernel
theorem dX12_bases_82 : decode cX12_bases 82 = .ok (.getfield 464, 3) := by decide +kernel
theorem dX12_bases_85 : decode cX12_bases 85 = .ok (.aload_n 0, 1) := by decide +kernel
theorem dX12_bases_86 : decode cX12_bases 86 = .ok (.iload_n 2, 1) := by decide +kernel
theorem dX12_bases_87 : decode cX12_bases 87 = .ok (.iconst 3, 1) := by decide +kernel
theorem dX12_bases_88 : decode cX12_bases 88 = .ok (.invokevirtual 310, 3) := by decide +kernel
theorem dX12_bases_91 : decode cX12_bases 91 = .ok (.invokestatic 473, 3) := by decide +kernel
theorem dX12_bases_94 : decode cX12_bases 94 = .ok (.putfield 464, 3) := by decide +kernel
theorem dX12_bases_97 : decode cX12_bases 97 = .ok (.aload_n 0, 1) := by decide +kernel
theorem dX12_bases_98 : decode cX12_bases 98 = .ok (.aload_n 0, 1) := by decide +kernel
theorem dX12_bases_99 : decode cX12_bases 99 = .ok (.getfield 467, 3) := by decide +kernel
theorem dX12_bases_102 : decode cX12_bases 102 = .ok (.aload_n 0, 1) := by decide +kernel
theorem dX12_bases_103 : decode cX12_bases 103 = .ok (.iload_n 2, 1) := by decide +kernel
theorem dX12_bases_104 : decode cX12_bases 104 = .ok (.iconst 4, 1) := by decide +kernel
theorem dX12_bases_105 : decode cX12_bases 105 = .ok (.invokevirtual 310, 3) := by decide +kernel
theorem dX12_bases_108 : decode cX12_bases 108 = .ok (.invokestatic 473, 3) := by decide +kernel
theorem dX12_bases_111 : decode cX12_bases 111 = .ok (.putfield 467, 3) := by decide +kernel
theorem dX12_bases_114 : decode cX12_bases 114 = .ok (.return_, 1) := by decide +kernel
theorem dX12_thinksBy_0 : decode cX12_thinksBy 0 = .ok (.aload_n 0, 1) := by decide +kernel
theorem dX12_thinksBy_1 : decode cX12_thinksBy 1 = .ok (.aload_n 0, 1) := by decide +kernel
theorem dX12_thinksBy_2 : decode cX12_thinksBy 2 = .ok (.getfield 458, 3) := by decide +kernel
theorem dX12_thinksBy_5 : decode cX12_thinksBy 5 = .ok (.aload_n 0, 1) := by decide +kernel
theorem dX12_thinksBy_6 : decode cX12_thinksBy 6 = .ok (.iload_n 1, 1) := by decide +kernel
theorem dX12_thinksBy_7 : decode cX12_thinksBy 7 = .ok (.iload_n 2, 1) := by decide +kernel
theorem dX12_thinksBy_8 : decode cX12_thinksBy 8 = .ok (.iconst 0, 1) := by decide +kernel
theorem dX12_thinksBy_9 : decode cX12_thinksBy 9 = .ok (.invokevirtual 476, 3) := by decide +kernel
theorem dX12_thinksBy_12 : decode cX12_thinksBy 12 = .ok (.isub, 1) := by decide +kernel
theorem dX12_thinksBy_13 : decode cX12_thinksBy 13 = .ok (.aload_n 0, 1) := by decide +kernel
theorem dX12_thinksBy_14 : decode cX12_thinksBy 14 = .ok (.getfield 461, 3) := by decide +kernel
theorem dX12_thinksBy_17 : decode cX12_thinksBy 17 = .ok (.aload_n 0, 1) := by decide +kernel
theorem dX12_thinksBy_18 : decode cX12_thinksBy 18 = .ok (.iload_n 1, 1) := by decide +kernel
theorem dX12_thinksBy_19 : decode cX12_thinksBy 19 = .ok (.iload_n 2, 1) := by decide +kernel
theorem dX12_thinksBy_20 : decode cX12_thinksBy 20 = .ok (.iconst 1, 1) := by decide +kernel
theorem dX12_thinksBy_21 : decode cX12_thinksBy 21 = .ok (.invokevirtual 476, 3) := by decide +kernel
theorem dX12_thinksBy_24 : decode cX12_thinksBy 24 = .ok (.isub, 1) := by decide +kernel
theorem dX12_thinksBy_25 : decode cX12_thinksBy 25 = .ok (.aload_n 0, 1) := by decide +kernel
theorem dX12_thinksBy_26 : decode cX12_thinksBy 26 = .ok (.getfield 464, 3) := by decide +kernel
theorem dX12_thinksBy_29 : decode cX12_thinksBy 29 = .ok (.aload_n 0, 1) := by decide +kernel
theorem dX12_thinksBy_30 : decode cX12_thinksBy 30 = .ok (.iload_n 1, 1) := by decide +kernel
theorem dX12_thinksBy_31 : decode cX12_thinksBy 31 = .ok (.iload_n 2, 1) := by decide +kernel
theorem dX12_thinksBy_32 : decode cX12_thinksBy 32 = .ok (.iconst 2, 1) := by decide +kernel
theorem dX12_thinksBy_33 : decode cX12_thinksBy 33 = .ok (.invokevirtual 476, 3) := by decide +kernel
theorem dX12_thinksBy_36 : decode cX12_thinksBy 36 = .ok (.iadd, 1) := by decide +kernel
theorem dX12_thinksBy_37 : decode cX12_thinksBy 37 = .ok (.aload_n 0, 1) := by decide +kernel
theorem dX12_thinksBy_38 : decode cX12_thinksBy 38 = .ok (.getfield 467, 3) := by decide +kernel
theorem dX12_thinksBy_41 : decode cX12_thinksBy 41 = .ok (.aload_n 0, 1) := by decide +kernel
theorem dX12_thinksBy_42 : decode cX12_thinksBy 42 = .ok (.iload_n 1, 1) := by decide +kernel
theorem dX12_thinksBy_43 : decode cX12_thinksBy 43 = .ok (.iload_n 2, 1) := by decide +kernel
theorem dX12_thinksBy_44 : decode cX12_thinksBy 44 = .ok (.iconst 3, 1) := by decide +kernel
theorem dX12_thinksBy_45 : decode cX12_thinksBy 45 = .ok (.invokevirtual 476, 3) := by decide +kernel
theorem dX12_thinksBy_48 : decode cX12_thinksBy 48 = .ok (.iadd, 1) := by decide +kernel
theorem dX12_thinksBy_49 : decode cX12_thinksBy 49 = .ok (.iload_n 3, 1) := by decide +kernel
theorem dX12_thinksBy_50 : decode cX12_thinksBy 50 = .ok (.iload 4, 2) := by decide +kernel
theorem dX12_thinksBy_52 : decode cX12_thinksBy 52 = .ok (.invokevirtual 408, 3) := by decide +kernel
theorem dX12_thinksBy_55 : decode cX12_thinksBy 55 = .ok (.return_, 1) := by decide +kernel
theorem dX12_bestBy_0 : decode cX12_bestBy 0 = .ok (.aload_n 0, 1) := by decide +kernel
theorem dX12_bestBy_1 : decode cX12_bestBy 1 = .ok (.iload 4, 2) := by decide +kernel
theorem dX12_bestBy_3 : decode cX12_bestBy 3 = .ok (.iload 5, 2) := by decide +kernel
theorem dX12_bestBy_5 : decode cX12_bestBy 5 = .ok (.invokevirtual 480, 3) := by decide +kernel
theorem dX12_bestBy_8 : decode cX12_bestBy 8 = .ok (.iconst (-1), 1) := by decide +kernel
theorem dX12_bestBy_9 : decode cX12_bestBy 9 = .ok (.istore 7, 2) := by decide +kernel
theorem dX12_bestBy_11 : decode cX12_bestBy 11 = .ok (.iconst 0, 1) := by decide +kernel
theorem dX12_bestBy_12 : decode cX12_bestBy 12 = .ok (.istore 8, 2) := by decide +kernel
theorem dX12_bestBy_14 : decode cX12_bestBy 14 = .ok (.aload_n 0, 1) := by decide +kernel
theorem dX12_bestBy_15 : decode cX12_bestBy 15 = .ok (.iconst 0, 1) := by decide +kernel
theorem dX12_bestBy_16 : decode cX12_bestBy 16 = .ok (.putfield 483, 3) := by decide +kernel
theorem dX12_bestBy_19 : decode cX12_bestBy 19 = .ok (.iconst 0, 1) := by decide +kernel
theorem dX12_bestBy_20 : decode cX12_bestBy 20 = .ok (.istore 9, 2) := by decide +kernel
theorem dX12_bestBy_22 : decode cX12_bestBy 22 = .ok (.iload 9, 2) := by decide +kernel
theorem dX12_bestBy_24 : decode cX12_bestBy 24 = .ok (.iload 6, 2) := by decide +kernel
theorem dX12_bestBy_26 : decode cX12_bestBy 26 = .ok (.iload 6, 2) := by decide +kernel
theorem dX12_bestBy_28 : decode cX12_bestBy 28 = .ok (.imul, 1) := by decide +kernel
theorem dX12_bestBy_29 : decode cX12_bestBy 29 = .ok (.iload 6, 2) := by decide +kernel
theorem dX12_bestBy_31 : decode cX12_bestBy 31 = .ok (.imul, 1) := by decide +kernel
theorem dX12_bestBy_32 : decode cX12_bestBy 32 = .ok (.iload 6, 2) := by decide +kernel
theorem dX12_bestBy_34 : decode cX12_bestBy 34 = .ok (.imul, 1) := by decide +kernel
theorem dX12_bestBy_35 : decode cX12_bestBy 35 = .ok (.if_icmp .ge 104, 3) := by decide +kernel
theorem dX12_bestBy_38 : decode cX12_bestBy 38 = .ok (.aload_n 0, 1) := by decide +kernel
theorem dX12_bestBy_39 : decode cX12_bestBy 39 = .ok (.iload 9, 2) := by decide +kernel
theorem dX12_bestBy_41 : decode cX12_bestBy 41 = .ok (.iload 6, 2) := by decide +kernel
theorem dX12_bestBy_43 : decode cX12_bestBy 43 = .ok (.iload 4, 2) := by decide +kernel
theorem dX12_bestBy_45 : decode cX12_bestBy 45 = .ok (.iload 5, 2) := by decide +kernel
theorem dX12_bestBy_47 : decode cX12_bestBy 47 = .ok (.invokevirtual 486, 3) := by decide +kernel
theorem dX12_bestBy_50 : decode cX12_bestBy 50 = .ok (.aload_n 0, 1) := by decide +kernel
theorem dX12_bestBy_51 : decode cX12_bestBy 51 = .ok (.iload_n 1, 1) := by decide +kernel
theorem dX12_bestBy_52 : decode cX12_bestBy 52 = .ok (.iload_n 3, 1) := by decide +kernel
theorem dX12_bestBy_53 : decode cX12_bestBy 53 = .ok (.invokevirtual 411, 3) := by decide +kernel
theorem dX12_bestBy_56 : decode cX12_bestBy 56 = .ok (.ifCond .ne 6, 3) := by decide +kernel
theorem dX12_bestBy_59 : decode cX12_bestBy 59 = .ok (.goto 74, 3) := by decide +kernel
theorem dX12_bestBy_62 : decode cX12_bestBy 62 = .ok (.aload_n 0, 1) := by decide +kernel
theorem dX12_bestBy_63 : decode cX12_bestBy 63 = .ok (.dup, 1) := by decide +kernel
theorem dX12_bestBy_64 : decode cX12_bestBy 64 = .ok (.getfield 483, 3) := by decide +kernel
theorem dX12_bestBy_67 : decode cX12_bestBy 67 = .ok (.iconst 1, 1) := by decide +kernel
theorem dX12_bestBy_68 : decode cX12_bestBy 68 = .ok (.iadd, 1) := by decide +kernel
theorem dX12_bestBy_69 : decode cX12_bestBy 69 = .ok (.putfield 483, 3) := by decide +kernel
theorem dX12_bestBy_72 : decode cX12_bestBy 72 = .ok (.aload_n 0, 1) := by decide +kernel
theorem dX12_bestBy_73 : decode cX12_bestBy 73 = .ok (.iload_n 2, 1) := by decide +kernel
theorem dX12_bestBy_74 : decode cX12_bestBy 74 = .ok (.iload_n 3, 1) := by decide +kernel
theorem dX12_bestBy_75 : decode cX12_bestBy 75 = .ok (.invokevirtual 420, 3) := by decide +kernel
theorem dX12_bestBy_78 : decode cX12_bestBy 78 = .ok (.lstore 10, 2) := by decide +kernel
theorem dX12_bestBy_80 : decode cX12_bestBy 80 = .ok (.iload 7, 2) := by decide +kernel
theorem dX12_bestBy_82 : decode cX12_bestBy 82 = .ok (.ifCond .lt 35, 3) := by decide +kernel
theorem dX12_bestBy_85 : decode cX12_bestBy 85 = .ok (.lload 10, 2) := by decide +kernel
theorem dX12_bestBy_87 : decode cX12_bestBy 87 = .ok (.aload_n 0, 1) := by decide +kernel
theorem dX12_bestBy_88 : decode cX12_bestBy 88 = .ok (.getfield 489, 3) := by decide +kernel
theorem dX12_bestBy_91 : decode cX12_bestBy 91 = .ok (.lcmp, 1) := by decide +kernel
theorem dX12_bestBy_92 : decode cX12_bestBy 92 = .ok (.ifCond .lt 41, 3) := by decide +kernel
theorem dX12_bestBy_95 : decode cX12_bestBy 95 = .ok (.lload 10, 2) := by decide +kernel
theorem dX12_bestBy_97 : decode cX12_bestBy 97 = .ok (.aload_n 0, 1) := by decide +kernel
theorem dX12_bestBy_98 : decode cX12_bestBy 98 = .ok (.getfield 489, 3) := by decide +kernel
theorem dX12_bestBy_101 : decode cX12_bestBy 101 = .ok (.lcmp, 1) := by decide +kernel
theorem dX12_bestBy_102 : decode cX12_bestBy 102 = .ok (.ifCond .ne 15, 3) := by decide +kernel
theorem dX12_bestBy_105 : decode cX12_bestBy 105 = .ok (.aload_n 0, 1) := by decide +kernel
theorem dX12_bestBy_106 : decode cX12_bestBy 106 = .ok (.invokevirtual 493, 3) := by decide +kernel
theorem dX12_bestBy_109 : decode cX12_bestBy 109 = .ok (.iload 8, 2) := by decide +kernel
theorem dX12_bestBy_111 : decode cX12_bestBy 111 = .ok (.if_icmp .lt 6, 3) := by decide +kernel
theorem dX12_bestBy_114 : decode cX12_bestBy 114 = .ok (.goto 19, 3) := by decide +kernel
theorem dX12_bestBy_117 : decode cX12_bestBy 117 = .ok (.iload 9, 2) := by decide +kernel
theorem dX12_bestBy_119 : decode cX12_bestBy 119 = .ok (.istore 7, 2) := by decide +kernel
theorem dX12_bestBy_121 : decode cX12_bestBy 121 = .ok (.aload_n 0, 1) := by decide +kernel
theorem dX12_bestBy_122 : decode cX12_bestBy 122 = .ok (.lload 10, 2) := by decide +kernel
theorem dX12_bestBy_124 : decode cX12_bestBy 124 = .ok (.putfield 489, 3) := by decide +kernel
theorem dX12_bestBy_127 : decode cX12_bestBy 127 = .ok (.aload_n 0, 1) := by decide +kernel
theorem dX12_bestBy_128 : decode cX12_bestBy 128 = .ok (.invokevirtual 493, 3) := by decide +kernel
theorem dX12_bestBy_131 : decode cX12_bestBy 131 = .ok (.istore 8, 2) := by decide +kernel
theorem dX12_bestBy_133 : decode cX12_bestBy 133 = .ok (.iinc 9 1, 3) := by decide +kernel
theorem dX12_bestBy_136 : decode cX12_bestBy 136 = .ok (.goto (-114), 3) := by decide +kernel
theorem dX12_bestBy_139 : decode cX12_bestBy 139 = .ok (.iload 7, 2) := by decide +kernel
theorem dX12_bestBy_141 : decode cX12_bestBy 141 = .ok (.ireturn, 1) := by decide +kernel
theorem dX12_ahead_0 : decode cX12_ahead 0 = .ok (.aload_n 0, 1) := by decide +kernel
theorem dX12_ahead_1 : decode cX12_ahead 1 = .ok (.iconst 0, 1) := by decide +kernel
theorem dX12_ahead_2 : decode cX12_ahead 2 = .ok (.iload_n 1, 1) := by decide +kernel
theorem dX12_ahead_3 : decode cX12_ahead 3 = .ok (.invokevirtual 402, 3) := by decide +kernel
theorem dX12_ahead_6 : decode cX12_ahead 6 = .ok (.ifCond .eq 63, 3) := by decide +kernel
theorem dX12_ahead_9 : decode cX12_ahead 9 = .ok (.aload_n 0, 1) := by decide +kernel
theorem dX12_ahead_10 : decode cX12_ahead 10 = .ok (.iconst 1, 1) := by decide +kernel
theorem dX12_ahead_11 : decode cX12_ahead 11 = .ok (.iload_n 2, 1) := by decide +kernel
theorem dX12_ahead_12 : decode cX12_ahead 12 = .ok (.invokevirtual 402, 3) := by decide +kernel
theorem dX12_ahead_15 : decode cX12_ahead 15 = .ok (.ifCond .eq 54, 3) := by decide +kernel
theorem dX12_ahead_18 : decode cX12_ahead 18 = .ok (.aload_n 0, 1) := by decide +kernel
theorem dX12_ahead_19 : decode cX12_ahead 19 = .ok (.iload_n 3, 1) := by decide +kernel
theorem dX12_ahead_20 : decode cX12_ahead 20 = .ok (.iload 5, 2) := by decide +kernel
theorem dX12_ahead_22 : decode cX12_ahead 22 = .ok (.iconst (-1), 1) := by decide +kernel
theorem dX12_ahead_23 : decode cX12_ahead 23 = .ok (.invokevirtual 405, 3) := by decide +kernel
theorem dX12_ahead_26 : decode cX12_ahead 26 = .ok (.ifCond .eq 43, 3) := by decide +kernel
theorem dX12_ahead_29 : decode cX12_ahead 29 = .ok (.iload 4, 2) := by decide +kernel
theorem dX12_ahead_31 : decode cX12_ahead 31 = .ok (.invokestatic 395, 3) := by decide +kernel
theorem dX12_ahead_34 : decode cX12_ahead 34 = .ok (.ifCond .eq 35, 3) := by decide +kernel
theorem dX12_ahead_37 : decode cX12_ahead 37 = .ok (.iload 4, 2) := by decide +kernel
theorem dX12_ahead_39 : decode cX12_ahead 39 = .ok (.iload_n 3, 1) := by decide +kernel
theorem dX12_ahead_40 : decode cX12_ahead 40 = .ok (.if_icmp .eq 29, 3) := by decide +kernel
theorem dX12_ahead_43 : decode cX12_ahead 43 = .ok (.iload 6, 2) := by decide +kernel
theorem dX12_ahead_45 : decode cX12_ahead 45 = .ok (.i2l, 1) := by decide +kernel
theorem dX12_ahead_46 : decode cX12_ahead 46 = .ok (.lconst 1, 1) := by decide +kernel
theorem dX12_ahead_47 : decode cX12_ahead 47 = .ok (.ldc2_w 345, 3) := by decide +kernel
theorem dX12_ahead_50 : decode cX12_ahead 50 = .ok (.invokestatic 112, 3) := by decide +kernel
theorem dX12_ahead_53 : decode cX12_ahead 53 = .ok (.ifCond .eq 16, 3) := by decide +kernel
theorem dX12_ahead_56 : decode cX12_ahead 56 = .ok (.iload 7, 2) := by decide +kernel
theorem dX12_ahead_58 : decode cX12_ahead 58 = .ok (.i2l, 1) := by decide +kernel
theorem dX12_ahead_59 : decode cX12_ahead 59 = .ok (.lconst 0, 1) := by decide +kernel
theorem dX12_ahead_60 : decode cX12_ahead 60 = .ok (.ldc2_w 432, 3) := by decide +kernel
theorem dX12_ahead_63 : decode cX12_ahead 63 = .ok (.invokestatic 112, 3) := by decide +kernel
theorem dX12_ahead_66 : decode cX12_ahead 66 = .ok (.ifCond .ne 5, 3) := by decide +kernel
theorem dX12_ahead_69 : decode cX12_ahead 69 = .ok (.iconst (-1), 1) := by decide +kernel
theorem dX12_ahead_70 : decode cX12_ahead 70 = .ok (.ireturn, 1) := by decide +kernel
theorem dX12_ahead_71 : decode cX12_ahead 71 = .ok (.iconst (-1), 1) := by decide +kernel
theorem dX12_ahead_72 : decode cX12_ahead 72 = .ok (.istore 8, 2) := by decide +kernel
theorem dX12_ahead_74 : decode cX12_ahead 74 = .ok (.iconst 0, 1) := by decide +kernel
theorem dX12_ahead_75 : decode cX12_ahead 75 = .ok (.istore 9, 2) := by decide +kernel
theorem dX12_ahead_77 : decode cX12_ahead 77 = .ok (.lconst 0, 1) := by decide +kernel
theorem dX12_ahead_78 : decode cX12_ahead 78 = .ok (.lstore 10, 2) := by decide +kernel
theorem dX12_ahead_80 : decode cX12_ahead 80 = .ok (.iconst 0, 1) := by decide +kernel
theorem dX12_ahead_81 : decode cX12_ahead 81 = .ok (.istore 12, 2) := by decide +kernel
theorem dX12_ahead_83 : decode cX12_ahead 83 = .ok (.iload 12, 2) := by decide +kernel
theorem dX12_ahead_85 : decode cX12_ahead 85 = .ok (.iload 6, 2) := by decide +kernel
theorem dX12_ahead_87 : decode cX12_ahead 87 = .ok (.iload 6, 2) := by decide +kernel
theorem dX12_ahead_89 : decode cX12_ahead 89 = .ok (.imul, 1) := by decide +kernel
theorem dX12_ahead_90 : decode cX12_ahead 90 = .ok (.iload 6, 2) := by decide +kernel
theorem dX12_ahead_92 : decode cX12_ahead 92 = .ok (.imul, 1) := by decide +kernel
theorem dX12_ahead_93 : decode cX12_ahead 93 = .ok (.iload 6, 2) := by decide +kernel
theorem dX12_ahead_95 : decode cX12_ahead 95 = .ok (.imul, 1) := by decide +kernel
theorem dX12_ahead_96 : decode cX12_ahead 96 = .ok (.if_icmp .ge 143, 3) := by decide +kernel
theorem dX12_ahead_99 : decode cX12_ahead 99 = .ok (.aload_n 0, 1) := by decide +kernel
theorem dX12_ahead_100 : decode cX12_ahead 100 = .ok (.iload 5, 2) := by decide +kernel
theorem dX12_ahead_102 : decode cX12_ahead 102 = .ok (.iconst (-1), 1) := by decide +kernel
theorem dX12_ahead_103 : decode cX12_ahead 103 = .ok (.invokevirtual 480, 3) := by decide +kernel
theorem dX12_ahead_106 : decode cX12_ahead 106 = .ok (.aload_n 0, 1) := by decide +kernel
theorem dX12_ahead_107 : decode cX12_ahead 107 = .ok (.iload 12, 2) := by decide +kernel
theorem dX12_ahead_109 : decode cX12_ahead 109 = .ok (.iload 6, 2) := by decide +kernel
theorem dX12_ahead_111 : decode cX12_ahead 111 = .ok (.iload 5, 2) := by decide +kernel
theorem dX12_ahead_113 : decode cX12_ahead 113 = .ok (.iconst (-1), 1) := by decide +kernel
theorem dX12_ahead_114 : decode cX12_ahead 114 = .ok (.invokevirtual 486, 3) := by decide +kernel
theorem dX12_ahead_117 : decode cX12_ahead 117 = .ok (.aload_n 0, 1) := by decide +kernel
theorem dX12_ahead_118 : decode cX12_ahead 118 = .ok (.iload_n 1, 1) := by decide +kernel
theorem dX12_ahead_119 : decode cX12_ahead 119 = .ok (.iload_n 3, 1) := by decide +kernel
theorem dX12_ahead_120 : decode cX12_ahead 120 = .ok (.invokevirtual 411, 3) := by decide +kernel
theorem dX12_ahead_123 : decode cX12_ahead 123 = .ok (.ifCond .ne 6, 3) := by decide +kernel
theorem dX12_ahead_126 : decode cX12_ahead 126 = .ok (.goto 107, 3) := by decide +kernel
theorem dX12_ahead_129 : decode cX12_ahead 129 = .ok (.aload_n 0, 1) := by decide +kernel
theorem dX12_ahead_130 : decode cX12_ahead 130 = .ok (.invokevirtual 493, 3) := by decide +kernel
theorem dX12_ahead_133 : decode cX12_ahead 133 = .ok (.istore 13, 2) := by decide +kernel
theorem dX12_ahead_135 : decode cX12_ahead 135 = .ok (.aload_n 0, 1) := by decide +kernel
theorem dX12_ahead_136 : decode cX12_ahead 136 = .ok (.iload_n 2, 1) := by decide +kernel
theorem dX12_ahead_137 : decode cX12_ahead 137 = .ok (.iload_n 3, 1) := by decide +kernel
theorem dX12_ahead_138 : decode cX12_ahead 138 = .ok (.invokevirtual 420, 3) := by decide +kernel
theorem dX12_ahead_141 : decode cX12_ahead 141 = .ok (.lstore 14, 2) := by decide +kernel
theorem dX12_ahead_143 : decode cX12_ahead 143 = .ok (.aload_n 0, 1) := by decide +kernel
theorem dX12_ahead_144 : decode cX12_ahead 144 = .ok (.bipush 30, 2) := by decide +kernel
theorem dX12_ahead_146 : decode cX12_ahead 146 = .ok (.iload_n 3, 1) := by decide +kernel
theorem dX12_ahead_147 : decode cX12_ahead 147 = .ok (.invokevirtual 417, 3) := by decide +kernel
theorem dX12_ahead_150 : decode cX12_ahead 150 = .ok (.aload_n 0, 1) := by decide +kernel
theorem dX12_ahead_151 : decode cX12_ahead 151 = .ok (.iload_n 1, 1) := by decide +kernel
theorem dX12_ahead_152 : decode cX12_ahead 152 = .ok (.iload_n 2, 1) := by decide +kernel
theorem dX12_ahead_153 : decode cX12_ahead 153 = .ok (.iload 4, 2) := by decide +kernel
theorem dX12_ahead_155 : decode cX12_ahead 155 = .ok (.bipush 30, 2) := by decide +kernel
theorem dX12_ahead_157 : decode cX12_ahead 157 = .ok (.iconst (-1), 1) := by decide +kernel
theorem dX12_ahead_158 : decode cX12_ahead 158 = .ok (.iload 6, 2) := by decide +kernel
theorem dX12_ahead_160 : decode cX12_ahead 160 = .ok (.invokevirtual 498, 3) := by decide +kernel
theorem dX12_ahead_163 : decode cX12_ahead 163 = .ok (.ifCond .lt 21, 3) := by decide +kernel
theorem dX12_ahead_166 : decode cX12_ahead 166 = .ok (.aload_n 0, 1) := by decide +kernel
theorem dX12_ahead_167 : decode cX12_ahead 167 = .ok (.getfield 489, 3) := by decide +kernel
theorem dX12_ahead_170 : decode cX12_ahead 170 = .ok (.lconst 0, 1) := by decide +kernel
theorem dX12_ahead_171 : decode cX12_ahead 171 = .ok (.lcmp, 1) := by decide +kernel
theorem dX12_ahead_172 : decode cX12_ahead 172 = .ok (.ifCond .le 12, 3) := by decide +kernel
theorem dX12_ahead_175 : decode cX12_ahead 175 = .ok (.lload 14, 2) := by decide +kernel
theorem dX12_ahead_177 : decode cX12_ahead 177 = .ok (.aload_n 0, 1) := by decide +kernel
theorem dX12_ahead_178 : decode cX12_ahead 178 = .ok (.getfield 489, 3) := by decide +kernel
theorem dX12_ahead_181 : decode cX12_ahead 181 = .ok (.lsub, 1) := by decide +kernel
theorem dX12_ahead_182 : decode cX12_ahead 182 = .ok (.lstore 14, 2) := by decide +kernel
theorem dX12_ahead_184 : decode cX12_ahead 184 = .ok (.aload_n 0, 1) := by decide +kernel
theorem dX12_ahead_185 : decode cX12_ahead 185 = .ok (.bipush 30, 2) := by decide +kernel
theorem dX12_ahead_187 : decode cX12_ahead 187 = .ok (.invokevirtual 426, 3) := by decide +kernel
theorem dX12_ahead_190 : decode cX12_ahead 190 = .ok (.iload 8, 2) := by decide +kernel
theorem dX12_ahead_192 : decode cX12_ahead 192 = .ok (.ifCond .lt 29, 3) := by decide +kernel
theorem dX12_ahead_195 : decode cX12_ahead 195 = .ok (.lload 14, 2) := by decide +kernel
theorem dX12_ahead_197 : decode cX12_ahead 197 = .ok (.lload 10, 2) := by decide +kernel
theorem dX12_ahead_199 : decode cX12_ahead 199 = .ok (.lcmp, 1) := by decide +kernel
theorem dX12_ahead_200 : decode cX12_ahead 200 = .ok (.ifCond .lt 33, 3) := by decide +kernel
theorem dX12_ahead_203 : decode cX12_ahead 203 = .ok (.lload 14, 2) := by decide +kernel
theorem dX12_ahead_205 : decode cX12_ahead 205 = .ok (.lload 10, 2) := by decide +kernel
theorem dX12_ahead_207 : decode cX12_ahead 207 = .ok (.lcmp, 1) := by decide +kernel
theorem dX12_ahead_208 : decode cX12_ahead 208 = .ok (.ifCond .ne 13, 3) := by decide +kernel
theorem dX12_ahead_211 : decode cX12_ahead 211 = .ok (.iload 13, 2) := by decide +kernel
theorem dX12_ahead_213 : decode cX12_ahead 213 = .ok (.iload 9, 2) := by decide +kernel
theorem dX12_ahead_215 : decode cX12_ahead 215 = .ok (.if_icmp .lt 6, 3) := by decide +kernel
theorem dX12_ahead_218 : decode cX12_ahead 218 = .ok (.goto 15, 3) := by decide +kernel
theorem dX12_ahead_221 : decode cX12_ahead 221 = .ok (.iload 12, 2) := by decide +kernel
theorem dX12_ahead_223 : decode cX12_ahead 223 = .ok (.istore 8, 2) := by decide +kernel
theorem dX12_ahead_225 : decode cX12_ahead 225 = .ok (.lload 14, 2) := by decide +kernel
theorem dX12_ahead_227 : decode cX12_ahead 227 = .ok (.lstore 10, 2) := by decide +kernel
theorem dX12_ahead_229 : decode cX12_ahead 229 = .ok (.iload 13, 2) := by decide +kernel
theorem dX12_ahead_231 : decode cX12_ahead 231 = .ok (.istore 9, 2) := by decide +kernel
theorem dX12_ahead_233 : decode cX12_ahead 233 = .ok (.iinc 12 1, 3) := by decide +kernel
theorem dX12_ahead_236 : decode cX12_ahead 236 = .ok (.goto (-153), 3) := by decide +kernel
theorem dX12_ahead_239 : decode cX12_ahead 239 = .ok (.iload 8, 2) := by decide +kernel
theorem dX12_ahead_241 : decode cX12_ahead 241 = .ok (.ifCond .ge 8, 3) := by decide +kernel
theorem dX12_ahead_244 : decode cX12_ahead 244 = .ok (.bipush (-2), 2) := by decide +kernel
theorem dX12_ahead_246 : decode cX12_ahead 246 = .ok (.goto 13, 3) := by decide +kernel
theorem dX12_ahead_249 : decode cX12_ahead 249 = .ok (.aload_n 0, 1) := by decide +kernel
theorem dX12_ahead_250 : decode cX12_ahead 250 = .ok (.iload 8, 2) := by decide +kernel
theorem dX12_ahead_252 : decode cX12_ahead 252 = .ok (.iload 6, 2) := by decide +kernel
theorem dX12_ahead_254 : decode cX12_ahead 254 = .ok (.iload 7, 2) := by decide +kernel
theorem dX12_ahead_256 : decode cX12_ahead 256 = .ok (.invokevirtual 476, 3) := by decide +kernel
theorem dX12_ahead_259 : decode cX12_ahead 259 = .ok (.ireturn, 1) := by decide +kernel
theorem dX12_most_0 : decode cX12_most 0 = .ok (.aload_n 0, 1) := by decide +kernel
theorem dX12_most_1 : decode cX12_most 1 = .ok (.iconst 0, 1) := by decide +kernel
theorem dX12_most_2 : decode cX12_most 2 = .ok (.iload_n 1, 1) := by decide +kernel
theorem dX12_most_3 : decode cX12_most 3 = .ok (.invokevirtual 402, 3) := by decide +kernel
theorem dX12_most_6 : decode cX12_most 6 = .ok (.ifCond .eq 13, 3) := by decide +kernel
theorem dX12_most_9 : decode cX12_most 9 = .ok (.aload_n 0, 1) := by decide +kernel
theorem dX12_most_10 : decode cX12_most 10 = .ok (.iload_n 2, 1) := by decide +kernel
theorem dX12_most_11 : decode cX12_most 11 = .ok (.iload_n 3, 1) := by decide +kernel
theorem dX12_most_12 : decode cX12_most 12 = .ok (.iconst (-1), 1) := by decide +kernel
theorem dX12_most_13 : decode cX12_most 13 = .ok (.invokevirtual 405, 3) := by decide +kernel
theorem dX12_most_16 : decode cX12_most 16 = .ok (.ifCond .ne 5, 3) := by decide +kernel
theorem dX12_most_19 : decode cX12_most 19 = .ok (.iconst (-1), 1) := by decide +kernel
theorem dX12_most_20 : decode cX12_most 20 = .ok (.ireturn, 1) := by decide +kernel
theorem dX12_most_21 : decode cX12_most 21 = .ok (.iconst 0, 1) := by decide +kernel
theorem dX12_most_22 : decode cX12_most 22 = .ok (.istore 4, 2) := by decide +kernel
theorem dX12_most_24 : decode cX12_most 24 = .ok (.iload_n 3, 1) := by decide +kernel
theorem dX12_most_25 : decode cX12_most 25 = .ok (.istore 5, 2) := by decide +kernel
theorem dX12_most_27 : decode cX12_most 27 = .ok (.iconst 1, 1) := by decide +kernel
theorem dX12_most_28 : decode cX12_most 28 = .ok (.istore 6, 2) := by decide +kernel
theorem dX12_most_30 : decode cX12_most 30 = .ok (.iload 6, 2) := by decide +kernel
theorem dX12_most_32 : decode cX12_most 32 = .ok (.ifCond .eq 120, 3) := by decide +kernel
theorem dX12_most_35 : decode cX12_most 35 = .ok (.iload 4, 2) := by decide +kernel
theorem dX12_most_37 : decode cX12_most 37 = .ok (.bipush 24, 2) := by decide +kernel
theorem dX12_most_39 : decode cX12_most 39 = .ok (.if_icmp .ge 113, 3) := by decide +kernel
theorem dX12_most_42 : decode cX12_most 42 = .ok (.iconst 0, 1) := by decide +kernel
theorem dX12_most_43 : decode cX12_most 43 = .ok (.istore 6, 2) := by decide +kernel
theorem dX12_most_45 : decode cX12_most 45 = .ok (.iconst 1, 1) := by decide +kernel
theorem dX12_most_46 : decode cX12_most 46 = .ok (.istore 7, 2) := by decide +kernel
theorem dX12_most_48 : decode cX12_most 48 = .ok (.iload 7, 2) := by decide +kernel
theorem dX12_most_50 : decode cX12_most 50 = .ok (.bipush 9, 2) := by decide +kernel
theorem dX12_most_52 : decode cX12_most 52 = .ok (.if_icmp .gt 69, 3) := by decide +kernel
theorem dX12_most_55 : decode cX12_most 55 = .ok (.iload 6, 2) := by decide +kernel
theorem dX12_most_57 : decode cX12_most 57 = .ok (.ifCond .ne 64, 3) := by decide +kernel
theorem dX12_most_60 : decode cX12_most 60 = .ok (.aload_n 0, 1) := by decide +kernel
theorem dX12_most_61 : decode cX12_most 61 = .ok (.aload_n 0, 1) := by decide +kernel
theorem dX12_most_62 : decode cX12_most 62 = .ok (.iload 5, 2) := by decide +kernel
theorem dX12_most_64 : decode cX12_most 64 = .ok (.iconst 1, 1) := by decide +kernel
theorem dX12_most_65 : decode cX12_most 65 = .ok (.invokevirtual 310, 3) := by decide +kernel
theorem dX12_most_68 : decode cX12_most 68 = .ok (.iload 7, 2) := by decide +kernel
theorem dX12_most_70 : decode cX12_most 70 = .ok (.isub, 1) := by decide +kernel
theorem dX12_most_71 : decode cX12_most 71 = .ok (.aload_n 0, 1) := by decide +kernel
theorem dX12_most_72 : decode cX12_most 72 = .ok (.iload 5, 2) := by decide +kernel
theorem dX12_most_74 : decode cX12_most 74 = .ok (.iconst 2, 1) := by decide +kernel
theorem dX12_most_75 : decode cX12_most 75 = .ok (.invokevirtual 310, 3) := by decide +kernel
theorem dX12_most_78 : decode cX12_most 78 = .ok (.iload 7, 2) := by decide +kernel
theorem dX12_most_80 : decode cX12_most 80 = .ok (.isub, 1) := by decide +kernel
theorem dX12_most_81 : decode cX12_most 81 = .ok (.aload_n 0, 1) := by decide +kernel
theorem dX12_most_82 : decode cX12_most 82 = .ok (.iload 5, 2) := by decide +kernel
theorem dX12_most_84 : decode cX12_most 84 = .ok (.iconst 3, 1) := by decide +kernel
theorem dX12_most_85 : decode cX12_most 85 = .ok (.invokevirtual 310, 3) := by decide +kernel
theorem dX12_most_88 : decode cX12_most 88 = .ok (.iload 7, 2) := by decide +kernel
theorem dX12_most_90 : decode cX12_most 90 = .ok (.iadd, 1) := by decide +kernel
theorem dX12_most_91 : decode cX12_most 91 = .ok (.aload_n 0, 1) := by decide +kernel
theorem dX12_most_92 : decode cX12_most 92 = .ok (.iload 5, 2) := by decide +kernel
theorem dX12_most_94 : decode cX12_most 94 = .ok (.iconst 4, 1) := by decide +kernel
theorem dX12_most_95 : decode cX12_most 95 = .ok (.invokevirtual 310, 3) := by decide +kernel
theorem dX12_most_98 : decode cX12_most 98 = .ok (.iload 7, 2) := by decide +kernel
theorem dX12_most_100 : decode cX12_most 100 = .ok (.iadd, 1) := by decide +kernel
theorem dX12_most_101 : decode cX12_most 101 = .ok (.iload 5, 2) := by decide +kernel
theorem dX12_most_103 : decode cX12_most 103 = .ok (.iconst (-1), 1) := by decide +kernel
theorem dX12_most_104 : decode cX12_most 104 = .ok (.invokevirtual 408, 3) := by decide +kernel
theorem dX12_most_107 : decode cX12_most 107 = .ok (.aload_n 0, 1) := by decide +kernel
theorem dX12_most_108 : decode cX12_most 108 = .ok (.iload_n 1, 1) := by decide +kernel
theorem dX12_most_109 : decode cX12_most 109 = .ok (.iload_n 2, 1) := by decide +kernel
theorem dX12_most_110 : decode cX12_most 110 = .ok (.invokevirtual 411, 3) := by decide +kernel
theorem dX12_most_113 : decode cX12_most 113 = .ok (.istore 6, 2) := by decide +kernel
theorem dX12_most_115 : decode cX12_most 115 = .ok (.iinc 7 1, 3) := by decide +kernel
theorem dX12_most_118 : decode cX12_most 118 = .ok (.goto (-70), 3) := by decide +kernel
theorem dX12_most_121 : decode cX12_most 121 = .ok (.iload 6, 2) := by decide +kernel
theorem dX12_most_123 : decode cX12_most 123 = .ok (.ifCond .ne 6, 3) := by decide +kernel
theorem dX12_most_126 : decode cX12_most 126 = .ok (.goto (-96), 3) := by decide +kernel
theorem dX12_most_129 : decode cX12_most 129 = .ok (.aload_n 0, 1) := by decide +kernel
theorem dX12_most_130 : decode cX12_most 130 = .ok (.bipush 30, 2) := by decide +kernel
theorem dX12_most_132 : decode cX12_most 132 = .ok (.iload 4, 2) := by decide +kernel
theorem dX12_most_134 : decode cX12_most 134 = .ok (.iadd, 1) := by decide +kernel
theorem dX12_most_135 : decode cX12_most 135 = .ok (.iload_n 2, 1) := by decide +kernel
theorem dX12_most_136 : decode cX12_most 136 = .ok (.invokevirtual 417, 3) := by decide +kernel
theorem dX12_most_139 : decode cX12_most 139 = .ok (.bipush 30, 2) := by decide +kernel
theorem dX12_most_141 : decode cX12_most 141 = .ok (.iload 4, 2) := by decide +kernel
theorem dX12_most_143 : decode cX12_most 143 = .ok (.iadd, 1) := by decide +kernel
theorem dX12_most_144 : decode cX12_most 144 = .ok (.istore 5, 2) := by decide +kernel
theorem dX12_most_146 : decode cX12_most 146 = .ok (.iinc 4 1, 3) := by decide +kernel
theorem dX12_most_149 : decode cX12_most 149 = .ok (.goto (-119), 3) := by decide +kernel
theorem dX12_most_152 : decode cX12_most 152 = .ok (.iload 4, 2) := by decide +kernel
theorem dX12_most_154 : decode cX12_most 154 = .ok (.iconst 1, 1) := by decide +kernel
theorem dX12_most_155 : decode cX12_most 155 = .ok (.isub, 1) := by decide +kernel
theorem dX12_most_156 : decode cX12_most 156 = .ok (.istore 7, 2) := by decide +kernel
theorem dX12_most_158 : decode cX12_most 158 = .ok (.iload 7, 2) := by decide +kernel
theorem dX12_most_160 : decode cX12_most 160 = .ok (.ifCond .lt 18, 3) := by decide +kernel
theorem dX12_most_163 : decode cX12_most 163 = .ok (.aload_n 0, 1) := by decide +kernel
theorem dX12_most_164 : decode cX12_most 164 = .ok (.bipush 30, 2) := by decide +kernel
theorem dX12_most_166 : decode cX12_most 166 = .ok (.iload 7, 2) := by decide +kernel
theorem dX12_most_168 : decode cX12_most 168 = .ok (.iadd, 1) := by decide +kernel
theorem dX12_most_169 : decode cX12_most 169 = .ok (.invokevirtual 426, 3) := by decide +kernel
theorem dX12_most_172 : decode cX12_most 172 = .ok (.iinc 7 (-1), 3) := by decide +kernel
theorem dX12_most_175 : decode cX12_most 175 = .ok (.goto (-17), 3) := by decide +kernel
theorem dX12_most_178 : decode cX12_most 178 = .ok (.iload 4, 2) := by decide +kernel
theorem dX12_most_180 : decode cX12_most 180 = .ok (.ireturn, 1) := by decide +kernel
theorem dX12_freeCells_0 : decode cX12_freeCells 0 = .ok (.aload_n 0, 1) := by decide +kernel
theorem dX12_freeCells_1 : decode cX12_freeCells 1 = .ok (.getfield 48, 3) := by decide +kernel
theorem dX12_freeCells_4 : decode cX12_freeCells 4 = .ok (.iconst 0, 1) := by decide +kernel
theorem dX12_freeCells_5 : decode cX12_freeCells 5 = .ok (.iaload, 1) := by decide +kernel
theorem dX12_freeCells_6 : decode cX12_freeCells 6 = .ok (.aload_n 0, 1) := by decide +kernel
theorem dX12_freeCells_7 : decode cX12_freeCells 7 = .ok (.getfield 48, 3) := by decide +kernel
theorem dX12_freeCells_10 : decode cX12_freeCells 10 = .ok (.iconst 1, 1) := by decide +kernel
theorem dX12_freeCells_11 : decode cX12_freeCells 11 = .ok (.iaload, 1) := by decide +kernel
theorem dX12_freeCells_12 : decode cX12_freeCells 12 = .ok (.imul, 1) := by decide +kernel
theorem dX12_freeCells_13 : decode cX12_freeCells 13 = .ok (.istore_n 1, 1) := by decide +kernel
theorem dX12_freeCells_14 : decode cX12_freeCells 14 = .ok (.iconst 0, 1) := by decide +kernel
theorem dX12_freeCells_15 : decode cX12_freeCells 15 = .ok (.istore_n 2, 1) := by decide +kernel
theorem dX12_freeCells_16 : decode cX12_freeCells 16 = .ok (.iload_n 2, 1) := by decide +kernel
theorem dX12_freeCells_17 : decode cX12_freeCells 17 = .ok (.bipush 30, 2) := by decide +kernel
theorem dX12_freeCells_19 : decode cX12_freeCells 19 = .ok (.if_icmp .ge 37, 3) := by decide +kernel
theorem dX12_freeCells_22 : decode cX12_freeCells 22 = .ok (.iload_n 1, 1) := by decide +kernel
theorem dX12_freeCells_23 : decode cX12_freeCells 23 = .ok (.aload_n 0, 1) := by decide +kernel
theorem dX12_freeCells_24 : decode cX12_freeCells 24 = .ok (.iload_n 2, 1) := by decide +kernel
theorem dX12_freeCells_25 : decode cX12_freeCells 25 = .ok (.invokevirtual 314, 3) := by decide +kernel
theorem dX12_freeCells_28 : decode cX12_freeCells 28 = .ok (.ifCond .eq 19, 3) := by decide +kernel
theorem dX12_freeCells_31 : decode cX12_freeCells 31 = .ok (.aload_n 0, 1) := by decide +kernel
theorem dX12_freeCells_32 : decode cX12_freeCells 32 = .ok (.iload_n 2, 1) := by decide +kernel
theorem dX12_freeCells_33 : decode cX12_freeCells 33 = .ok (.invokevirtual 338, 3) := by decide +kernel
theorem dX12_freeCells_36 : decode cX12_freeCells 36 = .ok (.ifCond .eq 11, 3) := by decide +kernel
theorem dX12_freeCells_39 : decode cX12_freeCells 39 = .ok (.aload_n 0, 1) := by decide +kernel
theorem dX12_freeCells_40 : decode cX12_freeCells 40 = .ok (.iload_n 2, 1) := by decide +kernel
theorem dX12_freeCells_41 : decode cX12_freeCells 41 = .ok (.invokevirtual 455, 3) := by decide +kernel
theorem dX12_freeCells_44 : decode cX12_freeCells 44 = .ok (.goto 4, 3) := by decide +kernel
theorem dX12_freeCells_47 : decode cX12_freeCells 47 = .ok (.iconst 0, 1) := by decide +kernel
theorem dX12_freeCells_48 : decode cX12_freeCells 48 = .ok (.isub, 1) := by decide +kernel
theorem dX12_freeCells_49 : decode cX12_freeCells 49 = .ok (.istore_n 1, 1) := by decide +kernel
theorem dX12_freeCells_50 : decode cX12_freeCells 50 = .ok (.iinc 2 1, 3) := by decide +kernel
theorem dX12_freeCells_53 : decode cX12_freeCells 53 = .ok (.goto (-37), 3) := by decide +kernel
theorem dX12_freeCells_56 : decode cX12_freeCells 56 = .ok (.iload_n 1, 1) := by decide +kernel
theorem dX12_freeCells_57 : decode cX12_freeCells 57 = .ok (.ireturn, 1) := by decide +kernel
theorem dX12_nests_0 : decode cX12_nests 0 = .ok (.iload_n 1, 1) := by decide +kernel
theorem dX12_nests_1 : decode cX12_nests 1 = .ok (.ifCond .ne 8, 3) := by decide +kernel
theorem dX12_nests_4 : decode cX12_nests 4 = .ok (.aload_n 0, 1) := by decide +kernel
theorem dX12_nests_5 : decode cX12_nests 5 = .ok (.invokevirtual 504, 3) := by decide +kernel
theorem dX12_nests_8 : decode cX12_nests 8 = .ok (.ireturn, 1) := by decide +kernel
theorem dX12_nests_9 : decode cX12_nests 9 = .ok (.iload_n 1, 1) := by decide +kernel
theorem dX12_nests_10 : decode cX12_nests 10 = .ok (.iconst 1, 1) := by decide +kernel
theorem dX12_nests_11 : decode cX12_nests 11 = .ok (.if_icmp .ne 8, 3) := by decide +kernel
theorem dX12_nests_14 : decode cX12_nests 14 = .ok (.aload_n 0, 1) := by decide +kernel
theorem dX12_nests_15 : decode cX12_nests 15 = .ok (.invokevirtual 507, 3) := by decide +kernel
theorem dX12_nests_18 : decode cX12_nests 18 = .ok (.ireturn, 1) := by decide +kernel
theorem dX12_nests_19 : decode cX12_nests 19 = .ok (.iconst 0, 1) := by decide +kernel
theorem dX12_nests_20 : decode cX12_nests 20 = .ok (.istore_n 2, 1) := by decide +kernel
theorem dX12_nests_21 : decode cX12_nests 21 = .ok (.iload_n 1, 1) := by decide +kernel
theorem dX12_nests_22 : decode cX12_nests 22 = .ok (.iconst 4, 1) := by decide +kernel
theorem dX12_nests_23 : decode cX12_nests 23 = .ok (.if_icmp .ne 35, 3) := by decide +kernel
theorem dX12_nests_26 : decode cX12_nests 26 = .ok (.iconst 0, 1) := by decide +kernel
theorem dX12_nests_27 : decode cX12_nests 27 = .ok (.istore_n 3, 1) := by decide +kernel
theorem dX12_nests_28 : decode cX12_nests 28 = .ok (.iload_n 3, 1) := by decide +kernel
theorem dX12_nests_29 : decode cX12_nests 29 = .ok (.bipush 12, 2) := by decide +kernel
theorem dX12_nests_31 : decode cX12_nests 31 = .ok (.if_icmp .ge 25, 3) := by decide +kernel
theorem dX12_nests_34 : decode cX12_nests 34 = .ok (.iload_n 2, 1) := by decide +kernel
theorem dX12_nests_35 : decode cX12_nests 35 = .ok (.aload_n 0, 1) := by decide +kernel
theorem dX12_nests_36 : decode cX12_nests 36 = .ok (.iload_n 3, 1) := by decide +kernel
theorem dX12_nests_37 : decode cX12_nests 37 = .ok (.invokevirtual 357, 3) := by decide +kernel
theorem dX12_nests_40 : decode cX12_nests 40 = .ok (.ifCond .ne 7, 3) := by decide +kernel
theorem dX12_nests_43 : decode cX12_nests 43 = .ok (.iconst 1, 1) := by decide +kernel
theorem dX12_nests_44 : decode cX12_nests 44 = .ok (.goto 4, 3) := by decide +kernel
theorem dX12_nests_47 : decode cX12_nests 47 = .ok (.iconst 0, 1) := by decide +kernel
theorem dX12_nests_48 : decode cX12_nests 48 = .ok (.iadd, 1) := by decide +kernel
theorem dX12_nests_49 : decode cX12_nests 49 = .ok (.istore_n 2, 1) := by decide +kernel
theorem dX12_nests_50 : decode cX12_nests 50 = .ok (.iinc 3 1, 3) := by decide +kernel
theorem dX12_nests_53 : decode cX12_nests 53 = .ok (.goto (-25), 3) := by decide +kernel
theorem dX12_nests_56 : decode cX12_nests 56 = .ok (.iload_n 2, 1) := by decide +kernel
theorem dX12_nests_57 : decode cX12_nests 57 = .ok (.ireturn, 1) := by decide +kernel
theorem dX12_nests_58 : decode cX12_nests 58 = .ok (.iload_n 1, 1) := by decide +kernel
theorem dX12_nests_59 : decode cX12_nests 59 = .ok (.i2l, 1) := by decide +kernel
theorem dX12_nests_60 : decode cX12_nests 60 = .ok (.ldc2_w 345, 3) := by decide +kernel
theorem dX12_nests_63 : decode cX12_nests 63 = .ok (.ldc2_w 432, 3) := by decide +kernel
theorem dX12_nests_66 : decode cX12_nests 66 = .ok (.invokestatic 112, 3) := by decide +kernel
theorem dX12_nests_69 : decode cX12_nests 69 = .ok (.ifCond .ne 5, 3) := by decide +kernel
theorem dX12_nests_72 : decode cX12_nests 72 = .ok (.iconst (-1), 1) := by decide +kernel
theorem dX12_nests_73 : decode cX12_nests 73 = .ok (.ireturn, 1) := by decide +kernel
theorem dX12_nests_74 : decode cX12_nests 74 = .ok (.iconst (-1), 1) := by decide +kernel
theorem dX12_nests_75 : decode cX12_nests 75 = .ok (.istore_n 3, 1) := by decide +kernel
theorem dX12_nests_76 : decode cX12_nests 76 = .ok (.iconst 0, 1) := by decide +kernel
theorem dX12_nests_77 : decode cX12_nests 77 = .ok (.istore 4, 2) := by decide +kernel
theorem dX12_nests_79 : decode cX12_nests 79 = .ok (.iload 4, 2) := by decide +kernel
theorem dX12_nests_81 : decode cX12_nests 81 = .ok (.bipush 30, 2) := by decide +kernel
theorem dX12_nests_83 : decode cX12_nests 83 = .ok (.if_icmp .ge 39, 3) := by decide +kernel
theorem dX12_nests_86 : decode cX12_nests 86 = .ok (.aload_n 0, 1) := by decide +kernel
theorem dX12_nests_87 : decode cX12_nests 87 = .ok (.iload 4, 2) := by decide +kernel
theorem dX12_nests_89 : decode cX12_nests 89 = .ok (.invokevirtual 314, 3) := by decide +kernel
theorem dX12_nests_92 : decode cX12_nests 92 = .ok (.ifCond .eq 24, 3) := by decide +kernel
theorem dX12_nests_95 : decode cX12_nests 95 = .ok (.iload_n 3, 1) := by decide +kernel
theorem dX12_nests_96 : decode cX12_nests 96 = .ok (.ifCond .lt 17, 3) := by decide +kernel
theorem dX12_nests_99 : decode cX12_nests 99 = .ok (.aload_n 0, 1) := by decide +kernel
theorem dX12_nests_100 : decode cX12_nests 100 = .ok (.iload 4, 2) := by decide +kernel
theorem dX12_nests_102 : decode cX12_nests 102 = .ok (.invokevirtual 510, 3) := by decide +kernel
theorem dX12_nests_105 : decode cX12_nests 105 = .ok (.aload_n 0, 1) := by decide +kernel
theorem dX12_nests_106 : decode cX12_nests 106 = .ok (.iload_n 3, 1) := by decide +kernel
theorem dX12_nests_107 : decode cX12_nests 107 = .ok (.invokevirtual 510, 3) := by decide +kernel
theorem dX12_nests_110 : decode cX12_nests 110 = .ok (.if_icmp .le 6, 3) := by decide +kernel
theorem dX12_nests_113 : decode cX12_nests 113 = .ok (.iload 4, 2) := by decide +kernel
theorem dX12_nests_115 : decode cX12_nests 115 = .ok (.istore_n 3, 1) := by decide +kernel
theorem dX12_nests_116 : decode cX12_nests 116 = .ok (.iinc 4 1, 3) := by decide +kernel
theorem dX12_nests_119 : decode cX12_nests 119 = .ok (.goto (-40), 3) := by decide +kernel
theorem dX12_nests_122 : decode cX12_nests 122 = .ok (.iload_n 1, 1) := by decide +kernel
theorem dX12_nests_123 : decode cX12_nests 123 = .ok (.iconst 2, 1) := by decide +kernel
theorem dX12_nests_124 : decode cX12_nests 124 = .ok (.if_icmp .eq 7, 3) := by decide +kernel
theorem dX12_nests_127 : decode cX12_nests 127 = .ok (.iload_n 3, 1) := by decide +kernel
theorem dX12_nests_128 : decode cX12_nests 128 = .ok (.ifCond .ge 7, 3) := by decide +kernel
theorem dX12_nests_131 : decode cX12_nests 131 = .ok (.iload_n 3, 1) := by decide +kernel
theorem dX12_nests_132 : decode cX12_nests 132 = .ok (.goto 8, 3) := by decide +kernel
theorem dX12_nests_135 : decode cX12_nests 135 = .ok (.aload_n 0, 1) := by decide +kernel
theorem dX12_nests_136 : decode cX12_nests 136 = .ok (.iload_n 3, 1) := by decide +kernel
theorem dX12_nests_137 : decode cX12_nests 137 = .ok (.invokevirtual 510, 3) := by decide +kernel
theorem dX12_nests_140 : decode cX12_nests 140 = .ok (.ireturn, 1) := by decide +kernel
theorem dX12_lays_0 : decode cX12_lays 0 = .ok (.iconst 0, 1) := by decide +kernel
theorem dX12_lays_1 : decode cX12_lays 1 = .ok (.istore_n 1, 1) := by decide +kernel
theorem dX12_lays_2 : decode cX12_lays 2 = .ok (.iload_n 1, 1) := by decide +kernel
theorem dX12_lays_3 : decode cX12_lays 3 = .ok (.sipush 1600, 3) := by decide +kernel
theorem dX12_lays_6 : decode cX12_lays 6 = .ok (.if_icmp .ge 16, 3) := by decide +kernel
theorem dX12_lays_9 : decode cX12_lays 9 = .ok (.aload_n 0, 1) := by decide +kernel
theorem dX12_lays_10 : decode cX12_lays 10 = .ok (.getfield 54, 3) := by decide +kernel
theorem dX12_lays_13 : decode cX12_lays 13 = .ok (.iload_n 1, 1) := by decide +kernel
theorem dX12_lays_14 : decode cX12_lays 14 = .ok (.iconst (-1), 1) := by decide +kernel
theorem dX12_lays_15 : decode cX12_lays 15 = .ok (.iastore, 1) := by decide +kernel
theorem dX12_lays_16 : decode cX12_lays 16 = .ok (.iinc 1 1, 3) := by decide +kernel
theorem dX12_lays_19 : decode cX12_lays 19 = .ok (.goto (-17), 3) := by decide +kernel
theorem dX12_lays_22 : decode cX12_lays 22 = .ok (.bipush 6, 2) := by decide +kernel
theorem dX12_lays_24 : decode cX12_lays 24 = .ok (.istore_n 1, 1) := by decide +kernel
theorem dX12_lays_25 : decode cX12_lays 25 = .ok (.iload_n 1, 1) := by decide +kernel
theorem dX12_lays_26 : decode cX12_lays 26 = .ok (.bipush 30, 2) := by decide +kernel
theorem dX12_lays_28 : decode cX12_lays 28 = .ok (.if_icmp .ge 108, 3) := by decide +kernel
theorem dX12_lays_31 : decode cX12_lays 31 = .ok (.aload_n 0, 1) := by decide +kernel
theorem dX12_lays_32 : decode cX12_lays 32 = .ok (.iload_n 1, 1) := by decide +kernel
theorem dX12_lays_33 : decode cX12_lays 33 = .ok (.invokevirtual 314, 3) := by decide +kernel
theorem dX12_lays_36 : decode cX12_lays 36 = .ok (.ifCond .ne 6, 3) := by decide +kernel
theorem dX12_lays_39 : decode cX12_lays 39 = .ok (.goto 91, 3) := by decide +kernel
theorem dX12_lays_42 : decode cX12_lays 42 = .ok (.aload_n 0, 1) := by decide +kernel
theorem dX12_lays_43 : decode cX12_lays 43 = .ok (.iload_n 1, 1) := by decide +kernel
theorem dX12_lays_44 : decode cX12_lays 44 = .ok (.iconst 2, 1) := by decide +kernel
theorem dX12_lays_45 : decode cX12_lays 45 = .ok (.invokevirtual 310, 3) := by decide +kernel
theorem dX12_lays_48 : decode cX12_lays 48 = .ok (.istore_n 2, 1) := by decide +kernel
theorem dX12_lays_49 : decode cX12_lays 49 = .ok (.iload_n 2, 1) := by decide +kernel
theorem dX12_lays_50 : decode cX12_lays 50 = .ok (.aload_n 0, 1) := by decide +kernel
theorem dX12_lays_51 : decode cX12_lays 51 = .ok (.iload_n 1, 1) := by decide +kernel
theorem dX12_lays_52 : decode cX12_lays 52 = .ok (.iconst 4, 1) := by decide +kernel
theorem dX12_lays_53 : decode cX12_lays 53 = .ok (.invokevirtual 310, 3) := by decide +kernel
theorem dX12_lays_56 : decode cX12_lays 56 = .ok (.if_icmp .ge 74, 3) := by decide +kernel
theorem dX12_lays_59 : decode cX12_lays 59 = .ok (.aload_n 0, 1) := by decide +kernel
theorem dX12_lays_60 : decode cX12_lays 60 = .ok (.iload_n 1, 1) := by decide +kernel
theorem dX12_lays_61 : decode cX12_lays 61 = .ok (.iconst 1, 1) := by decide +kernel
theorem dX12_lays_62 : decode cX12_lays 62 = .ok (.invokevirtual 310, 3) := by decide +kernel
theorem dX12_lays_65 : decode cX12_lays 65 = .ok (.istore_n 3, 1) := by decide +kernel
theorem dX12_lays_66 : decode cX12_lays 66 = .ok (.iload_n 3, 1) := by decide +kernel
theorem dX12_lays_67 : decode cX12_lays 67 = .ok (.aload_n 0, 1) := by decide +kernel
theorem dX12_lays_68 : decode cX12_lays 68 = .ok (.iload_n 1, 1) := by decide +kernel
theorem dX12_lays_69 : decode cX12_lays 69 = .ok (.iconst 3, 1) := by decide +kernel
theorem dX12_lays_70 : decode cX12_lays 70 = .ok (.invokevirtual 310, 3) := by decide +kernel
theorem dX12_lays_73 : decode cX12_lays 73 = .ok (.if_icmp .ge 51, 3) := by decide +kernel
theorem dX12_lays_76 : decode cX12_lays 76 = .ok (.bipush 40, 2) := by decide +kernel
theorem dX12_lays_78 : decode cX12_lays 78 = .ok (.iload_n 2, 1) := by decide +kernel
theorem dX12_lays_79 : decode cX12_lays 79 = .ok (.imul, 1) := by decide +kernel
theorem dX12_lays_80 : decode cX12_lays 80 = .ok (.iload_n 3, 1) := by decide +kernel
theorem dX12_lays_81 : decode cX12_lays 81 = .ok (.iadd, 1) := by decide +kernel
theorem dX12_lays_82 : decode cX12_lays 82 = .ok (.istore 4, 2) := by decide +kernel
theorem dX12_lays_84 : decode cX12_lays 84 = .ok (.aload_n 0, 1) := by decide +kernel
theorem dX12_lays_85 : decode cX12_lays 85 = .ok (.getfield 54, 3) := by decide +kernel
theorem dX12_lays_88 : decode cX12_lays 88 = .ok (.iload 4, 2) := by decide +kernel
theorem dX12_lays_90 : decode cX12_lays 90 = .ok (.iaload, 1) := by decide +kernel
theorem dX12_lays_91 : decode cX12_lays 91 = .ok (.iconst (-1), 1) := by decide +kernel
theorem dX12_lays_92 : decode cX12_lays 92 = .ok (.if_icmp .eq 18, 3) := by decide +kernel
theorem dX12_lays_95 : decode cX12_lays 95 = .ok (.aload_n 0, 1) := by decide +kernel
theorem dX12_lays_96 : decode cX12_lays 96 = .ok (.iload_n 1, 1) := by decide +kernel
theorem dX12_lays_97 : decode cX12_lays 97 = .ok (.aload_n 0, 1) := by decide +kernel
theorem dX12_lays_98 : decode cX12_lays 98 = .ok (.getfield 54, 3) := by decide +kernel
theorem dX12_lays_101 : decode cX12_lays 101 = .ok (.iload 4, 2) := by decide +kernel
theorem dX12_lays_103 : decode cX12_lays 103 = .ok (.iaload, 1) := by decide +kernel
theorem dX12_lays_104 : decode cX12_lays 104 = .ok (.invokevirtual 317, 3) := by decide +kernel
theorem dX12_lays_107 : decode cX12_lays 107 = .ok (.ifCond .eq 11, 3) := by decide +kernel
theorem dX12_lays_110 : decode cX12_lays 110 = .ok (.aload_n 0, 1) := by decide +kernel
theorem dX12_lays_111 : decode cX12_lays 111 = .ok (.getfield 54, 3) := by decide +kernel
theorem dX12_lays_114 : decode cX12_lays 114 = .ok (.iload 4, 2) := by decide +kernel
theorem dX12_lays_116 : decode cX12_lays 116 = .ok (.iload_n 1, 1) := by decide +kernel
theorem dX12_lays_117 : decode cX12_lays 117 = .ok (.iastore, 1) := by decide +kernel
theorem dX12_lays_118 : decode cX12_lays 118 = .ok (.iinc 3 1, 3) := by decide +kernel
theorem dX12_lays_121 : decode cX12_lays 121 = .ok (.goto (-55), 3) := by decide +kernel
theorem dX12_lays_124 : decode cX12_lays 124 = .ok (.iinc 2 1, 3) := by decide +kernel
theorem dX12_lays_127 : decode cX12_lays 127 = .ok (.goto (-78), 3) := by decide +kernel
theorem dX12_lays_130 : decode cX12_lays 130 = .ok (.iinc 1 1, 3) := by decide +kernel
theorem dX12_lays_133 : decode cX12_lays 133 = .ok (.goto (-108), 3) := by decide +kernel
theorem dX12_lays_136 : decode cX12_lays 136 = .ok (.return_, 1) := by decide +kernel
theorem dX12_lineBetween_0 : decode cX12_lineBetween 0 = .ok (.aload_n 0, 1) := by decide +kernel
theorem dX12_lineBetween_1 : decode cX12_lineBetween 1 = .ok (.getfield 54, 3) := by decide +kernel
theorem dX12_lineBetween_4 : decode cX12_lineBetween 4 = .ok (.iload_n 1, 1) := by decide +kernel
theorem dX12_lineBetween_5 : decode cX12_lineBetween 5 = .ok (.iaload, 1) := by decide +kernel
theorem dX12_lineBetween_6 : decode cX12_lineBetween 6 = .ok (.aload_n 0, 1) := by decide +kernel
theorem dX12_lineBetween_7 : decode cX12_lineBetween 7 = .ok (.getfield 54, 3) := by decide +kernel
theorem dX12_lineBetween_10 : decode cX12_lineBetween 10 = .ok (.iload_n 2, 1) := by decide +kernel
theorem dX12_lineBetween_11 : decode cX12_lineBetween 11 = .ok (.iaload, 1) := by decide +kernel
theorem dX12_lineBetween_12 : decode cX12_lineBetween 12 = .ok (.if_icmp .ne 5, 3) := by decide +kernel
theorem dX12_lineBetween_15 : decode cX12_lineBetween 15 = .ok (.iconst (-1), 1) := by decide +kernel
theorem dX12_lineBetween_16 : decode cX12_lineBetween 16 = .ok (.ireturn, 1) := by decide +kernel
theorem dX12_lineBetween_17 : decode cX12_lineBetween 17 = .ok (.aload_n 0, 1) := by decide +kernel
theorem dX12_lineBetween_18 : decode cX12_lineBetween 18 = .ok (.getfield 54, 3) := by decide +kernel
theorem dX12_lineBetween_21 : decode cX12_lineBetween 21 = .ok (.iload_n 2, 1) := by decide +kernel
theorem dX12_lineBetween_22 : decode cX12_lineBetween 22 = .ok (.iaload, 1) := by decide +kernel
theorem dX12_lineBetween_23 : decode cX12_lineBetween 23 = .ok (.iconst (-1), 1) := by decide +kernel
theorem dX12_lineBetween_24 : decode cX12_lineBetween 24 = .ok (.if_icmp .eq 41, 3) := by decide +kernel
theorem dX12_lineBetween_27 : decode cX12_lineBetween 27 = .ok (.aload_n 0, 1) := by decide +kernel
theorem dX12_lineBetween_28 : decode cX12_lineBetween 28 = .ok (.getfield 54, 3) := by decide +kernel
theorem dX12_lineBetween_31 : decode cX12_lineBetween 31 = .ok (.iload_n 1, 1) := by decide +kernel
theorem dX12_lineBetween_32 : decode cX12_lineBetween 32 = .ok (.iaload, 1) := by decide +kernel
theorem dX12_lineBetween_33 : decode cX12_lineBetween 33 = .ok (.iconst (-1), 1) := by decide +kernel
theorem dX12_lineBetween_34 : decode cX12_lineBetween 34 = .ok (.if_icmp .eq 22, 3) := by decide +kernel
theorem dX12_lineBetween_37 : decode cX12_lineBetween 37 = .ok (.aload_n 0, 1) := by decide +kernel
theorem dX12_lineBetween_38 : decode cX12_lineBetween 38 = .ok (.aload_n 0, 1) := by decide +kernel
theorem dX12_lineBetween_39 : decode cX12_lineBetween 39 = .ok (.getfield 54, 3) := by decide +kernel
theorem dX12_lineBetween_42 : decode cX12_lineBetween 42 = .ok (.iload_n 2, 1) := by decide +kernel
theorem dX12_lineBetween_43 : decode cX12_lineBetween 43 = .ok (.iaload, 1) := by decide +kernel
theorem dX12_lineBetween_44 : decode cX12_lineBetween 44 = .ok (.aload_n 0, 1) := by decide +kernel
theorem dX12_lineBetween_45 : decode cX12_lineBetween 45 = .ok (.getfield 54, 3) := by decide +kernel
theorem dX12_lineBetween_48 : decode cX12_lineBetween 48 = .ok (.iload_n 1, 1) := by decide +kernel
theorem dX12_lineBetween_49 : decode cX12_lineBetween 49 = .ok (.iaload, 1) := by decide +kernel
theorem dX12_lineBetween_50 : decode cX12_lineBetween 50 = .ok (.invokevirtual 317, 3) := by decide +kernel
theorem dX12_lineBetween_53 : decode cX12_lineBetween 53 = .ok (.ifCond .eq 12, 3) := by decide +kernel
theorem dX12_lineBetween_56 : decode cX12_lineBetween 56 = .ok (.aload_n 0, 1) := by decide +kernel
theorem dX12_lineBetween_57 : decode cX12_lineBetween 57 = .ok (.getfield 54, 3) := by decide +kernel
theorem dX12_lineBetween_60 : decode cX12_lineBetween 60 = .ok (.iload_n 2, 1) := by decide +kernel
theorem dX12_lineBetween_61 : decode cX12_lineBetween 61 = .ok (.iaload, 1) := by decide +kernel
theorem dX12_lineBetween_62 : decode cX12_lineBetween 62 = .ok (.goto 9, 3) := by decide +kernel
theorem dX12_lineBetween_65 : decode cX12_lineBetween 65 = .ok (.aload_n 0, 1) := by decide +kernel
theorem dX12_lineBetween_66 : decode cX12_lineBetween 66 = .ok (.getfield 54, 3) := by decide +kernel
theorem dX12_lineBetween_69 : decode cX12_lineBetween 69 = .ok (.iload_n 1, 1) := by decide +kernel
theorem dX12_lineBetween_70 : decode cX12_lineBetween 70 = .ok (.iaload, 1) := by decide +kernel
theorem dX12_lineBetween_71 : decode cX12_lineBetween 71 = .ok (.ireturn, 1) := by decide +kernel
theorem dX12_walks_0 : decode cX12_walks 0 = .ok (.iconst 0, 1) := by decide +kernel
theorem dX12_walks_1 : decode cX12_walks 1 = .ok (.istore_n 3, 1) := by decide +kernel
theorem dX12_walks_2 : decode cX12_walks 2 = .ok (.iload_n 3, 1) := by decide +kernel
theorem dX12_walks_3 : decode cX12_walks 3 = .ok (.sipush 1600, 3) := by decide +kernel
theorem dX12_walks_6 : decode cX12_walks 6 = .ok (.if_icmp .ge 23, 3) := by decide +kernel
theorem dX12_walks_9 : decode cX12_walks 9 = .ok (.aload_n 0, 1) := by decide +kernel
theorem dX12_walks_10 : decode cX12_walks 10 = .ok (.getfield 57, 3) := by decide +kernel
theorem dX12_walks_13 : decode cX12_walks 13 = .ok (.iload_n 3, 1) := by decide +kernel
theorem dX12_walks_14 : decode cX12_walks 14 = .ok (.iconst (-1), 1) := by decide +kernel
theorem dX12_walks_15 : decode cX12_walks 15 = .ok (.iastore, 1) := by decide +kernel
theorem dX12_walks_16 : decode cX12_walks 16 = .ok (.aload_n 0, 1) := by decide +kernel
theorem dX12_walks_17 : decode cX12_walks 17 = .ok (.getfield 63, 3) := by decide +kernel
theorem dX12_walks_20 : decode cX12_walks 20 = .ok (.iload_n 3, 1) := by decide +kernel
theorem dX12_walks_21 : decode cX12_walks 21 = .ok (.iconst 0, 1) := by decide +kernel
theorem dX12_walks_22 : decode cX12_walks 22 = .ok (.bastore, 1) := by decide +kernel
theorem dX12_walks_23 : decode cX12_walks 23 = .ok (.iinc 3 1, 3) := by decide +kernel
theorem dX12_walks_26 : decode cX12_walks 26 = .ok (.goto (-24), 3) := by decide +kernel
theorem dX12_walks_29 : decode cX12_walks 29 = .ok (.aload_n 0, 1) := by decide +kernel
theorem dX12_walks_30 : decode cX12_walks 30 = .ok (.getfield 57, 3) := by decide +kernel
theorem dX12_walks_33 : decode cX12_walks 33 = .ok (.iload_n 2, 1) := by decide +kernel
theorem dX12_walks_34 : decode cX12_walks 34 = .ok (.iconst 0, 1) := by decide +kernel
theorem dX12_walks_35 : decode cX12_walks 35 = .ok (.iastore, 1) := by decide +kernel
theorem dX12_walks_36 : decode cX12_walks 36 = .ok (.aload_n 0, 1) := by decide +kernel
theorem dX12_walks_37 : decode cX12_walks 37 = .ok (.getfield 60, 3) := by decide +kernel
theorem dX12_walks_40 : decode cX12_walks 40 = .ok (.iconst 0, 1) := by decide +kernel
theorem dX12_walks_41 : decode cX12_walks 41 = .ok (.iload_n 2, 1) := by decide +kernel
theorem dX12_walks_42 : decode cX12_walks 42 = .ok (.iastore, 1) := by decide +kernel
theorem dX12_walks_43 : decode cX12_walks 43 = .ok (.iconst 0, 1) := by decide +kernel
theorem dX12_walks_44 : decode cX12_walks 44 = .ok (.istore_n 3, 1) := by decide +kernel
theorem dX12_walks_45 : decode cX12_walks 45 = .ok (.iconst 1, 1) := by decide +kernel
theorem dX12_walks_46 : decode cX12_walks 46 = .ok (.istore 4, 2) := by decide +kernel
theorem dX12_walks_48 : decode cX12_walks 48 = .ok (.iload 4, 2) := by decide +kernel
theorem dX12_walks_50 : decode cX12_walks 50 = .ok (.ifCond .le 186, 3) := by decide +kernel
theorem dX12_walks_53 : decode cX12_walks 53 = .ok (.aload_n 0, 1) := by decide +kernel
theorem dX12_walks_54 : decode cX12_walks 54 = .ok (.getfield 60, 3) := by decide +kernel
theorem dX12_walks_57 : decode cX12_walks 57 = .ok (.iload_n 3, 1) := by decide +kernel
theorem dX12_walks_58 : decode cX12_walks 58 = .ok (.iaload, 1) := by decide +kernel
theorem dX12_walks_59 : decode cX12_walks 59 = .ok (.istore 5, 2) := by decide +kernel
theorem dX12_walks_61 : decode cX12_walks 61 = .ok (.iload_n 3, 1) := by decide +kernel
theorem dX12_walks_62 : decode cX12_walks 62 = .ok (.iconst 1, 1) := by decide +kernel
theorem dX12_walks_63 : decode cX12_walks 63 = .ok (.iadd, 1) := by decide +kernel
theorem dX12_walks_64 : decode cX12_walks 64 = .ok (.sipush 1600, 3) := by decide +kernel
theorem dX12_walks_67 : decode cX12_walks 67 = .ok (.irem, 1) := by decide +kernel
theorem dX12_walks_68 : decode cX12_walks 68 = .ok (.istore_n 3, 1) := by decide +kernel
theorem dX12_walks_69 : decode cX12_walks 69 = .ok (.iinc 4 (-1), 3) := by decide +kernel
theorem dX12_walks_72 : decode cX12_walks 72 = .ok (.aload_n 0, 1) := by decide +kernel
theorem dX12_walks_73 : decode cX12_walks 73 = .ok (.getfield 63, 3) := by decide +kernel
theorem dX12_walks_76 : decode cX12_walks 76 = .ok (.iload 5, 2) := by decide +kernel
theorem dX12_walks_78 : decode cX12_walks 78 = .ok (.iconst 0, 1) := by decide +kernel
theorem dX12_walks_79 : decode cX12_walks 79 = .ok (.bastore, 1) := by decide +kernel
theorem dX12_walks_80 : decode cX12_walks 80 = .ok (.iconst 0, 1) := by decide +kernel
theorem dX12_walks_81 : decode cX12_walks 81 = .ok (.istore 6, 2) := by decide +kernel
theorem dX12_walks_83 : decode cX12_walks 83 = .ok (.iload 6, 2) := by decide +kernel
theorem dX12_walks_85 : decode cX12_walks 85 = .ok (.iconst 4, 1) := by decide +kernel
theorem dX12_walks_86 : decode cX12_walks 86 = .ok (.if_icmp .ge 147, 3) := by decide +kernel
theorem dX12_walks_89 : decode cX12_walks 89 = .ok (.aload_n 0, 1) := by decide +kernel
theorem dX12_walks_90 : decode cX12_walks 90 = .ok (.iload 5, 2) := by decide +kernel
theorem dX12_walks_92 : decode cX12_walks 92 = .ok (.iload 6, 2) := by decide +kernel
theorem dX12_walks_94 : decode cX12_walks 94 = .ok (.invokevirtual 516, 3) := by decide +kernel
theorem dX12_walks_97 : decode cX12_walks 97 = .ok (.istore 7, 2) := by decide +kernel
theorem dX12_walks_99 : decode cX12_walks 99 = .ok (.iload 7, 2) := by decide +kernel
theorem dX12_walks_101 : decode cX12_walks 101 = .ok (.ifCond .ge 6, 3) := by decide +kernel
theorem dX12_walks_104 : decode cX12_walks 104 = .ok (.goto 123, 3) := by decide +kernel
theorem dX12_walks_107 : decode cX12_walks 107 = .ok (.aload_n 0, 1) := by decide +kernel
theorem dX12_walks_108 : decode cX12_walks 108 = .ok (.iload_n 1, 1) := by decide +kernel
theorem dX12_walks_109 : decode cX12_walks 109 = .ok (.iload 5, 2) := by decide +kernel
theorem dX12_walks_111 : decode cX12_walks 111 = .ok (.iload 7, 2) := by decide +kernel
theorem dX12_walks_113 : decode cX12_walks 113 = .ok (.iload 6, 2) := by decide +kernel
theorem dX12_walks_115 : decode cX12_walks 115 = .ok (.invokevirtual 519, 3) := by decide +kernel
theorem dX12_walks_118 : decode cX12_walks 118 = .ok (.istore 8, 2) := by decide +kernel
theorem dX12_walks_120 : decode cX12_walks 120 = .ok (.iload 8, 2) := by decide +kernel
theorem dX12_walks_122 : decode cX12_walks 122 = .ok (.iconst (-1), 1) := by decide +kernel
theorem dX12_walks_123 : decode cX12_walks 123 = .ok (.if_icmp .eq 104, 3) := by decide +kernel
theorem dX12_walks_126 : decode cX12_walks 126 = .ok (.aload_n 0, 1) := by decide +kernel
theorem dX12_walks_127 : decode cX12_walks 127 = .ok (.getfield 57, 3) := by decide +kernel
theorem dX12_walks_130 : decode cX12_walks 130 = .ok (.iload 7, 2) := by decide +kernel
theorem dX12_walks_132 : decode cX12_walks 132 = .ok (.iaload, 1) := by decide +kernel
theorem dX12_walks_133 : decode cX12_walks 133 = .ok (.ifCond .lt 32, 3) := by decide +kernel
theorem dX12_walks_136 : decode cX12_walks 136 = .ok (.aload_n 0, 1) := by decide +kernel
theorem dX12_walks_137 : decode cX12_walks 137 = .ok (.getfield 57, 3) := by decide +kernel
theorem dX12_walks_140 : decode cX12_walks 140 = .ok (.iload 7, 2) := by decide +kernel
theorem dX12_walks_142 : decode cX12_walks 142 = .ok (.iaload, 1) := by decide +kernel
theorem dX12_walks_143 : decode cX12_walks 143 = .ok (.aload_n 0, 1) := by decide +kernel
theorem dX12_walks_144 : decode cX12_walks 144 = .ok (.getfield 57, 3) := by decide +kernel
theorem dX12_walks_147 : decode cX12_walks 147 = .ok (.iload 5, 2) := by decide +kernel
theorem dX12_walks_149 : decode cX12_walks 149 = .ok (.iaload, 1) := by decide +kernel
theorem dX12_walks_150 : decode cX12_walks 150 = .ok (.iconst 1, 1) := by decide +kernel
theorem dX12_walks_151 : decode cX12_walks 151 = .ok (.iadd, 1) := by decide +kernel
theorem dX12_walks_152 : decode cX12_walks 152 = .ok (.sipush 10000, 3) := by decide +kernel
theorem dX12_walks_155 : decode cX12_walks 155 = .ok (.iload 8, 2) := by decide +kernel
theorem dX12_walks_157 : decode cX12_walks 157 = .ok (.imul, 1) := by decide +kernel
theorem dX12_walks_158 : decode cX12_walks 158 = .ok (.iadd, 1) := by decide +kernel
theorem dX12_walks_159 : decode cX12_walks 159 = .ok (.if_icmp .gt 6, 3) := by decide +kernel
theorem dX12_walks_162 : decode cX12_walks 162 = .ok (.goto 65, 3) := by decide +kernel
theorem dX12_walks_165 : decode cX12_walks 165 = .ok (.aload_n 0, 1) := by decide +kernel
theorem dX12_walks_166 : decode cX12_walks 166 = .ok (.getfield 57, 3) := by decide +kernel
theorem dX12_walks_169 : decode cX12_walks 169 = .ok (.iload 7, 2) := by decide +kernel
theorem dX12_walks_171 : decode cX12_walks 171 = .ok (.aload_n 0, 1) := by decide +kernel
theorem dX12_walks_172 : decode cX12_walks 172 = .ok (.getfield 57, 3) := by decide +kernel
theorem dX12_walks_175 : decode cX12_walks 175 = .ok (.iload 5, 2) := by decide +kernel
theorem dX12_walks_177 : decode cX12_walks 177 = .ok (.iaload, 1) := by decide +kernel
theorem dX12_walks_178 : decode cX12_walks 178 = .ok (.iconst 1, 1) := by decide +kernel
theorem dX12_walks_179 : decode cX12_walks 179 = .ok (.iadd, 1) := by decide +kernel
theorem dX12_walks_180 : decode cX12_walks 180 = .ok (.sipush 10000, 3) := by decide +kernel
theorem dX12_walks_183 : decode cX12_walks 183 = .ok (.iload 8, 2) := by decide +kernel
theorem dX12_walks_185 : decode cX12_walks 185 = .ok (.imul, 1) := by decide +kernel
theorem dX12_walks_186 : decode cX12_walks 186 = .ok (.iadd, 1) := by decide +kernel
theorem dX12_walks_187 : decode cX12_walks 187 = .ok (.iastore, 1) := by decide +kernel
theorem dX12_walks_188 : decode cX12_walks 188 = .ok (.aload_n 0, 1) := by decide +kernel
theorem dX12_walks_189 : decode cX12_walks 189 = .ok (.getfield 63, 3) := by decide +kernel
theorem dX12_walks_192 : decode cX12_walks 192 = .ok (.iload 7, 2) := by decide +kernel
theorem dX12_walks_194 : decode cX12_walks 194 = .ok (.baload, 1) := by decide +kernel
theorem dX12_walks_195 : decode cX12_walks 195 = .ok (.ifCond .eq 6, 3) := by decide +kernel
theorem dX12_walks_198 : decode cX12_walks 198 = .ok (.goto 29, 3) := by decide +kernel
theorem dX12_walks_201 : decode cX12_walks 201 = .ok (.aload_n 0, 1) := by decide +kernel
theorem dX12_walks_202 : decode cX12_walks 202 = .ok (.getfield 63, 3) := by decide +kernel
theorem dX12_walks_205 : decode cX12_walks 205 = .ok (.iload 7, 2) := by decide +kernel
theorem dX12_walks_207 : decode cX12_walks 207 = .ok (.iconst 1, 1) := by decide +kernel
theorem dX12_walks_208 : decode cX12_walks 208 = .ok (.bastore, 1) := by decide +kernel
theorem dX12_walks_209 : decode cX12_walks 209 = .ok (.aload_n 0, 1) := by decide +kernel
theorem dX12_walks_210 : decode cX12_walks 210 = .ok (.getfield 60, 3) := by decide +kernel
theorem dX12_walks_213 : decode cX12_walks 213 = .ok (.iload_n 3, 1) := by decide +kernel
theorem dX12_walks_214 : decode cX12_walks 214 = .ok (.iload 4, 2) := by decide +kernel
theorem dX12_walks_216 : decode cX12_walks 216 = .ok (.iadd, 1) := by decide +kernel
theorem dX12_walks_217 : decode cX12_walks 217 = .ok (.sipush 1600, 3) := by decide +kernel
theorem dX12_walks_220 : decode cX12_walks 220 = .ok (.irem, 1) := by decide +kernel
theorem dX12_walks_221 : decode cX12_walks 221 = .ok (.iload 7, 2) := by decide +kernel
theorem dX12_walks_223 : decode cX12_walks 223 = .ok (.iastore, 1) := by decide +kernel
theorem dX12_walks_224 : decode cX12_walks 224 = .ok (.iinc 4 1, 3) := by decide +kernel
theorem dX12_walks_227 : decode cX12_walks 227 = .ok (.iinc 6 1, 3) := by decide +kernel
theorem dX12_walks_230 : decode cX12_walks 230 = .ok (.goto (-147), 3) := by decide +kernel
theorem dX12_walks_233 : decode cX12_walks 233 = .ok (.goto (-185), 3) := by decide +kernel
theorem dX12_walks_236 : decode cX12_walks 236 = .ok (.return_, 1) := by decide +kernel
theorem dX12_asks_0 : decode cX12_asks 0 = .ok (.iconst 0, 1) := by decide +kernel
theorem dX12_asks_1 : decode cX12_asks 1 = .ok (.istore 4, 2) := by decide +kernel
theorem dX12_asks_3 : decode cX12_asks 3 = .ok (.iload_n 3, 1) := by decide +kernel
theorem dX12_asks_4 : decode cX12_asks 4 = .ok (.istore 5, 2) := by decide +kernel
theorem dX12_asks_6 : decode cX12_asks 6 = .ok (.iload 5, 2) := by decide +kernel
theorem dX12_asks_8 : decode cX12_asks 8 = .ok (.iload_n 2, 1) := by decide +kernel
theorem dX12_asks_9 : decode cX12_asks 9 = .ok (.if_icmp .eq 138, 3) := by decide +kernel
theorem dX12_asks_12 : decode cX12_asks 12 = .ok (.iconst (-1), 1) := by decide +kernel
theorem dX12_asks_13 : decode cX12_asks 13 = .ok (.istore 6, 2) := by decide +kernel
theorem dX12_asks_15 : decode cX12_asks 15 = .ok (.iconst 0, 1) := by decide +kernel
theorem dX12_asks_16 : decode cX12_asks 16 = .ok (.istore 7, 2) := by decide +kernel
theorem dX12_asks_18 : decode cX12_asks 18 = .ok (.iload 7, 2) := by decide +kernel
theorem dX12_asks_20 : decode cX12_asks 20 = .ok (.iconst 4, 1) := by decide +kernel
theorem dX12_asks_21 : decode cX12_asks 21 = .ok (.if_icmp .ge 119, 3) := by decide +kernel
theorem dX12_asks_24 : decode cX12_asks 24 = .ok (.iload 6, 2) := by decide +kernel
theorem dX12_asks_26 : decode cX12_asks 26 = .ok (.ifCond .ge 114, 3) := by decide +kernel
theorem dX12_asks_29 : decode cX12_asks 29 = .ok (.aload_n 0, 1) := by decide +kernel
theorem dX12_asks_30 : decode cX12_asks 30 = .ok (.iload 5, 2) := by decide +kernel
theorem dX12_asks_32 : decode cX12_asks 32 = .ok (.iload 7, 2) := by decide +kernel
theorem dX12_asks_34 : decode cX12_asks 34 = .ok (.invokevirtual 516, 3) := by decide +kernel
theorem dX12_asks_37 : decode cX12_asks 37 = .ok (.istore 8, 2) := by decide +kernel
theorem dX12_asks_39 : decode cX12_asks 39 = .ok (.iload 8, 2) := by decide +kernel
theorem dX12_asks_41 : decode cX12_asks 41 = .ok (.ifCond .lt 93, 3) := by decide +kernel
theorem dX12_asks_44 : decode cX12_asks 44 = .ok (.aload_n 0, 1) := by decide +kernel
theorem dX12_asks_45 : decode cX12_asks 45 = .ok (.getfield 57, 3) := by decide +kernel
theorem dX12_asks_48 : decode cX12_asks 48 = .ok (.iload 8, 2) := by decide +kernel
theorem dX12_asks_50 : decode cX12_asks 50 = .ok (.iaload, 1) := by decide +kernel
theorem dX12_asks_51 : decode cX12_asks 51 = .ok (.ifCond .ge 6, 3) := by decide +kernel
theorem dX12_asks_54 : decode cX12_asks 54 = .ok (.goto 80, 3) := by decide +kernel
theorem dX12_asks_57 : decode cX12_asks 57 = .ok (.aload_n 0, 1) := by decide +kernel
theorem dX12_asks_58 : decode cX12_asks 58 = .ok (.iload_n 1, 1) := by decide +kernel
theorem dX12_asks_59 : decode cX12_asks 59 = .ok (.iload 5, 2) := by decide +kernel
theorem dX12_asks_61 : decode cX12_asks 61 = .ok (.iload 8, 2) := by decide +kernel
theorem dX12_asks_63 : decode cX12_asks 63 = .ok (.iload 7, 2) := by decide +kernel
theorem dX12_asks_65 : decode cX12_asks 65 = .ok (.invokevirtual 519, 3) := by decide +kernel
theorem dX12_asks_68 : decode cX12_asks 68 = .ok (.istore 9, 2) := by decide +kernel
theorem dX12_asks_70 : decode cX12_asks 70 = .ok (.iload 9, 2) := by decide +kernel
theorem dX12_asks_72 : decode cX12_asks 72 = .ok (.iconst (-1), 1) := by decide +kernel
theorem dX12_asks_73 : decode cX12_asks 73 = .ok (.if_icmp .eq 61, 3) := by decide +kernel
theorem dX12_asks_76 : decode cX12_asks 76 = .ok (.aload_n 0, 1) := by decide +kernel
theorem dX12_asks_77 : decode cX12_asks 77 = .ok (.getfield 57, 3) := by decide +kernel
theorem dX12_asks_80 : decode cX12_asks 80 = .ok (.iload 8, 2) := by decide +kernel
theorem dX12_asks_82 : decode cX12_asks 82 = .ok (.iaload, 1) := by decide +kernel
theorem dX12_asks_83 : decode cX12_asks 83 = .ok (.iconst 1, 1) := by decide +kernel
theorem dX12_asks_84 : decode cX12_asks 84 = .ok (.iadd, 1) := by decide +kernel
theorem dX12_asks_85 : decode cX12_asks 85 = .ok (.sipush 10000, 3) := by decide +kernel
theorem dX12_asks_88 : decode cX12_asks 88 = .ok (.iload 9, 2) := by decide +kernel
theorem dX12_asks_90 : decode cX12_asks 90 = .ok (.imul, 1) := by decide +kernel
theorem dX12_asks_91 : decode cX12_asks 91 = .ok (.iadd, 1) := by decide +kernel
theorem dX12_asks_92 : decode cX12_asks 92 = .ok (.aload_n 0, 1) := by decide +kernel
theorem dX12_asks_93 : decode cX12_asks 93 = .ok (.getfield 57, 3) := by decide +kernel
theorem dX12_asks_96 : decode cX12_asks 96 = .ok (.iload 5, 2) := by decide +kernel
theorem dX12_asks_98 : decode cX12_asks 98 = .ok (.iaload, 1) := by decide +kernel
theorem dX12_asks_99 : decode cX12_asks 99 = .ok (.if_icmp .eq 6, 3) := by decide +kernel
theorem dX12_asks_102 : decode cX12_asks 102 = .ok (.goto 32, 3) := by decide +kernel
theorem dX12_asks_105 : decode cX12_asks 105 = .ok (.iload 9, 2) := by decide +kernel
theorem dX12_asks_107 : decode cX12_asks 107 = .ok (.ifCond .le 23, 3) := by decide +kernel
theorem dX12_asks_110 : decode cX12_asks 110 = .ok (.iload 4, 2) := by decide +kernel
theorem dX12_asks_112 : decode cX12_asks 112 = .ok (.iconst 1, 1) := by decide +kernel
theorem dX12_asks_113 : decode cX12_asks 113 = .ok (.aload_n 0, 1) := by decide +kernel
theorem dX12_asks_114 : decode cX12_asks 114 = .ok (.aload_n 0, 1) := by decide +kernel
theorem dX12_asks_115 : decode cX12_asks 115 = .ok (.iload 5, 2) := by decide +kernel
theorem dX12_asks_117 : decode cX12_asks 117 = .ok (.iload 8, 2) := by decide +kernel
theorem dX12_asks_119 : decode cX12_asks 119 = .ok (.invokevirtual 513, 3) := by decide +kernel
theorem dX12_asks_122 : decode cX12_asks 122 = .ok (.iconst 5, 1) := by decide +kernel
theorem dX12_asks_123 : decode cX12_asks 123 = .ok (.invokevirtual 310, 3) := by decide +kernel
theorem dX12_asks_126 : decode cX12_asks 126 = .ok (.ishl, 1) := by decide +kernel
theorem dX12_asks_127 : decode cX12_asks 127 = .ok (.ior, 1) := by decide +kernel
theorem dX12_asks_128 : decode cX12_asks 128 = .ok (.istore 4, 2) := by decide +kernel
theorem dX12_asks_130 : decode cX12_asks 130 = .ok (.iload 8, 2) := by decide +kernel
theorem dX12_asks_132 : decode cX12_asks 132 = .ok (.istore 6, 2) := by decide +kernel
theorem dX12_asks_134 : decode cX12_asks 134 = .ok (.iinc 7 1, 3) := by decide +kernel
theorem dX12_asks_137 : decode cX12_asks 137 = .ok (.goto (-119), 3) := by decide +kernel
theorem dX12_asks_140 : decode cX12_asks 140 = .ok (.iload 6, 2) := by decide +kernel
theorem dX12_asks_142 : decode cX12_asks 142 = .ok (.istore 5, 2) := by decide +kernel
theorem dX12_asks_144 : decode cX12_asks 144 = .ok (.goto (-138), 3) := by decide +kernel
theorem dX12_asks_147 : decode cX12_asks 147 = .ok (.iload 4, 2) := by decide +kernel
theorem dX12_asks_149 : decode cX12_asks 149 = .ok (.ireturn, 1) := by decide +kernel
theorem dX12_errand_0 : decode cX12_errand 0 = .ok (.iload_n 1, 1) := by decide +kernel
theorem dX12_errand_1 : decode cX12_errand 1 = .ok (.i2l, 1) := by decide +kernel
theorem dX12_errand_2 : decode cX12_errand 2 = .ok (.lconst 0, 1) := by decide +kernel
theorem dX12_errand_3 : decode cX12_errand 3 = .ok (.ldc2_w 502, 3) := by decide +kernel
theorem dX12_errand_6 : decode cX12_errand 6 = .ok (.invokestatic 112, 3) := by decide +kernel
theorem dX12_errand_9 : decode cX12_errand 9 = .ok (.ifCond .eq 61, 3) := by decide +kernel
theorem dX12_errand_12 : decode cX12_errand 12 = .ok (.iload_n 2, 1) := by decide +kernel
theorem dX12_errand_13 : decode cX12_errand 13 = .ok (.invokestatic 395, 3) := by decide +kernel
theorem dX12_errand_16 : decode cX12_errand 16 = .ok (.ifCond .eq 54, 3) := by decide +kernel
theorem dX12_errand_19 : decode cX12_errand 19 = .ok (.iload_n 3, 1) := by decide +kernel
theorem dX12_errand_20 : decode cX12_errand 20 = .ok (.i2l, 1) := by decide +kernel
theorem dX12_errand_21 : decode cX12_errand 21 = .ok (.lconst 0, 1) := by decide +kernel
theorem dX12_errand_22 : decode cX12_errand 22 = .ok (.ldc2_w 536, 3) := by decide +kernel
theorem dX12_errand_25 : decode cX12_errand 25 = .ok (.invokestatic 112, 3) := by decide +kernel
theorem dX12_errand_28 : decode cX12_errand 28 = .ok (.ifCond .eq 42, 3) := by decide +kernel
theorem dX12_errand_31 : decode cX12_errand 31 = .ok (.iload 4, 2) := by decide +kernel
theorem dX12_errand_33 : decode cX12_errand 33 = .ok (.i2l, 1) := by decide +kernel
theorem dX12_errand_34 : decode cX12_errand 34 = .ok (.lconst 0, 1) := by decide +kernel
theorem dX12_errand_35 : decode cX12_errand 35 = .ok (.ldc2_w 536, 3) := by decide +kernel
theorem dX12_errand_38 : decode cX12_errand 38 = .ok (.invokestatic 112, 3) := by decide +kernel
theorem dX12_errand_41 : decode cX12_errand 41 = .ok (.ifCond .eq 29, 3) := by decide +kernel
theorem dX12_errand_44 : decode cX12_errand 44 = .ok (.iload 5, 2) := by decide +kernel
theorem dX12_errand_46 : decode cX12_errand 46 = .ok (.i2l, 1) := by decide +kernel
theorem dX12_errand_47 : decode cX12_errand 47 = .ok (.lconst 0, 1) := by decide +kernel
theorem dX12_errand_48 : decode cX12_errand 48 = .ok (.ldc2_w 536, 3) := by decide +kernel
theorem dX12_errand_51 : decode cX12_errand 51 = .ok (.invokestatic 112, 3) := by decide +kernel
theorem dX12_errand_54 : decode cX12_errand 54 = .ok (.ifCond .eq 16, 3) := by decide +kernel
theorem dX12_errand_57 : decode cX12_errand 57 = .ok (.iload 6, 2) := by decide +kernel
theorem dX12_errand_59 : decode cX12_errand 59 = .ok (.i2l, 1) := by decide +kernel
theorem dX12_errand_60 : decode cX12_errand 60 = .ok (.lconst 0, 1) := by decide +kernel
theorem dX12_errand_61 : decode cX12_errand 61 = .ok (.ldc2_w 536, 3) := by decide +kernel
theorem dX12_errand_64 : decode cX12_errand 64 = .ok (.invokestatic 112, 3) := by decide +kernel
theorem dX12_errand_67 : decode cX12_errand 67 = .ok (.ifCond .ne 5, 3) := by decide +kernel
theorem dX12_errand_70 : decode cX12_errand 70 = .ok (.iconst 0, 1) := by decide +kernel
theorem dX12_errand_71 : decode cX12_errand 71 = .ok (.ireturn, 1) := by decide +kernel
theorem dX12_errand_72 : decode cX12_errand 72 = .ok (.sipush 2400, 3) := by decide +kernel
theorem dX12_errand_75 : decode cX12_errand 75 = .ok (.bipush 6, 2) := by decide +kernel
theorem dX12_errand_77 : decode cX12_errand 77 = .ok (.iload_n 1, 1) := by decide +kernel
theorem dX12_errand_78 : decode cX12_errand 78 = .ok (.imul, 1) := by decide +kernel
theorem dX12_errand_79 : decode cX12_errand 79 = .ok (.iadd, 1) := by decide +kernel
theorem dX12_errand_80 : decode cX12_errand 80 = .ok (.istore 7, 2) := by decide +kernel
theorem dX12_errand_82 : decode cX12_errand 82 = .ok (.aload_n 0, 1) := by decide +kernel
theorem dX12_errand_83 : decode cX12_errand 83 = .ok (.getfield 48, 3) := by decide +kernel
theorem dX12_errand_86 : decode cX12_errand 86 = .ok (.iload 7, 2) := by decide +kernel
theorem dX12_errand_88 : decode cX12_errand 88 = .ok (.iconst 1, 1) := by decide +kernel
theorem dX12_errand_89 : decode cX12_errand 89 = .ok (.iastore, 1) := by decide +kernel
theorem dX12_errand_90 : decode cX12_errand 90 = .ok (.aload_n 0, 1) := by decide +kernel
theorem dX12_errand_91 : decode cX12_errand 91 = .ok (.getfield 48, 3) := by decide +kernel
theorem dX12_errand_94 : decode cX12_errand 94 = .ok (.iload 7, 2) := by decide +kernel
theorem dX12_errand_96 : decode cX12_errand 96 = .ok (.iconst 1, 1) := by decide +kernel
theorem dX12_errand_97 : decode cX12_errand 97 = .ok (.iadd, 1) := by decide +kernel
theorem dX12_errand_98 : decode cX12_errand 98 = .ok (.iload_n 2, 1) := by decide +kernel
theorem dX12_errand_99 : decode cX12_errand 99 = .ok (.iastore, 1) := by decide +kernel
theorem dX12_errand_100 : decode cX12_errand 100 = .ok (.aload_n 0, 1) := by decide +kernel
theorem dX12_errand_101 : decode cX12_errand 101 = .ok (.getfield 48, 3) := by decide +kernel
theorem dX12_errand_104 : decode cX12_errand 104 = .ok (.iload 7, 2) := by decide +kernel
theorem dX12_errand_106 : decode cX12_errand 106 = .ok (.iconst 2, 1) := by decide +kernel
theorem dX12_errand_107 : decode cX12_errand 107 = .ok (.iadd, 1) := by decide +kernel
theorem dX12_errand_108 : decode cX12_errand 108 = .ok (.iload_n 3, 1) := by decide +kernel
theorem dX12_errand_109 : decode cX12_errand 109 = .ok (.iastore, 1) := by decide +kernel
theorem dX12_errand_110 : decode cX12_errand 110 = .ok (.aload_n 0, 1) := by decide +kernel
theorem dX12_errand_111 : decode cX12_errand 111 = .ok (.getfield 48, 3) := by decide +kernel
theorem dX12_errand_114 : decode cX12_errand 114 = .ok (.iload 7, 2) := by decide +kernel
theorem dX12_errand_116 : decode cX12_errand 116 = .ok (.iconst 3, 1) := by decide +kernel
theorem dX12_errand_117 : decode cX12_errand 117 = .ok (.iadd, 1) := by decide +kernel
theorem dX12_errand_118 : decode cX12_errand 118 = .ok (.iload 4, 2) := by decide +kernel
theorem dX12_errand_120 : decode cX12_errand 120 = .ok (.iastore, 1) := by decide +kernel
theorem dX12_errand_121 : decode cX12_errand 121 = .ok (.aload_n 0, 1) := by decide +kernel
theorem dX12_errand_122 : decode cX12_errand 122 = .ok (.getfield 48, 3) := by decide +kernel
theorem dX12_errand_125 : decode cX12_errand 125 = .ok (.iload 7, 2) := by decide +kernel
theorem dX12_errand_127 : decode cX12_errand 127 = .ok (.iconst 4, 1) := by decide +kernel
theorem dX12_errand_128 : decode cX12_errand 128 = .ok (.iadd, 1) := by decide +kernel
theorem dX12_errand_129 : decode cX12_errand 129 = .ok (.iload 5, 2) := by decide +kernel
theorem dX12_errand_131 : decode cX12_errand 131 = .ok (.iastore, 1) := by decide +kernel
theorem dX12_errand_132 : decode cX12_errand 132 = .ok (.aload_n 0, 1) := by decide +kernel
theorem dX12_errand_133 : decode cX12_errand 133 = .ok (.getfield 48, 3) := by decide +kernel
theorem dX12_errand_136 : decode cX12_errand 136 = .ok (.iload 7, 2) := by decide +kernel
theorem dX12_errand_138 : decode cX12_errand 138 = .ok (.iconst 5, 1) := by decide +kernel
theorem dX12_errand_139 : decode cX12_errand 139 = .ok (.iadd, 1) := by decide +kernel
theorem dX12_errand_140 : decode cX12_errand 140 = .ok (.iload 6, 2) := by decide +kernel
theorem dX12_errand_142 : decode cX12_errand 142 = .ok (.iastore, 1) := by decide +kernel
theorem dX12_errand_143 : decode cX12_errand 143 = .ok (.iconst 1, 1) := by decide +kernel
theorem dX12_errand_144 : decode cX12_errand 144 = .ok (.ireturn, 1) := by decide +kernel
theorem dX12_sum__0 : decode cX12_sum_ 0 = .ok (.iload_n 1, 1) := by decide +kernel
theorem dX12_sum__1 : decode cX12_sum_ 1 = .ok (.i2l, 1) := by decide +kernel
theorem dX12_sum__2 : decode cX12_sum_ 2 = .ok (.lconst 0, 1) := by decide +kernel
theorem dX12_sum__3 : decode cX12_sum_ 3 = .ok (.lconst 1, 1) := by decide +kernel
theorem dX12_sum__4 : decode cX12_sum_ 4 = .ok (.invokestatic 112, 3) := by decide +kernel
theorem dX12_sum__7 : decode cX12_sum_ 7 = .ok (.ifCond .ne 5, 3) := by decide +kernel
theorem dX12_sum__10 : decode cX12_sum_ 10 = .ok (.iconst (-1), 1) := by decide +kernel
theorem dX12_sum__11 : decode cX12_sum_ 11 = .ok (.ireturn, 1) := by decide +kernel
theorem dX12_sum__12 : decode cX12_sum_ 12 = .ok (.aload_n 0, 1) := by decide +kernel
theorem dX12_sum__13 : decode cX12_sum_ 13 = .ok (.invokevirtual 544, 3) := by decide +kernel
theorem dX12_sum__16 : decode cX12_sum_ 16 = .ok (.iload_n 1, 1) := by decide +kernel
theorem dX12_sum__17 : decode cX12_sum_ 17 = .ok (.ifCond .ne 10, 3) := by decide +kernel
theorem dX12_sum__20 : decode cX12_sum_ 20 = .ok (.aload_n 0, 1) := by decide +kernel
theorem dX12_sum__21 : decode cX12_sum_ 21 = .ok (.getfield 538, 3) := by decide +kernel
theorem dX12_sum__24 : decode cX12_sum_ 24 = .ok (.goto 7, 3) := by decide +kernel
theorem dX12_sum__27 : decode cX12_sum_ 27 = .ok (.aload_n 0, 1) := by decide +kernel
theorem dX12_sum__28 : decode cX12_sum_ 28 = .ok (.getfield 541, 3) := by decide +kernel
theorem dX12_sum__31 : decode cX12_sum_ 31 = .ok (.ireturn, 1) := by decide +kernel
theorem dX12_keeps_0 : decode cX12_keeps 0 = .ok (.iconst 0, 1) := by decide +kernel
theorem dX12_keeps_1 : decode cX12_keeps 1 = .ok (.istore_n 1, 1) := by decide +kernel
theorem dX12_keeps_2 : decode cX12_keeps 2 = .ok (.iload_n 1, 1) := by decide +kernel
theorem dX12_keeps_3 : decode cX12_keeps 3 = .ok (.sipush 2440, 3) := by decide +kernel
theorem dX12_keeps_6 : decode cX12_keeps 6 = .ok (.if_icmp .ge 21, 3) := by decide +kernel
theorem dX12_keeps_9 : decode cX12_keeps 9 = .ok (.aload_n 0, 1) := by decide +kernel
theorem dX12_keeps_10 : decode cX12_keeps 10 = .ok (.getfield 51, 3) := by decide +kernel
theorem dX12_keeps_13 : decode cX12_keeps 13 = .ok (.iload_n 1, 1) := by decide +kernel
theorem dX12_keeps_14 : decode cX12_keeps 14 = .ok (.aload_n 0, 1) := by decide +kernel
theorem dX12_keeps_15 : decode cX12_keeps 15 = .ok (.getfield 48, 3) := by decide +kernel
theorem dX12_keeps_18 : decode cX12_keeps 18 = .ok (.iload_n 1, 1) := by decide +kernel
theorem dX12_keeps_19 : decode cX12_keeps 19 = .ok (.iaload, 1) := by decide +kernel
theorem dX12_keeps_20 : decode cX12_keeps 20 = .ok (.iastore, 1) := by decide +kernel
theorem dX12_keeps_21 : decode cX12_keeps 21 = .ok (.iinc 1 1, 3) := by decide +kernel
theorem dX12_keeps_24 : decode cX12_keeps 24 = .ok (.goto (-22), 3) := by decide +kernel
theorem dX12_keeps_27 : decode cX12_keeps 27 = .ok (.return_, 1) := by decide +kernel
theorem dX12_gains_0 : decode cX12_gains 0 = .ok (.aload_n 0, 1) := by decide +kernel
theorem dX12_gains_1 : decode cX12_gains 1 = .ok (.iload_n 1, 1) := by decide +kernel
theorem dX12_gains_2 : decode cX12_gains 2 = .ok (.invokevirtual 423, 3) := by decide +kernel
theorem dX12_gains_5 : decode cX12_gains 5 = .ok (.ifCond .ne 7, 3) := by decide +kernel
theorem dX12_gains_8 : decode cX12_gains 8 = .ok (.ldc_w 547, 3) := by decide +kernel
theorem dX12_gains_11 : decode cX12_gains 11 = .ok (.ireturn, 1) := by decide +kernel
theorem dX12_gains_12 : decode cX12_gains 12 = .ok (.aload_n 0, 1) := by decide +kernel
theorem dX12_gains_13 : decode cX12_gains 13 = .ok (.invokevirtual 544, 3) := by decide +kernel
theorem dX12_gains_16 : decode cX12_gains 16 = .ok (.aload_n 0, 1) := by decide +kernel
theorem dX12_gains_17 : decode cX12_gains 17 = .ok (.getfield 541, 3) := by decide +kernel
theorem dX12_gains_20 : decode cX12_gains 20 = .ok (.istore_n 2, 1) := by decide +kernel
theorem dX12_gains_21 : decode cX12_gains 21 = .ok (.aload_n 0, 1) := by decide +kernel
theorem dX12_gains_22 : decode cX12_gains 22 = .ok (.invokevirtual 548, 3) := by decide +kernel
theorem dX12_gains_25 : decode cX12_gains 25 = .ok (.aload_n 0, 1) := by decide +kernel
theorem dX12_gains_26 : decode cX12_gains 26 = .ok (.iload_n 1, 1) := by decide +kernel
theorem dX12_gains_27 : decode cX12_gains 27 = .ok (.invokevirtual 426, 3) := by decide +kernel
theorem dX12_gains_30 : decode cX12_gains 30 = .ok (.aload_n 0, 1) := by decide +kernel
theorem dX12_gains_31 : decode cX12_gains 31 = .ok (.invokevirtual 544, 3) := by decide +kernel
theorem dX12_gains_34 : decode cX12_gains 34 = .ok (.aload_n 0, 1) := by decide +kernel
theorem dX12_gains_35 : decode cX12_gains 35 = .ok (.invokevirtual 551, 3) := by decide +kernel
theorem dX12_gains_38 : decode cX12_gains 38 = .ok (.iload_n 2, 1) := by decide +kernel
theorem dX12_gains_39 : decode cX12_gains 39 = .ok (.aload_n 0, 1) := by decide +kernel
theorem dX12_gains_40 : decode cX12_gains 40 = .ok (.getfield 541, 3) := by decide +kernel
theorem dX12_gains_43 : decode cX12_gains 43 = .ok (.isub, 1) := by decide +kernel
theorem dX12_gains_44 : decode cX12_gains 44 = .ok (.ireturn, 1) := by decide +kernel
theorem dX12_draw_0 : decode cX12_draw 0 = .ok (.aload_n 0, 1) := by decide +kernel
theorem dX12_draw_1 : decode cX12_draw 1 = .ok (.getfield 48, 3) := by decide +kernel
theorem dX12_draw_4 : decode cX12_draw 4 = .ok (.iconst 4, 1) := by decide +kernel
theorem dX12_draw_5 : decode cX12_draw 5 = .ok (.iaload, 1) := by decide +kernel
theorem dX12_draw_6 : decode cX12_draw 6 = .ok (.i2l, 1) := by decide +kernel
theorem dX12_draw_7 : decode cX12_draw 7 = .ok (.ldc2_w 554, 3) := by decide +kernel
theorem dX12_draw_10 : decode cX12_draw 10 = .ok (.lmul, 1) := by decide +kernel
theorem dX12_draw_11 : decode cX12_draw 11 = .ok (.ldc2_w 556, 3) := by decide +kernel
theorem dX12_draw_14 : decode cX12_draw 14 = .ok (.ladd, 1) := by decide +kernel
theorem dX12_draw_15 : decode cX12_draw 15 = .ok (.ldc2_w 558, 3) := by decide +kernel
theorem dX12_draw_18 : decode cX12_draw 18 = .ok (.lrem, 1) := by decide +kernel
theorem dX12_draw_19 : decode cX12_draw 19 = .ok (.lstore_n 1, 1) := by decide +kernel
theorem dX12_draw_20 : decode cX12_draw 20 = .ok (.aload_n 0, 1) := by decide +kernel
theorem dX12_draw_21 : decode cX12_draw 21 = .ok (.getfield 48, 3) := by decide +kernel
theorem dX12_draw_24 : decode cX12_draw 24 = .ok (.iconst 4, 1) := by decide +kernel
theorem dX12_draw_25 : decode cX12_draw 25 = .ok (.lload_n 1, 1) := by decide +kernel
theorem dX12_draw_26 : decode cX12_draw 26 = .ok (.l2i, 1) := by decide +kernel
theorem dX12_draw_27 : decode cX12_draw 27 = .ok (.iastore, 1) := by decide +kernel
theorem dX12_draw_28 : decode cX12_draw 28 = .ok (.lload_n 1, 1) := by decide +kernel
theorem dX12_draw_29 : decode cX12_draw 29 = .ok (.ldc2_w 560, 3) := by decide +kernel
theorem dX12_draw_32 : decode cX12_draw 32 = .ok (.ldiv, 1) := by decide +kernel
theorem dX12_draw_33 : decode cX12_draw 33 = .ok (.l2i, 1) := by decide +kernel
theorem dX12_draw_34 : decode cX12_draw 34 = .ok (.ireturn, 1) := by decide +kernel
theorem dX12_years_0 : decode cX12_years 0 = .ok (.aload_n 0, 1) := by decide +kernel
theorem dX12_years_1 : decode cX12_years 1 = .ok (.iconst 0, 1) := by decide +kernel
theorem dX12_years_2 : decode cX12_years 2 = .ok (.iload_n 1, 1) := by decide +kernel
theorem dX12_years_3 : decode cX12_years 3 = .ok (.invokevirtual 402, 3) := by decide +kernel
theorem dX12_years_6 : decode cX12_years 6 = .ok (.ifCond .eq 29, 3) := by decide +kernel
theorem dX12_years_9 : decode cX12_years 9 = .ok (.iload_n 2, 1) := by decide +kernel
theorem dX12_years_10 : decode cX12_years 10 = .ok (.i2l, 1) := by decide +kernel
theorem dX12_years_11 : decode cX12_years 11 = .ok (.lconst 1, 1) := by decide +kernel
theorem dX12_years_12 : decode cX12_years 12 = .ok (.ldc2_w 565, 3) := by decide +kernel
theorem dX12_years_15 : decode cX12_years 15 = .ok (.invokestatic 112, 3) := by decide +kernel
theorem dX12_years_18 : decode cX12_years 18 = .ok (.ifCond .eq 17, 3) := by decide +kernel
theorem dX12_years_21 : decode cX12_years 21 = .ok (.aload_n 0, 1) := by decide +kernel
theorem dX12_years_22 : decode cX12_years 22 = .ok (.getfield 48, 3) := by decide +kernel
theorem dX12_years_25 : decode cX12_years 25 = .ok (.iconst 3, 1) := by decide +kernel
theorem dX12_years_26 : decode cX12_years 26 = .ok (.iaload, 1) := by decide +kernel
theorem dX12_years_27 : decode cX12_years 27 = .ok (.iload_n 2, 1) := by decide +kernel
theorem dX12_years_28 : decode cX12_years 28 = .ok (.iadd, 1) := by decide +kernel
theorem dX12_years_29 : decode cX12_years 29 = .ok (.sipush 9999, 3) := by decide +kernel
theorem dX12_years_32 : decode cX12_years 32 = .ok (.if_icmp .le 5, 3) := by decide +kernel
theorem dX12_years_35 : decode cX12_years 35 = .ok (.iconst (-1), 1) := by decide +kernel
theorem dX12_years_36 : decode cX12_years 36 = .ok (.ireturn, 1) := by decide +kernel
theorem dX12_years_37 : decode cX12_years 37 = .ok (.iconst 0, 1) := by decide +kernel
theorem dX12_years_38 : decode cX12_years 38 = .ok (.istore_n 3, 1) := by decide +kernel
theorem dX12_years_39 : decode cX12_years 39 = .ok (.iconst 0, 1) := by decide +kernel
theorem dX12_years_40 : decode cX12_years 40 = .ok (.istore 4, 2) := by decide +kernel
theorem dX12_years_42 : decode cX12_years 42 = .ok (.iload 4, 2) := by decide +kernel
theorem dX12_years_44 : decode cX12_years 44 = .ok (.iload_n 2, 1) := by decide +kernel
theorem dX12_years_45 : decode cX12_years 45 = .ok (.if_icmp .ge 17, 3) := by decide +kernel
theorem dX12_years_48 : decode cX12_years 48 = .ok (.iload_n 3, 1) := by decide +kernel
theorem dX12_years_49 : decode cX12_years 49 = .ok (.aload_n 0, 1) := by decide +kernel
theorem dX12_years_50 : decode cX12_years 50 = .ok (.iload_n 1, 1) := by decide +kernel
theorem dX12_years_51 : decode cX12_years 51 = .ok (.invokevirtual 567, 3) := by decide +kernel
theorem dX12_years_54 : decode cX12_years 54 = .ok (.iadd, 1) := by decide +kernel
theorem dX12_years_55 : decode cX12_years 55 = .ok (.istore_n 3, 1) := by decide +kernel
theorem dX12_years_56 : decode cX12_years 56 = .ok (.iinc 4 1, 3) := by decide +kernel
theorem dX12_years_59 : decode cX12_years 59 = .ok (.goto (-17), 3) := by decide +kernel
theorem dX12_years_62 : decode cX12_years 62 = .ok (.iload_n 3, 1) := by decide +kernel
theorem dX12_years_63 : decode cX12_years 63 = .ok (.ireturn, 1) := by decide +kernel
theorem dX12_deepest_0 : decode cX12_deepest 0 = .ok (.iconst 0, 1) := by decide +kernel
theorem dX12_deepest_1 : decode cX12_deepest 1 = .ok (.istore_n 1, 1) := by decide +kernel
theorem dX12_deepest_2 : decode cX12_deepest 2 = .ok (.bipush 6, 2) := by decide +kernel
theorem dX12_deepest_4 : decode cX12_deepest 4 = .ok (.istore_n 2, 1) := by decide +kernel
theorem dX12_deepest_5 : decode cX12_deepest 5 = .ok (.iload_n 2, 1) := by decide +kernel
theorem dX12_deepest_6 : decode cX12_deepest 6 = .ok (.bipush 30, 2) := by decide +kernel
theorem dX12_deepest_8 : decode cX12_deepest 8 = .ok (.if_icmp .ge 31, 3) := by decide +kernel
theorem dX12_deepest_11 : decode cX12_deepest 11 = .ok (.aload_n 0, 1) := by decide +kernel
theorem dX12_deepest_12 : decode cX12_deepest 12 = .ok (.iload_n 2, 1) := by decide +kernel
theorem dX12_deepest_13 : decode cX12_deepest 13 = .ok (.invokevirtual 314, 3) := by decide +kernel
theorem dX12_deepest_16 : decode cX12_deepest 16 = .ok (.ifCond .eq 15, 3) := by decide +kernel
theorem dX12_deepest_19 : decode cX12_deepest 19 = .ok (.iload_n 1, 1) := by decide +kernel
theorem dX12_deepest_20 : decode cX12_deepest 20 = .ok (.aload_n 0, 1) := by decide +kernel
theorem dX12_deepest_21 : decode cX12_deepest 21 = .ok (.iload_n 2, 1) := by decide +kernel
theorem dX12_deepest_22 : decode cX12_deepest 22 = .ok (.invokevirtual 351, 3) := by decide +kernel
theorem dX12_deepest_25 : decode cX12_deepest 25 = .ok (.invokestatic 473, 3) := by decide +kernel
theorem dX12_deepest_28 : decode cX12_deepest 28 = .ok (.goto 4, 3) := by decide +kernel
theorem dX12_deepest_31 : decode cX12_deepest 31 = .ok (.iload_n 1, 1) := by decide +kernel
theorem dX12_deepest_32 : decode cX12_deepest 32 = .ok (.istore_n 1, 1) := by decide +kernel
theorem dX12_deepest_33 : decode cX12_deepest 33 = .ok (.iinc 2 1, 3) := by decide +kernel
theorem dX12_deepest_36 : decode cX12_deepest 36 = .ok (.goto (-31), 3) := by decide +kernel
theorem dX12_deepest_39 : decode cX12_deepest 39 = .ok (.iload_n 1, 1) := by decide +kernel
theorem dX12_deepest_40 : decode cX12_deepest 40 = .ok (.ireturn, 1) := by decide +kernel
theorem dX12_count_0 : decode cX12_count 0 = .ok (.iload_n 1, 1) := by decide +kernel
theorem dX12_count_1 : decode cX12_count 1 = .ok (.tableswitch 87 0 8 #[51, 51, 51, 58, 63, 63, 72, 72, 82], 51) := by decide +kernel
theorem dX12_count_52 : decode cX12_count 52 = .ok (.aload_n 0, 1) := by decide +kernel
theorem dX12_count_53 : decode cX12_count 53 = .ok (.getfield 48, 3) := by decide +kernel
theorem dX12_count_56 : decode cX12_count 56 = .ok (.iload_n 1, 1) := by decide +kernel
theorem dX12_count_57 : decode cX12_count 57 = .ok (.iaload, 1) := by decide +kernel
theorem dX12_count_58 : decode cX12_count 58 = .ok (.ireturn, 1) := by decide +kernel
theorem dX12_count_59 : decode cX12_count 59 = .ok (.aload_n 0, 1) := by decide +kernel
theorem dX12_count_60 : decode cX12_count 60 = .ok (.invokevirtual 570, 3) := by decide +kernel
theorem dX12_count_63 : decode cX12_count 63 = .ok (.ireturn, 1) := by decide +kernel
theorem dX12_count_64 : decode cX12_count 64 = .ok (.aload_n 0, 1) := by decide +kernel
theorem dX12_count_65 : decode cX12_count 65 = .ok (.getfield 48, 3) := by decide +kernel
theorem dX12_count_68 : decode cX12_count 68 = .ok (.iload_n 1, 1) := by decide +kernel
theorem dX12_count_69 : decode cX12_count 69 = .ok (.iconst 1, 1) := by decide +kernel
theorem dX12_count_70 : decode cX12_count 70 = .ok (.isub, 1) := by decide +kernel
theorem dX12_count_71 : decode cX12_count 71 = .ok (.iaload, 1) := by decide +kernel
theorem dX12_count_72 : decode cX12_count 72 = .ok (.ireturn, 1) := by decide +kernel
theorem dX12_count_73 : decode cX12_count 73 = .ok (.aload_n 0, 1) := by decide +kernel
theorem dX12_count_74 : decode cX12_count 74 = .ok (.getfield 13, 3) := by decide +kernel
theorem dX12_count_77 : decode cX12_count 77 = .ok (.iload_n 1, 1) := by decide +kernel
theorem dX12_count_78 : decode cX12_count 78 = .ok (.bipush 6, 2) := by decide +kernel
theorem dX12_count_80 : decode cX12_count 80 = .ok (.isub, 1) := by decide +kernel
theorem dX12_count_81 : decode cX12_count 81 = .ok (.iaload, 1) := by decide +kernel
theorem dX12_count_82 : decode cX12_count 82 = .ok (.ireturn, 1) := by decide +kernel
theorem dX12_count_83 : decode cX12_count 83 = .ok (.aload_n 0, 1) := by decide +kernel
theorem dX12_count_84 : decode cX12_count 84 = .ok (.getfield 73, 3) := by decide +kernel
theorem dX12_count_87 : decode cX12_count 87 = .ok (.ireturn, 1) := by decide +kernel
theorem dX12_count_88 : decode cX12_count 88 = .ok (.iconst (-1), 1) := by decide +kernel
theorem dX12_count_89 : decode cX12_count 89 = .ok (.ireturn, 1) := by decide +kernel
theorem dX12_back_0 : decode cX12_back 0 = .ok (.iload_n 1, 1) := by decide +kernel
theorem dX12_back_1 : decode cX12_back 1 = .ok (.i2l, 1) := by decide +kernel
theorem dX12_back_2 : decode cX12_back 2 = .ok (.lconst 0, 1) := by decide +kernel
theorem dX12_back_3 : decode cX12_back 3 = .ok (.ldc2_w 432, 3) := by decide +kernel
theorem dX12_back_6 : decode cX12_back 6 = .ok (.invokestatic 112, 3) := by decide +kernel
theorem dX12_back_9 : decode cX12_back 9 = .ok (.ifCond .eq 12, 3) := by decide +kernel
theorem dX12_back_12 : decode cX12_back 12 = .ok (.aload_n 0, 1) := by decide +kernel
theorem dX12_back_13 : decode cX12_back 13 = .ok (.getfield 70, 3) := by decide +kernel
theorem dX12_back_16 : decode cX12_back 16 = .ok (.iload_n 1, 1) := by decide +kernel
theorem dX12_back_17 : decode cX12_back 17 = .ok (.baload, 1) := by decide +kernel
theorem dX12_back_18 : decode cX12_back 18 = .ok (.ifCond .ne 5, 3) := by decide +kernel
theorem dX12_back_21 : decode cX12_back 21 = .ok (.iconst (-1), 1) := by decide +kernel
theorem dX12_back_22 : decode cX12_back 22 = .ok (.ireturn, 1) := by decide +kernel
theorem dX12_back_23 : decode cX12_back 23 = .ok (.iconst 0, 1) := by decide +kernel
theorem dX12_back_24 : decode cX12_back 24 = .ok (.istore_n 2, 1) := by decide +kernel
theorem dX12_back_25 : decode cX12_back 25 = .ok (.iload_n 2, 1) := by decide +kernel
theorem dX12_back_26 : decode cX12_back 26 = .ok (.sipush 2440, 3) := by decide +kernel
theorem dX12_back_29 : decode cX12_back 29 = .ok (.if_icmp .ge 27, 3) := by decide +kernel
theorem dX12_back_32 : decode cX12_back 32 = .ok (.aload_n 0, 1) := by decide +kernel
theorem dX12_back_33 : decode cX12_back 33 = .ok (.getfield 48, 3) := by decide +kernel
theorem dX12_back_36 : decode cX12_back 36 = .ok (.iload_n 2, 1) := by decide +kernel
theorem dX12_back_37 : decode cX12_back 37 = .ok (.aload_n 0, 1) := by decide +kernel
theorem dX12_back_38 : decode cX12_back 38 = .ok (.getfield 67, 3) := by decide +kernel
theorem dX12_back_41 : decode cX12_back 41 = .ok (.sipush 2440, 3) := by decide +kernel
theorem dX12_back_44 : decode cX12_back 44 = .ok (.iload_n 1, 1) := by decide +kernel
theorem dX12_back_45 : decode cX12_back 45 = .ok (.imul, 1) := by decide +kernel
theorem dX12_back_46 : decode cX12_back 46 = .ok (.iload_n 2, 1) := by decide +kernel
theorem dX12_back_47 : decode cX12_back 47 = .ok (.iadd, 1) := by decide +kernel
theorem dX12_back_48 : decode cX12_back 48 = .ok (.iaload, 1) := by decide +kernel
theorem dX12_back_49 : decode cX12_back 49 = .ok (.iastore, 1) := by decide +kernel
theorem dX12_back_50 : decode cX12_back 50 = .ok (.iinc 2 1, 3) := by decide +kernel
theorem dX12_back_53 : decode cX12_back 53 = .ok (.goto (-28), 3) := by decide +kernel
theorem dX12_back_56 : decode cX12_back 56 = .ok (.aload_n 0, 1) := by decide +kernel
theorem dX12_back_57 : decode cX12_back 57 = .ok (.invokevirtual 570, 3) := by decide +kernel
theorem dX12_back_60 : decode cX12_back 60 = .ok (.ireturn, 1) := by decide +kernel
