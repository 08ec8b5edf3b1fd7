theorem dX12_in_0 : decode cX12_in 0 = .ok (.lload_n 0, 1) := by decide +kernel
theorem dX12_in_1 : decode cX12_in 1 = .ok (.lload_n 2, 1) := by decide +kernel
theorem dX12_in_2 : decode cX12_in 2 = .ok (.lcmp, 1) := by decide +kernel
theorem dX12_in_3 : decode cX12_in 3 = .ok (.ifCond .lt 14, 3) := by decide +kernel
theorem dX12_in_6 : decode cX12_in 6 = .ok (.lload_n 0, 1) := by decide +kernel
theorem dX12_in_7 : decode cX12_in 7 = .ok (.lload 4, 2) := by decide +kernel
theorem dX12_in_9 : decode cX12_in 9 = .ok (.lcmp, 1) := by decide +kernel
theorem dX12_in_10 : decode cX12_in 10 = .ok (.ifCond .gt 7, 3) := by decide +kernel
theorem dX12_in_13 : decode cX12_in 13 = .ok (.iconst 1, 1) := by decide +kernel
theorem dX12_in_14 : decode cX12_in 14 = .ok (.goto 4, 3) := by decide +kernel
theorem dX12_in_17 : decode cX12_in 17 = .ok (.iconst 0, 1) := by decide +kernel
theorem dX12_in_18 : decode cX12_in 18 = .ok (.ireturn, 1) := by decide +kernel
theorem dX12_four_0 : decode cX12_four 0 = .ok (.bipush 24, 2) := by decide +kernel
theorem dX12_four_2 : decode cX12_four 2 = .ok (.istore_n 2, 1) := by decide +kernel
theorem dX12_four_3 : decode cX12_four 3 = .ok (.iload_n 2, 1) := by decide +kernel
theorem dX12_four_4 : decode cX12_four 4 = .ok (.ifCond .lt 32, 3) := by decide +kernel
theorem dX12_four_7 : decode cX12_four 7 = .ok (.aload_n 0, 1) := by decide +kernel
theorem dX12_four_8 : decode cX12_four 8 = .ok (.getfield 7, 3) := by decide +kernel
theorem dX12_four_11 : decode cX12_four 11 = .ok (.aload_n 0, 1) := by decide +kernel
theorem dX12_four_12 : decode cX12_four 12 = .ok (.getfield 73, 3) := by decide +kernel
theorem dX12_four_15 : decode cX12_four 15 = .ok (.iload_n 1, 1) := by decide +kernel
theorem dX12_four_16 : decode cX12_four 16 = .ok (.iload_n 2, 1) := by decide +kernel
theorem dX12_four_17 : decode cX12_four 17 = .ok (.ishr, 1) := by decide +kernel
theorem dX12_four_18 : decode cX12_four 18 = .ok (.i2b, 1) := by decide +kernel
theorem dX12_four_19 : decode cX12_four 19 = .ok (.bastore, 1) := by decide +kernel
theorem dX12_four_20 : decode cX12_four 20 = .ok (.aload_n 0, 1) := by decide +kernel
theorem dX12_four_21 : decode cX12_four 21 = .ok (.dup, 1) := by decide +kernel
theorem dX12_four_22 : decode cX12_four 22 = .ok (.getfield 73, 3) := by decide +kernel
theorem dX12_four_25 : decode cX12_four 25 = .ok (.iconst 1, 1) := by decide +kernel
theorem dX12_four_26 : decode cX12_four 26 = .ok (.iadd, 1) := by decide +kernel
theorem dX12_four_27 : decode cX12_four 27 = .ok (.putfield 73, 3) := by decide +kernel
theorem dX12_four_30 : decode cX12_four 30 = .ok (.iinc 2 (-8), 3) := by decide +kernel
theorem dX12_four_33 : decode cX12_four 33 = .ok (.goto (-30), 3) := by decide +kernel
theorem dX12_four_36 : decode cX12_four 36 = .ok (.return_, 1) := by decide +kernel
theorem dX12_end_0 : decode cX12_end 0 = .ok (.iload_n 1, 1) := by decide +kernel
theorem dX12_end_1 : decode cX12_end 1 = .ok (.ifCond .lt 11, 3) := by decide +kernel
theorem dX12_end_4 : decode cX12_end 4 = .ok (.iload_n 1, 1) := by decide +kernel
theorem dX12_end_5 : decode cX12_end 5 = .ok (.aload_n 0, 1) := by decide +kernel
theorem dX12_end_6 : decode cX12_end 6 = .ok (.getfield 73, 3) := by decide +kernel
theorem dX12_end_9 : decode cX12_end 9 = .ok (.if_icmp .le 5, 3) := by decide +kernel
theorem dX12_end_12 : decode cX12_end 12 = .ok (.iconst (-1), 1) := by decide +kernel
theorem dX12_end_13 : decode cX12_end 13 = .ok (.ireturn, 1) := by decide +kernel
theorem dX12_end_14 : decode cX12_end 14 = .ok (.aload_n 0, 1) := by decide +kernel
theorem dX12_end_15 : decode cX12_end 15 = .ok (.iload_n 1, 1) := by decide +kernel
theorem dX12_end_16 : decode cX12_end 16 = .ok (.putfield 73, 3) := by decide +kernel
theorem dX12_end_19 : decode cX12_end 19 = .ok (.iload_n 1, 1) := by decide +kernel
theorem dX12_end_20 : decode cX12_end 20 = .ok (.ireturn, 1) := by decide +kernel
theorem dX12_see_0 : decode cX12_see 0 = .ok (.aload_n 0, 1) := by decide +kernel
theorem dX12_see_1 : decode cX12_see 1 = .ok (.getfield 84, 3) := by decide +kernel
theorem dX12_see_4 : decode cX12_see 4 = .ok (.aload_n 0, 1) := by decide +kernel
theorem dX12_see_5 : decode cX12_see 5 = .ok (.getfield 73, 3) := by decide +kernel
theorem dX12_see_8 : decode cX12_see 8 = .ok (.if_icmp .ge 30, 3) := by decide +kernel
theorem dX12_see_11 : decode cX12_see 11 = .ok (.aload_n 0, 1) := by decide +kernel
theorem dX12_see_12 : decode cX12_see 12 = .ok (.getfield 7, 3) := by decide +kernel
theorem dX12_see_15 : decode cX12_see 15 = .ok (.aload_n 0, 1) := by decide +kernel
theorem dX12_see_16 : decode cX12_see 16 = .ok (.getfield 84, 3) := by decide +kernel
theorem dX12_see_19 : decode cX12_see 19 = .ok (.baload, 1) := by decide +kernel
theorem dX12_see_20 : decode cX12_see 20 = .ok (.bipush 32, 2) := by decide +kernel
theorem dX12_see_22 : decode cX12_see 22 = .ok (.if_icmp .ne 16, 3) := by decide +kernel
theorem dX12_see_25 : decode cX12_see 25 = .ok (.aload_n 0, 1) := by decide +kernel
theorem dX12_see_26 : decode cX12_see 26 = .ok (.dup, 1) := by decide +kernel
theorem dX12_see_27 : decode cX12_see 27 = .ok (.getfield 84, 3) := by decide +kernel
theorem dX12_see_30 : decode cX12_see 30 = .ok (.iconst 1, 1) := by decide +kernel
theorem dX12_see_31 : decode cX12_see 31 = .ok (.iadd, 1) := by decide +kernel
theorem dX12_see_32 : decode cX12_see 32 = .ok (.putfield 84, 3) := by decide +kernel
theorem dX12_see_35 : decode cX12_see 35 = .ok (.goto (-35), 3) := by decide +kernel
theorem dX12_see_38 : decode cX12_see 38 = .ok (.aload_n 0, 1) := by decide +kernel
theorem dX12_see_39 : decode cX12_see 39 = .ok (.getfield 84, 3) := by decide +kernel
theorem dX12_see_42 : decode cX12_see 42 = .ok (.aload_n 0, 1) := by decide +kernel
theorem dX12_see_43 : decode cX12_see 43 = .ok (.getfield 73, 3) := by decide +kernel
theorem dX12_see_46 : decode cX12_see 46 = .ok (.if_icmp .ge 19, 3) := by decide +kernel
theorem dX12_see_49 : decode cX12_see 49 = .ok (.aload_n 0, 1) := by decide +kernel
theorem dX12_see_50 : decode cX12_see 50 = .ok (.getfield 7, 3) := by decide +kernel
theorem dX12_see_53 : decode cX12_see 53 = .ok (.aload_n 0, 1) := by decide +kernel
theorem dX12_see_54 : decode cX12_see 54 = .ok (.getfield 84, 3) := by decide +kernel
theorem dX12_see_57 : decode cX12_see 57 = .ok (.baload, 1) := by decide +kernel
theorem dX12_see_58 : decode cX12_see 58 = .ok (.sipush 255, 3) := by decide +kernel
theorem dX12_see_61 : decode cX12_see 61 = .ok (.iand, 1) := by decide +kernel
theorem dX12_see_62 : decode cX12_see 62 = .ok (.goto 4, 3) := by decide +kernel
theorem dX12_see_65 : decode cX12_see 65 = .ok (.iconst (-1), 1) := by decide +kernel
theorem dX12_see_66 : decode cX12_see 66 = .ok (.ireturn, 1) := by decide +kernel
theorem dX12_isLetter_0 : decode cX12_isLetter 0 = .ok (.iload_n 1, 1) := by decide +kernel
theorem dX12_isLetter_1 : decode cX12_isLetter 1 = .ok (.aload_n 0, 1) := by decide +kernel
theorem dX12_isLetter_2 : decode cX12_isLetter 2 = .ok (.getfield 73, 3) := by decide +kernel
theorem dX12_isLetter_5 : decode cX12_isLetter 5 = .ok (.if_icmp .ge 29, 3) := by decide +kernel
theorem dX12_isLetter_8 : decode cX12_isLetter 8 = .ok (.aload_n 0, 1) := by decide +kernel
theorem dX12_isLetter_9 : decode cX12_isLetter 9 = .ok (.getfield 7, 3) := by decide +kernel
theorem dX12_isLetter_12 : decode cX12_isLetter 12 = .ok (.iload_n 1, 1) := by decide +kernel
theorem dX12_isLetter_13 : decode cX12_isLetter 13 = .ok (.baload, 1) := by decide +kernel
theorem dX12_isLetter_14 : decode cX12_isLetter 14 = .ok (.bipush 97, 2) := by decide +kernel
theorem dX12_isLetter_16 : decode cX12_isLetter 16 = .ok (.if_icmp .lt 18, 3) := by decide +kernel
theorem dX12_isLetter_19 : decode cX12_isLetter 19 = .ok (.aload_n 0, 1) := by decide +kernel
theorem dX12_isLetter_20 : decode cX12_isLetter 20 = .ok (.getfield 7, 3) := by decide +kernel
theorem dX12_isLetter_23 : decode cX12_isLetter 23 = .ok (.iload_n 1, 1) := by decide +kernel
theorem dX12_isLetter_24 : decode cX12_isLetter 24 = .ok (.baload, 1) := by decide +kernel
theorem dX12_isLetter_25 : decode cX12_isLetter 25 = .ok (.bipush 122, 2) := by decide +kernel
theorem dX12_isLetter_27 : decode cX12_isLetter 27 = .ok (.if_icmp .gt 7, 3) := by decide +kernel
theorem dX12_isLetter_30 : decode cX12_isLetter 30 = .ok (.iconst 1, 1) := by decide +kernel
theorem dX12_isLetter_31 : decode cX12_isLetter 31 = .ok (.goto 4, 3) := by decide +kernel
theorem dX12_isLetter_34 : decode cX12_isLetter 34 = .ok (.iconst 0, 1) := by decide +kernel
theorem dX12_isLetter_35 : decode cX12_isLetter 35 = .ok (.ireturn, 1) := by decide +kernel
theorem dX12_passWord_0 : decode cX12_passWord 0 = .ok (.aload_n 0, 1) := by decide +kernel
theorem dX12_passWord_1 : decode cX12_passWord 1 = .ok (.aload_n 0, 1) := by decide +kernel
theorem dX12_passWord_2 : decode cX12_passWord 2 = .ok (.getfield 84, 3) := by decide +kernel
theorem dX12_passWord_5 : decode cX12_passWord 5 = .ok (.invokevirtual 91, 3) := by decide +kernel
theorem dX12_passWord_8 : decode cX12_passWord 8 = .ok (.ifCond .eq 16, 3) := by decide +kernel
theorem dX12_passWord_11 : decode cX12_passWord 11 = .ok (.aload_n 0, 1) := by decide +kernel
theorem dX12_passWord_12 : decode cX12_passWord 12 = .ok (.dup, 1) := by decide +kernel
theorem dX12_passWord_13 : decode cX12_passWord 13 = .ok (.getfield 84, 3) := by decide +kernel
theorem dX12_passWord_16 : decode cX12_passWord 16 = .ok (.iconst 1, 1) := by decide +kernel
theorem dX12_passWord_17 : decode cX12_passWord 17 = .ok (.iadd, 1) := by decide +kernel
theorem dX12_passWord_18 : decode cX12_passWord 18 = .ok (.putfield 84, 3) := by decide +kernel
theorem dX12_passWord_21 : decode cX12_passWord 21 = .ok (.goto (-21), 3) := by decide +kernel
theorem dX12_passWord_24 : decode cX12_passWord 24 = .ok (.return_, 1) := by decide +kernel
theorem dX12_numberHere_0 : decode cX12_numberHere 0 = .ok (.aload_n 0, 1) := by decide +kernel
theorem dX12_numberHere_1 : decode cX12_numberHere 1 = .ok (.invokevirtual 87, 3) := by decide +kernel
theorem dX12_numberHere_4 : decode cX12_numberHere 4 = .ok (.pop, 1) := by decide +kernel
theorem dX12_numberHere_5 : decode cX12_numberHere 5 = .ok (.aload_n 0, 1) := by decide +kernel
theorem dX12_numberHere_6 : decode cX12_numberHere 6 = .ok (.aload_n 0, 1) := by decide +kernel
theorem dX12_numberHere_7 : decode cX12_numberHere 7 = .ok (.getfield 84, 3) := by decide +kernel
theorem dX12_numberHere_10 : decode cX12_numberHere 10 = .ok (.invokevirtual 102, 3) := by decide +kernel
theorem dX12_numberHere_13 : decode cX12_numberHere 13 = .ok (.ifCond .ne 13, 3) := by decide +kernel
theorem dX12_numberHere_16 : decode cX12_numberHere 16 = .ok (.aload_n 0, 1) := by decide +kernel
theorem dX12_numberHere_17 : decode cX12_numberHere 17 = .ok (.iconst 0, 1) := by decide +kernel
theorem dX12_numberHere_18 : decode cX12_numberHere 18 = .ok (.aload_n 0, 1) := by decide +kernel
theorem dX12_numberHere_19 : decode cX12_numberHere 19 = .ok (.getfield 84, 3) := by decide +kernel
theorem dX12_numberHere_22 : decode cX12_numberHere 22 = .ok (.invokevirtual 105, 3) := by decide +kernel
theorem dX12_numberHere_25 : decode cX12_numberHere 25 = .ok (.ireturn, 1) := by decide +kernel
theorem dX12_numberHere_26 : decode cX12_numberHere 26 = .ok (.aload_n 0, 1) := by decide +kernel
theorem dX12_numberHere_27 : decode cX12_numberHere 27 = .ok (.getfield 84, 3) := by decide +kernel
theorem dX12_numberHere_30 : decode cX12_numberHere 30 = .ok (.istore_n 3, 1) := by decide +kernel
theorem dX12_numberHere_31 : decode cX12_numberHere 31 = .ok (.iconst 0, 1) := by decide +kernel
theorem dX12_numberHere_32 : decode cX12_numberHere 32 = .ok (.istore 4, 2) := by decide +kernel
theorem dX12_numberHere_34 : decode cX12_numberHere 34 = .ok (.aload_n 0, 1) := by decide +kernel
theorem dX12_numberHere_35 : decode cX12_numberHere 35 = .ok (.aload_n 0, 1) := by decide +kernel
theorem dX12_numberHere_36 : decode cX12_numberHere 36 = .ok (.getfield 84, 3) := by decide +kernel
theorem dX12_numberHere_39 : decode cX12_numberHere 39 = .ok (.invokevirtual 102, 3) := by decide +kernel
theorem dX12_numberHere_42 : decode cX12_numberHere 42 = .ok (.ifCond .eq 46, 3) := by decide +kernel
theorem dX12_numberHere_45 : decode cX12_numberHere 45 = .ok (.aload_n 0, 1) := by decide +kernel
theorem dX12_numberHere_46 : decode cX12_numberHere 46 = .ok (.getfield 84, 3) := by decide +kernel
theorem dX12_numberHere_49 : decode cX12_numberHere 49 = .ok (.iload_n 3, 1) := by decide +kernel
theorem dX12_numberHere_50 : decode cX12_numberHere 50 = .ok (.isub, 1) := by decide +kernel
theorem dX12_numberHere_51 : decode cX12_numberHere 51 = .ok (.iconst 5, 1) := by decide +kernel
theorem dX12_numberHere_52 : decode cX12_numberHere 52 = .ok (.if_icmp .ge 23, 3) := by decide +kernel
theorem dX12_numberHere_55 : decode cX12_numberHere 55 = .ok (.bipush 10, 2) := by decide +kernel
theorem dX12_numberHere_57 : decode cX12_numberHere 57 = .ok (.iload 4, 2) := by decide +kernel
theorem dX12_numberHere_59 : decode cX12_numberHere 59 = .ok (.imul, 1) := by decide +kernel
theorem dX12_numberHere_60 : decode cX12_numberHere 60 = .ok (.aload_n 0, 1) := by decide +kernel
theorem dX12_numberHere_61 : decode cX12_numberHere 61 = .ok (.getfield 7, 3) := by decide +kernel
theorem dX12_numberHere_64 : decode cX12_numberHere 64 = .ok (.aload_n 0, 1) := by decide +kernel
theorem dX12_numberHere_65 : decode cX12_numberHere 65 = .ok (.getfield 84, 3) := by decide +kernel
theorem dX12_numberHere_68 : decode cX12_numberHere 68 = .ok (.baload, 1) := by decide +kernel
theorem dX12_numberHere_69 : decode cX12_numberHere 69 = .ok (.iadd, 1) := by decide +kernel
theorem dX12_numberHere_70 : decode cX12_numberHere 70 = .ok (.bipush 48, 2) := by decide +kernel
theorem dX12_numberHere_72 : decode cX12_numberHere 72 = .ok (.isub, 1) := by decide +kernel
theorem dX12_numberHere_73 : decode cX12_numberHere 73 = .ok (.istore 4, 2) := by decide +kernel
theorem dX12_numberHere_75 : decode cX12_numberHere 75 = .ok (.aload_n 0, 1) := by decide +kernel
theorem dX12_numberHere_76 : decode cX12_numberHere 76 = .ok (.dup, 1) := by decide +kernel
theorem dX12_numberHere_77 : decode cX12_numberHere 77 = .ok (.getfield 84, 3) := by decide +kernel
theorem dX12_numberHere_80 : decode cX12_numberHere 80 = .ok (.iconst 1, 1) := by decide +kernel
theorem dX12_numberHere_81 : decode cX12_numberHere 81 = .ok (.iadd, 1) := by decide +kernel
theorem dX12_numberHere_82 : decode cX12_numberHere 82 = .ok (.putfield 84, 3) := by decide +kernel
theorem dX12_numberHere_85 : decode cX12_numberHere 85 = .ok (.goto (-51), 3) := by decide +kernel
theorem dX12_numberHere_88 : decode cX12_numberHere 88 = .ok (.aload_n 0, 1) := by decide +kernel
theorem dX12_numberHere_89 : decode cX12_numberHere 89 = .ok (.iload 4, 2) := by decide +kernel
theorem dX12_numberHere_91 : decode cX12_numberHere 91 = .ok (.putfield 109, 3) := by decide +kernel
theorem dX12_numberHere_94 : decode cX12_numberHere 94 = .ok (.aload_n 0, 1) := by decide +kernel
theorem dX12_numberHere_95 : decode cX12_numberHere 95 = .ok (.getfield 84, 3) := by decide +kernel
theorem dX12_numberHere_98 : decode cX12_numberHere 98 = .ok (.iload_n 3, 1) := by decide +kernel
theorem dX12_numberHere_99 : decode cX12_numberHere 99 = .ok (.isub, 1) := by decide +kernel
theorem dX12_numberHere_100 : decode cX12_numberHere 100 = .ok (.iconst 5, 1) := by decide +kernel
theorem dX12_numberHere_101 : decode cX12_numberHere 101 = .ok (.if_icmp .gt 16, 3) := by decide +kernel
theorem dX12_numberHere_104 : decode cX12_numberHere 104 = .ok (.iload 4, 2) := by decide +kernel
theorem dX12_numberHere_106 : decode cX12_numberHere 106 = .ok (.i2l, 1) := by decide +kernel
theorem dX12_numberHere_107 : decode cX12_numberHere 107 = .ok (.iload_n 1, 1) := by decide +kernel
theorem dX12_numberHere_108 : decode cX12_numberHere 108 = .ok (.i2l, 1) := by decide +kernel
theorem dX12_numberHere_109 : decode cX12_numberHere 109 = .ok (.iload_n 2, 1) := by decide +kernel
theorem dX12_numberHere_110 : decode cX12_numberHere 110 = .ok (.i2l, 1) := by decide +kernel
theorem dX12_numberHere_111 : decode cX12_numberHere 111 = .ok (.invokestatic 112, 3) := by decide +kernel
theorem dX12_numberHere_114 : decode cX12_numberHere 114 = .ok (.ifCond .ne 12, 3) := by decide +kernel
theorem dX12_numberHere_117 : decode cX12_numberHere 117 = .ok (.aload_n 0, 1) := by decide +kernel
theorem dX12_numberHere_118 : decode cX12_numberHere 118 = .ok (.iconst 1, 1) := by decide +kernel
theorem dX12_numberHere_119 : decode cX12_numberHere 119 = .ok (.iload_n 3, 1) := by decide +kernel
theorem dX12_numberHere_120 : decode cX12_numberHere 120 = .ok (.invokevirtual 105, 3) := by decide +kernel
theorem dX12_numberHere_123 : decode cX12_numberHere 123 = .ok (.ifCond .eq 7, 3) := by decide +kernel
theorem dX12_numberHere_126 : decode cX12_numberHere 126 = .ok (.iconst 1, 1) := by decide +kernel
theorem dX12_numberHere_127 : decode cX12_numberHere 127 = .ok (.goto 4, 3) := by decide +kernel
theorem dX12_numberHere_130 : decode cX12_numberHere 130 = .ok (.iconst 0, 1) := by decide +kernel
theorem dX12_numberHere_131 : decode cX12_numberHere 131 = .ok (.ireturn, 1) := by decide +kernel
theorem dX12_puts_0 : decode cX12_puts 0 = .ok (.aload_n 0, 1) := by decide +kernel
theorem dX12_puts_1 : decode cX12_puts 1 = .ok (.getfield 17, 3) := by decide +kernel
theorem dX12_puts_4 : decode cX12_puts 4 = .ok (.sipush 400, 3) := by decide +kernel
theorem dX12_puts_7 : decode cX12_puts 7 = .ok (.aload_n 0, 1) := by decide +kernel
theorem dX12_puts_8 : decode cX12_puts 8 = .ok (.getfield 140, 3) := by decide +kernel
theorem dX12_puts_11 : decode cX12_puts 11 = .ok (.imul, 1) := by decide +kernel
theorem dX12_puts_12 : decode cX12_puts 12 = .ok (.aload_n 0, 1) := by decide +kernel
theorem dX12_puts_13 : decode cX12_puts 13 = .ok (.getfield 20, 3) := by decide +kernel
theorem dX12_puts_16 : decode cX12_puts 16 = .ok (.aload_n 0, 1) := by decide +kernel
theorem dX12_puts_17 : decode cX12_puts 17 = .ok (.getfield 140, 3) := by decide +kernel
theorem dX12_puts_20 : decode cX12_puts 20 = .ok (.iaload, 1) := by decide +kernel
theorem dX12_puts_21 : decode cX12_puts 21 = .ok (.iadd, 1) := by decide +kernel
theorem dX12_puts_22 : decode cX12_puts 22 = .ok (.iload_n 1, 1) := by decide +kernel
theorem dX12_puts_23 : decode cX12_puts 23 = .ok (.bipush 16, 2) := by decide +kernel
theorem dX12_puts_25 : decode cX12_puts 25 = .ok (.iload_n 2, 1) := by decide +kernel
theorem dX12_puts_26 : decode cX12_puts 26 = .ok (.imul, 1) := by decide +kernel
theorem dX12_puts_27 : decode cX12_puts 27 = .ok (.iadd, 1) := by decide +kernel
theorem dX12_puts_28 : decode cX12_puts 28 = .ok (.iastore, 1) := by decide +kernel
theorem dX12_puts_29 : decode cX12_puts 29 = .ok (.aload_n 0, 1) := by decide +kernel
theorem dX12_puts_30 : decode cX12_puts 30 = .ok (.getfield 20, 3) := by decide +kernel
theorem dX12_puts_33 : decode cX12_puts 33 = .ok (.aload_n 0, 1) := by decide +kernel
theorem dX12_puts_34 : decode cX12_puts 34 = .ok (.getfield 140, 3) := by decide +kernel
theorem dX12_puts_37 : decode cX12_puts 37 = .ok (.dup2, 1) := by decide +kernel
theorem dX12_puts_38 : decode cX12_puts 38 = .ok (.iaload, 1) := by decide +kernel
theorem dX12_puts_39 : decode cX12_puts 39 = .ok (.iconst 1, 1) := by decide +kernel
theorem dX12_puts_40 : decode cX12_puts 40 = .ok (.iadd, 1) := by decide +kernel
theorem dX12_puts_41 : decode cX12_puts 41 = .ok (.iastore, 1) := by decide +kernel
theorem dX12_puts_42 : decode cX12_puts 42 = .ok (.return_, 1) := by decide +kernel
theorem dX12_opens_0 : decode cX12_opens 0 = .ok (.aload_n 0, 1) := by decide +kernel
theorem dX12_opens_1 : decode cX12_opens 1 = .ok (.getfield 146, 3) := by decide +kernel
theorem dX12_opens_4 : decode cX12_opens 4 = .ok (.bipush 10, 2) := by decide +kernel
theorem dX12_opens_6 : decode cX12_opens 6 = .ok (.if_icmp .ne 13, 3) := by decide +kernel
theorem dX12_opens_9 : decode cX12_opens 9 = .ok (.aload_n 0, 1) := by decide +kernel
theorem dX12_opens_10 : decode cX12_opens 10 = .ok (.iconst 2, 1) := by decide +kernel
theorem dX12_opens_11 : decode cX12_opens 11 = .ok (.aload_n 0, 1) := by decide +kernel
theorem dX12_opens_12 : decode cX12_opens 12 = .ok (.getfield 84, 3) := by decide +kernel
theorem dX12_opens_15 : decode cX12_opens 15 = .ok (.invokevirtual 105, 3) := by decide +kernel
theorem dX12_opens_18 : decode cX12_opens 18 = .ok (.ireturn, 1) := by decide +kernel
theorem dX12_opens_19 : decode cX12_opens 19 = .ok (.aload_n 0, 1) := by decide +kernel
theorem dX12_opens_20 : decode cX12_opens 20 = .ok (.dup, 1) := by decide +kernel
theorem dX12_opens_21 : decode cX12_opens 21 = .ok (.getfield 146, 3) := by decide +kernel
theorem dX12_opens_24 : decode cX12_opens 24 = .ok (.iconst 1, 1) := by decide +kernel
theorem dX12_opens_25 : decode cX12_opens 25 = .ok (.iadd, 1) := by decide +kernel
theorem dX12_opens_26 : decode cX12_opens 26 = .ok (.putfield 146, 3) := by decide +kernel
theorem dX12_opens_29 : decode cX12_opens 29 = .ok (.aload_n 0, 1) := by decide +kernel
theorem dX12_opens_30 : decode cX12_opens 30 = .ok (.getfield 38, 3) := by decide +kernel
theorem dX12_opens_33 : decode cX12_opens 33 = .ok (.aload_n 0, 1) := by decide +kernel
theorem dX12_opens_34 : decode cX12_opens 34 = .ok (.getfield 149, 3) := by decide +kernel
theorem dX12_opens_37 : decode cX12_opens 37 = .ok (.iload_n 1, 1) := by decide +kernel
theorem dX12_opens_38 : decode cX12_opens 38 = .ok (.iastore, 1) := by decide +kernel
theorem dX12_opens_39 : decode cX12_opens 39 = .ok (.aload_n 0, 1) := by decide +kernel
theorem dX12_opens_40 : decode cX12_opens 40 = .ok (.dup, 1) := by decide +kernel
theorem dX12_opens_41 : decode cX12_opens 41 = .ok (.getfield 149, 3) := by decide +kernel
theorem dX12_opens_44 : decode cX12_opens 44 = .ok (.iconst 1, 1) := by decide +kernel
theorem dX12_opens_45 : decode cX12_opens 45 = .ok (.iadd, 1) := by decide +kernel
theorem dX12_opens_46 : decode cX12_opens 46 = .ok (.putfield 149, 3) := by decide +kernel
theorem dX12_opens_49 : decode cX12_opens 49 = .ok (.iconst 1, 1) := by decide +kernel
theorem dX12_opens_50 : decode cX12_opens 50 = .ok (.ireturn, 1) := by decide +kernel
theorem dX12_settles_0 : decode cX12_settles 0 = .ok (.aload_n 0, 1) := by decide +kernel
theorem dX12_settles_1 : decode cX12_settles 1 = .ok (.getfield 149, 3) := by decide +kernel
theorem dX12_settles_4 : decode cX12_settles 4 = .ok (.ifCond .le 72, 3) := by decide +kernel
theorem dX12_settles_7 : decode cX12_settles 7 = .ok (.aload_n 0, 1) := by decide +kernel
theorem dX12_settles_8 : decode cX12_settles 8 = .ok (.getfield 38, 3) := by decide +kernel
theorem dX12_settles_11 : decode cX12_settles 11 = .ok (.aload_n 0, 1) := by decide +kernel
theorem dX12_settles_12 : decode cX12_settles 12 = .ok (.getfield 149, 3) := by decide +kernel
theorem dX12_settles_15 : decode cX12_settles 15 = .ok (.iconst 1, 1) := by decide +kernel
theorem dX12_settles_16 : decode cX12_settles 16 = .ok (.isub, 1) := by decide +kernel
theorem dX12_settles_17 : decode cX12_settles 17 = .ok (.iaload, 1) := by decide +kernel
theorem dX12_settles_18 : decode cX12_settles 18 = .ok (.invokestatic 152, 3) := by decide +kernel
theorem dX12_settles_21 : decode cX12_settles 21 = .ok (.iload_n 1, 1) := by decide +kernel
theorem dX12_settles_22 : decode cX12_settles 22 = .ok (.if_icmp .lt 54, 3) := by decide +kernel
theorem dX12_settles_25 : decode cX12_settles 25 = .ok (.aload_n 0, 1) := by decide +kernel
theorem dX12_settles_26 : decode cX12_settles 26 = .ok (.dup, 1) := by decide +kernel
theorem dX12_settles_27 : decode cX12_settles 27 = .ok (.getfield 149, 3) := by decide +kernel
theorem dX12_settles_30 : decode cX12_settles 30 = .ok (.iconst 1, 1) := by decide +kernel
theorem dX12_settles_31 : decode cX12_settles 31 = .ok (.isub, 1) := by decide +kernel
theorem dX12_settles_32 : decode cX12_settles 32 = .ok (.putfield 149, 3) := by decide +kernel
theorem dX12_settles_35 : decode cX12_settles 35 = .ok (.aload_n 0, 1) := by decide +kernel
theorem dX12_settles_36 : decode cX12_settles 36 = .ok (.aload_n 0, 1) := by decide +kernel
theorem dX12_settles_37 : decode cX12_settles 37 = .ok (.getfield 38, 3) := by decide +kernel
theorem dX12_settles_40 : decode cX12_settles 40 = .ok (.aload_n 0, 1) := by decide +kernel
theorem dX12_settles_41 : decode cX12_settles 41 = .ok (.getfield 149, 3) := by decide +kernel
theorem dX12_settles_44 : decode cX12_settles 44 = .ok (.iaload, 1) := by decide +kernel
theorem dX12_settles_45 : decode cX12_settles 45 = .ok (.iconst 0, 1) := by decide +kernel
theorem dX12_settles_46 : decode cX12_settles 46 = .ok (.invokevirtual 156, 3) := by decide +kernel
theorem dX12_settles_49 : decode cX12_settles 49 = .ok (.aload_n 0, 1) := by decide +kernel
theorem dX12_settles_50 : decode cX12_settles 50 = .ok (.getfield 38, 3) := by decide +kernel
theorem dX12_settles_53 : decode cX12_settles 53 = .ok (.aload_n 0, 1) := by decide +kernel
theorem dX12_settles_54 : decode cX12_settles 54 = .ok (.getfield 149, 3) := by decide +kernel
theorem dX12_settles_57 : decode cX12_settles 57 = .ok (.iaload, 1) := by decide +kernel
theorem dX12_settles_58 : decode cX12_settles 58 = .ok (.bipush 11, 2) := by decide +kernel
theorem dX12_settles_60 : decode cX12_settles 60 = .ok (.if_icmp .ne (-60), 3) := by decide +kernel
theorem dX12_settles_63 : decode cX12_settles 63 = .ok (.aload_n 0, 1) := by decide +kernel
theorem dX12_settles_64 : decode cX12_settles 64 = .ok (.dup, 1) := by decide +kernel
theorem dX12_settles_65 : decode cX12_settles 65 = .ok (.getfield 146, 3) := by decide +kernel
theorem dX12_settles_68 : decode cX12_settles 68 = .ok (.iconst 1, 1) := by decide +kernel
theorem dX12_settles_69 : decode cX12_settles 69 = .ok (.isub, 1) := by decide +kernel
theorem dX12_settles_70 : decode cX12_settles 70 = .ok (.putfield 146, 3) := by decide +kernel
theorem dX12_settles_73 : decode cX12_settles 73 = .ok (.goto (-73), 3) := by decide +kernel
theorem dX12_settles_76 : decode cX12_settles 76 = .ok (.return_, 1) := by decide +kernel
theorem dX12_term_0 : decode cX12_term 0 = .ok (.aload_n 0, 1) := by decide +kernel
theorem dX12_term_1 : decode cX12_term 1 = .ok (.invokevirtual 170, 3) := by decide +kernel
theorem dX12_term_4 : decode cX12_term 4 = .ok (.ifCond .ne 5, 3) := by decide +kernel
theorem dX12_term_7 : decode cX12_term 7 = .ok (.iconst 0, 1) := by decide +kernel
theorem dX12_term_8 : decode cX12_term 8 = .ok (.ireturn, 1) := by decide +kernel
theorem dX12_term_9 : decode cX12_term 9 = .ok (.aload_n 0, 1) := by decide +kernel
theorem dX12_term_10 : decode cX12_term 10 = .ok (.invokevirtual 87, 3) := by decide +kernel
theorem dX12_term_13 : decode cX12_term 13 = .ok (.bipush 42, 2) := by decide +kernel
theorem dX12_term_15 : decode cX12_term 15 = .ok (.if_icmp .eq 12, 3) := by decide +kernel
theorem dX12_term_18 : decode cX12_term 18 = .ok (.aload_n 0, 1) := by decide +kernel
theorem dX12_term_19 : decode cX12_term 19 = .ok (.invokevirtual 87, 3) := by decide +kernel
theorem dX12_term_22 : decode cX12_term 22 = .ok (.bipush 47, 2) := by decide +kernel
theorem dX12_term_24 : decode cX12_term 24 = .ok (.if_icmp .ne 51, 3) := by decide +kernel
theorem dX12_term_27 : decode cX12_term 27 = .ok (.aload_n 0, 1) := by decide +kernel
theorem dX12_term_28 : decode cX12_term 28 = .ok (.getfield 7, 3) := by decide +kernel
theorem dX12_term_31 : decode cX12_term 31 = .ok (.aload_n 0, 1) := by decide +kernel
theorem dX12_term_32 : decode cX12_term 32 = .ok (.getfield 84, 3) := by decide +kernel
theorem dX12_term_35 : decode cX12_term 35 = .ok (.baload, 1) := by decide +kernel
theorem dX12_term_36 : decode cX12_term 36 = .ok (.bipush 42, 2) := by decide +kernel
theorem dX12_term_38 : decode cX12_term 38 = .ok (.if_icmp .ne 7, 3) := by decide +kernel
theorem dX12_term_41 : decode cX12_term 41 = .ok (.iconst 4, 1) := by decide +kernel
theorem dX12_term_42 : decode cX12_term 42 = .ok (.goto 4, 3) := by decide +kernel
theorem dX12_term_45 : decode cX12_term 45 = .ok (.iconst 5, 1) := by decide +kernel
theorem dX12_term_46 : decode cX12_term 46 = .ok (.istore_n 1, 1) := by decide +kernel
theorem dX12_term_47 : decode cX12_term 47 = .ok (.aload_n 0, 1) := by decide +kernel
theorem dX12_term_48 : decode cX12_term 48 = .ok (.dup, 1) := by decide +kernel
theorem dX12_term_49 : decode cX12_term 49 = .ok (.getfield 84, 3) := by decide +kernel
theorem dX12_term_52 : decode cX12_term 52 = .ok (.iconst 1, 1) := by decide +kernel
theorem dX12_term_53 : decode cX12_term 53 = .ok (.iadd, 1) := by decide +kernel
theorem dX12_term_54 : decode cX12_term 54 = .ok (.putfield 84, 3) := by decide +kernel
theorem dX12_term_57 : decode cX12_term 57 = .ok (.aload_n 0, 1) := by decide +kernel
theorem dX12_term_58 : decode cX12_term 58 = .ok (.invokevirtual 170, 3) := by decide +kernel
theorem dX12_term_61 : decode cX12_term 61 = .ok (.ifCond .ne 5, 3) := by decide +kernel
theorem dX12_term_64 : decode cX12_term 64 = .ok (.iconst 0, 1) := by decide +kernel
theorem dX12_term_65 : decode cX12_term 65 = .ok (.ireturn, 1) := by decide +kernel
theorem dX12_term_66 : decode cX12_term 66 = .ok (.aload_n 0, 1) := by decide +kernel
theorem dX12_term_67 : decode cX12_term 67 = .ok (.iload_n 1, 1) := by decide +kernel
theorem dX12_term_68 : decode cX12_term 68 = .ok (.iconst 0, 1) := by decide +kernel
theorem dX12_term_69 : decode cX12_term 69 = .ok (.invokevirtual 156, 3) := by decide +kernel
theorem dX12_term_72 : decode cX12_term 72 = .ok (.goto (-63), 3) := by decide +kernel
theorem dX12_term_75 : decode cX12_term 75 = .ok (.iconst 1, 1) := by decide +kernel
theorem dX12_term_76 : decode cX12_term 76 = .ok (.ireturn, 1) := by decide +kernel
theorem dX12_compare_0 : decode cX12_compare 0 = .ok (.aload_n 0, 1) := by decide +kernel
theorem dX12_compare_1 : decode cX12_compare 1 = .ok (.invokevirtual 177, 3) := by decide +kernel
theorem dX12_compare_4 : decode cX12_compare 4 = .ok (.ifCond .ne 5, 3) := by decide +kernel
theorem dX12_compare_7 : decode cX12_compare 7 = .ok (.iconst 0, 1) := by decide +kernel
theorem dX12_compare_8 : decode cX12_compare 8 = .ok (.ireturn, 1) := by decide +kernel
theorem dX12_compare_9 : decode cX12_compare 9 = .ok (.aload_n 0, 1) := by decide +kernel
theorem dX12_compare_10 : decode cX12_compare 10 = .ok (.invokevirtual 87, 3) := by decide +kernel
theorem dX12_compare_13 : decode cX12_compare 13 = .ok (.istore_n 1, 1) := by decide +kernel
theorem dX12_compare_14 : decode cX12_compare 14 = .ok (.aload_n 0, 1) := by decide +kernel
theorem dX12_compare_15 : decode cX12_compare 15 = .ok (.getfield 84, 3) := by decide +kernel
theorem dX12_compare_18 : decode cX12_compare 18 = .ok (.istore_n 2, 1) := by decide +kernel
theorem dX12_compare_19 : decode cX12_compare 19 = .ok (.iload_n 1, 1) := by decide +kernel
theorem dX12_compare_20 : decode cX12_compare 20 = .ok (.bipush 60, 2) := by decide +kernel
theorem dX12_compare_22 : decode cX12_compare 22 = .ok (.if_icmp .eq 22, 3) := by decide +kernel
theorem dX12_compare_25 : decode cX12_compare 25 = .ok (.iload_n 1, 1) := by decide +kernel
theorem dX12_compare_26 : decode cX12_compare 26 = .ok (.bipush 61, 2) := by decide +kernel
theorem dX12_compare_28 : decode cX12_compare 28 = .ok (.if_icmp .eq 16, 3) := by decide +kernel
theorem dX12_compare_31 : decode cX12_compare 31 = .ok (.iload_n 1, 1) := by decide +kernel
theorem dX12_compare_32 : decode cX12_compare 32 = .ok (.bipush 62, 2) := by decide +kernel
theorem dX12_compare_34 : decode cX12_compare 34 = .ok (.if_icmp .eq 10, 3) := by decide +kernel
theorem dX12_compare_37 : decode cX12_compare 37 = .ok (.aload_n 0, 1) := by decide +kernel
theorem dX12_compare_38 : decode cX12_compare 38 = .ok (.iconst 0, 1) := by decide +kernel
theorem dX12_compare_39 : decode cX12_compare 39 = .ok (.iload_n 2, 1) := by decide +kernel
theorem dX12_compare_40 : decode cX12_compare 40 = .ok (.invokevirtual 105, 3) := by decide +kernel
theorem dX12_compare_43 : decode cX12_compare 43 = .ok (.ireturn, 1) := by decide +kernel
theorem dX12_compare_44 : decode cX12_compare 44 = .ok (.aload_n 0, 1) := by decide +kernel
theorem dX12_compare_45 : decode cX12_compare 45 = .ok (.dup, 1) := by decide +kernel
theorem dX12_compare_46 : decode cX12_compare 46 = .ok (.getfield 84, 3) := by decide +kernel
theorem dX12_compare_49 : decode cX12_compare 49 = .ok (.iconst 1, 1) := by decide +kernel
theorem dX12_compare_50 : decode cX12_compare 50 = .ok (.iadd, 1) := by decide +kernel
theorem dX12_compare_51 : decode cX12_compare 51 = .ok (.putfield 84, 3) := by decide +kernel
theorem dX12_compare_54 : decode cX12_compare 54 = .ok (.iload_n 1, 1) := by decide +kernel
theorem dX12_compare_55 : decode cX12_compare 55 = .ok (.bipush 61, 2) := by decide +kernel
theorem dX12_compare_57 : decode cX12_compare 57 = .ok (.if_icmp .eq 32, 3) := by decide +kernel
theorem dX12_compare_60 : decode cX12_compare 60 = .ok (.aload_n 0, 1) := by decide +kernel
theorem dX12_compare_61 : decode cX12_compare 61 = .ok (.getfield 84, 3) := by decide +kernel
theorem dX12_compare_64 : decode cX12_compare 64 = .ok (.aload_n 0, 1) := by decide +kernel
theorem dX12_compare_65 : decode cX12_compare 65 = .ok (.getfield 73, 3) := by decide +kernel
theorem dX12_compare_68 : decode cX12_compare 68 = .ok (.if_icmp .ge 21, 3) := by decide +kernel
theorem dX12_compare_71 : decode cX12_compare 71 = .ok (.aload_n 0, 1) := by decide +kernel
theorem dX12_compare_72 : decode cX12_compare 72 = .ok (.getfield 7, 3) := by decide +kernel
theorem dX12_compare_75 : decode cX12_compare 75 = .ok (.aload_n 0, 1) := by decide +kernel
theorem dX12_compare_76 : decode cX12_compare 76 = .ok (.getfield 84, 3) := by decide +kernel
theorem dX12_compare_79 : decode cX12_compare 79 = .ok (.baload, 1) := by decide +kernel
theorem dX12_compare_80 : decode cX12_compare 80 = .ok (.bipush 61, 2) := by decide +kernel
theorem dX12_compare_82 : decode cX12_compare 82 = .ok (.if_icmp .ne 7, 3) := by decide +kernel
theorem dX12_compare_85 : decode cX12_compare 85 = .ok (.iconst 1, 1) := by decide +kernel
theorem dX12_compare_86 : decode cX12_compare 86 = .ok (.goto 4, 3) := by decide +kernel
theorem dX12_compare_89 : decode cX12_compare 89 = .ok (.iconst 0, 1) := by decide +kernel
theorem dX12_compare_90 : decode cX12_compare 90 = .ok (.istore_n 3, 1) := by decide +kernel
theorem dX12_compare_91 : decode cX12_compare 91 = .ok (.iload_n 3, 1) := by decide +kernel
theorem dX12_compare_92 : decode cX12_compare 92 = .ok (.ifCond .eq 13, 3) := by decide +kernel
theorem dX12_compare_95 : decode cX12_compare 95 = .ok (.aload_n 0, 1) := by decide +kernel
theorem dX12_compare_96 : decode cX12_compare 96 = .ok (.dup, 1) := by decide +kernel
theorem dX12_compare_97 : decode cX12_compare 97 = .ok (.getfield 84, 3) := by decide +kernel
theorem dX12_compare_100 : decode cX12_compare 100 = .ok (.iconst 1, 1) := by decide +kernel
theorem dX12_compare_101 : decode cX12_compare 101 = .ok (.iadd, 1) := by decide +kernel
theorem dX12_compare_102 : decode cX12_compare 102 = .ok (.putfield 84, 3) := by decide +kernel
theorem dX12_compare_105 : decode cX12_compare 105 = .ok (.aload_n 0, 1) := by decide +kernel
theorem dX12_compare_106 : decode cX12_compare 106 = .ok (.iload_n 2, 1) := by decide +kernel
theorem dX12_compare_107 : decode cX12_compare 107 = .ok (.invokevirtual 164, 3) := by decide +kernel
theorem dX12_compare_110 : decode cX12_compare 110 = .ok (.ifCond .ne 5, 3) := by decide +kernel
theorem dX12_compare_113 : decode cX12_compare 113 = .ok (.iconst 0, 1) := by decide +kernel
theorem dX12_compare_114 : decode cX12_compare 114 = .ok (.ireturn, 1) := by decide +kernel
theorem dX12_compare_115 : decode cX12_compare 115 = .ok (.iload_n 1, 1) := by decide +kernel
theorem dX12_compare_116 : decode cX12_compare 116 = .ok (.bipush 60, 2) := by decide +kernel
theorem dX12_compare_118 : decode cX12_compare 118 = .ok (.if_icmp .ne 15, 3) := by decide +kernel
theorem dX12_compare_121 : decode cX12_compare 121 = .ok (.iload_n 3, 1) := by decide +kernel
theorem dX12_compare_122 : decode cX12_compare 122 = .ok (.ifCond .eq 7, 3) := by decide +kernel
theorem dX12_compare_125 : decode cX12_compare 125 = .ok (.iconst 1, 1) := by decide +kernel
theorem dX12_compare_126 : decode cX12_compare 126 = .ok (.goto 26, 3) := by decide +kernel
theorem dX12_compare_129 : decode cX12_compare 129 = .ok (.iconst 0, 1) := by decide +kernel
theorem dX12_compare_130 : decode cX12_compare 130 = .ok (.goto 22, 3) := by decide +kernel
theorem dX12_compare_133 : decode cX12_compare 133 = .ok (.iload_n 1, 1) := by decide +kernel
theorem dX12_compare_134 : decode cX12_compare 134 = .ok (.bipush 61, 2) := by decide +kernel
theorem dX12_compare_136 : decode cX12_compare 136 = .ok (.if_icmp .ne 7, 3) := by decide +kernel
theorem dX12_compare_139 : decode cX12_compare 139 = .ok (.iconst 2, 1) := by decide +kernel
theorem dX12_compare_140 : decode cX12_compare 140 = .ok (.goto 12, 3) := by decide +kernel
theorem dX12_compare_143 : decode cX12_compare 143 = .ok (.iload_n 3, 1) := by decide +kernel
theorem dX12_compare_144 : decode cX12_compare 144 = .ok (.ifCond .eq 7, 3) := by decide +kernel
theorem dX12_compare_147 : decode cX12_compare 147 = .ok (.iconst 3, 1) := by decide +kernel
theorem dX12_compare_148 : decode cX12_compare 148 = .ok (.goto 4, 3) := by decide +kernel
theorem dX12_compare_151 : decode cX12_compare 151 = .ok (.iconst 4, 1) := by decide +kernel
theorem dX12_compare_152 : decode cX12_compare 152 = .ok (.istore 4, 2) := by decide +kernel
theorem dX12_compare_154 : decode cX12_compare 154 = .ok (.aload_n 0, 1) := by decide +kernel
theorem dX12_compare_155 : decode cX12_compare 155 = .ok (.invokevirtual 177, 3) := by decide +kernel
theorem dX12_compare_158 : decode cX12_compare 158 = .ok (.ifCond .ne 5, 3) := by decide +kernel
theorem dX12_compare_161 : decode cX12_compare 161 = .ok (.iconst 0, 1) := by decide +kernel
theorem dX12_compare_162 : decode cX12_compare 162 = .ok (.ireturn, 1) := by decide +kernel
theorem dX12_compare_163 : decode cX12_compare 163 = .ok (.aload_n 0, 1) := by decide +kernel
theorem dX12_compare_164 : decode cX12_compare 164 = .ok (.bipush 6, 2) := by decide +kernel
theorem dX12_compare_166 : decode cX12_compare 166 = .ok (.iload 4, 2) := by decide +kernel
theorem dX12_compare_168 : decode cX12_compare 168 = .ok (.iadd, 1) := by decide +kernel
theorem dX12_compare_169 : decode cX12_compare 169 = .ok (.iconst 0, 1) := by decide +kernel
theorem dX12_compare_170 : decode cX12_compare 170 = .ok (.invokevirtual 156, 3) := by decide +kernel
theorem dX12_compare_173 : decode cX12_compare 173 = .ok (.iconst 1, 1) := by decide +kernel
theorem dX12_compare_174 : decode cX12_compare 174 = .ok (.ireturn, 1) := by decide +kernel
theorem dX12_isInside_0 : decode cX12_isInside 0 = .ok (.iconst 0, 1) := by decide +kernel
theorem dX12_isInside_1 : decode cX12_isInside 1 = .ok (.istore_n 1, 1) := by decide +kernel
theorem dX12_isInside_2 : decode cX12_isInside 2 = .ok (.iload_n 1, 1) := by decide +kernel
theorem dX12_isInside_3 : decode cX12_isInside 3 = .ok (.aload_n 0, 1) := by decide +kernel
theorem dX12_isInside_4 : decode cX12_isInside 4 = .ok (.getfield 149, 3) := by decide +kernel
theorem dX12_isInside_7 : decode cX12_isInside 7 = .ok (.if_icmp .ge 22, 3) := by decide +kernel
theorem dX12_isInside_10 : decode cX12_isInside 10 = .ok (.aload_n 0, 1) := by decide +kernel
theorem dX12_isInside_11 : decode cX12_isInside 11 = .ok (.getfield 38, 3) := by decide +kernel
theorem dX12_isInside_14 : decode cX12_isInside 14 = .ok (.iload_n 1, 1) := by decide +kernel
theorem dX12_isInside_15 : decode cX12_isInside 15 = .ok (.iaload, 1) := by decide +kernel
theorem dX12_isInside_16 : decode cX12_isInside 16 = .ok (.bipush 91, 2) := by decide +kernel
theorem dX12_isInside_18 : decode cX12_isInside 18 = .ok (.if_icmp .ne 5, 3) := by decide +kernel
theorem dX12_isInside_21 : decode cX12_isInside 21 = .ok (.iconst 1, 1) := by decide +kernel
theorem dX12_isInside_22 : decode cX12_isInside 22 = .ok (.ireturn, 1) := by decide +kernel
theorem dX12_isInside_23 : decode cX12_isInside 23 = .ok (.iinc 1 1, 3) := by decide +kernel
theorem dX12_isInside_26 : decode cX12_isInside 26 = .ok (.goto (-24), 3) := by decide +kernel
theorem dX12_isInside_29 : decode cX12_isInside 29 = .ok (.iconst 0, 1) := by decide +kernel
theorem dX12_isInside_30 : decode cX12_isInside 30 = .ok (.ireturn, 1) := by decide +kernel
theorem dX12_tested_0 : decode cX12_tested 0 = .ok (.aload_n 0, 1) := by decide +kernel
theorem dX12_tested_1 : decode cX12_tested 1 = .ok (.iconst 0, 1) := by decide +kernel
theorem dX12_tested_2 : decode cX12_tested 2 = .ok (.putfield 149, 3) := by decide +kernel
theorem dX12_tested_5 : decode cX12_tested 5 = .ok (.aload_n 0, 1) := by decide +kernel
theorem dX12_tested_6 : decode cX12_tested 6 = .ok (.iconst 0, 1) := by decide +kernel
theorem dX12_tested_7 : decode cX12_tested 7 = .ok (.putfield 146, 3) := by decide +kernel
theorem dX12_tested_10 : decode cX12_tested 10 = .ok (.iconst 1, 1) := by decide +kernel
theorem dX12_tested_11 : decode cX12_tested 11 = .ok (.istore_n 1, 1) := by decide +kernel
theorem dX12_tested_12 : decode cX12_tested 12 = .ok (.iload_n 1, 1) := by decide +kernel
theorem dX12_tested_13 : decode cX12_tested 13 = .ok (.ifCond .eq 99, 3) := by decide +kernel
theorem dX12_tested_16 : decode cX12_tested 16 = .ok (.aload_n 0, 1) := by decide +kernel
theorem dX12_tested_17 : decode cX12_tested 17 = .ok (.invokevirtual 194, 3) := by decide +kernel
theorem dX12_tested_20 : decode cX12_tested 20 = .ok (.ifCond .ne 5, 3) := by decide +kernel
theorem dX12_tested_23 : decode cX12_tested 23 = .ok (.iconst 0, 1) := by decide +kernel
theorem dX12_tested_24 : decode cX12_tested 24 = .ok (.ireturn, 1) := by decide +kernel
theorem dX12_tested_25 : decode cX12_tested 25 = .ok (.aload_n 0, 1) := by decide +kernel
theorem dX12_tested_26 : decode cX12_tested 26 = .ok (.invokevirtual 197, 3) := by decide +kernel
theorem dX12_tested_29 : decode cX12_tested 29 = .ok (.aload_n 0, 1) := by decide +kernel
theorem dX12_tested_30 : decode cX12_tested 30 = .ok (.ldc2_w 200, 3) := by decide +kernel
theorem dX12_tested_33 : decode cX12_tested 33 = .ok (.invokevirtual 95, 3) := by decide +kernel
theorem dX12_tested_36 : decode cX12_tested 36 = .ok (.ifCond .ne 13, 3) := by decide +kernel
theorem dX12_tested_39 : decode cX12_tested 39 = .ok (.aload_n 0, 1) := by decide +kernel
theorem dX12_tested_40 : decode cX12_tested 40 = .ok (.ldc2_w 202, 3) := by decide +kernel
theorem dX12_tested_43 : decode cX12_tested 43 = .ok (.invokevirtual 95, 3) := by decide +kernel
theorem dX12_tested_46 : decode cX12_tested 46 = .ok (.ifCond .eq 7, 3) := by decide +kernel
theorem dX12_tested_49 : decode cX12_tested 49 = .ok (.iconst 1, 1) := by decide +kernel
theorem dX12_tested_50 : decode cX12_tested 50 = .ok (.goto 4, 3) := by decide +kernel
theorem dX12_tested_53 : decode cX12_tested 53 = .ok (.iconst 0, 1) := by decide +kernel
theorem dX12_tested_54 : decode cX12_tested 54 = .ok (.istore_n 1, 1) := by decide +kernel
theorem dX12_tested_55 : decode cX12_tested 55 = .ok (.iload_n 1, 1) := by decide +kernel
theorem dX12_tested_56 : decode cX12_tested 56 = .ok (.ifCond .eq (-44), 3) := by decide +kernel
theorem dX12_tested_59 : decode cX12_tested 59 = .ok (.aload_n 0, 1) := by decide +kernel
theorem dX12_tested_60 : decode cX12_tested 60 = .ok (.ldc2_w 200, 3) := by decide +kernel
theorem dX12_tested_63 : decode cX12_tested 63 = .ok (.invokevirtual 95, 3) := by decide +kernel
theorem dX12_tested_66 : decode cX12_tested 66 = .ok (.ifCond .eq 8, 3) := by decide +kernel
theorem dX12_tested_69 : decode cX12_tested 69 = .ok (.bipush 12, 2) := by decide +kernel
theorem dX12_tested_71 : decode cX12_tested 71 = .ok (.goto 5, 3) := by decide +kernel
theorem dX12_tested_74 : decode cX12_tested 74 = .ok (.bipush 13, 2) := by decide +kernel
theorem dX12_tested_76 : decode cX12_tested 76 = .ok (.istore_n 2, 1) := by decide +kernel
theorem dX12_tested_77 : decode cX12_tested 77 = .ok (.aload_n 0, 1) := by decide +kernel
theorem dX12_tested_78 : decode cX12_tested 78 = .ok (.invokevirtual 99, 3) := by decide +kernel
theorem dX12_tested_81 : decode cX12_tested 81 = .ok (.aload_n 0, 1) := by decide +kernel
theorem dX12_tested_82 : decode cX12_tested 82 = .ok (.iload_n 2, 1) := by decide +kernel
theorem dX12_tested_83 : decode cX12_tested 83 = .ok (.invokestatic 152, 3) := by decide +kernel
theorem dX12_tested_86 : decode cX12_tested 86 = .ok (.invokevirtual 188, 3) := by decide +kernel
theorem dX12_tested_89 : decode cX12_tested 89 = .ok (.aload_n 0, 1) := by decide +kernel
theorem dX12_tested_90 : decode cX12_tested 90 = .ok (.getfield 38, 3) := by decide +kernel
theorem dX12_tested_93 : decode cX12_tested 93 = .ok (.aload_n 0, 1) := by decide +kernel
theorem dX12_tested_94 : decode cX12_tested 94 = .ok (.getfield 149, 3) := by decide +kernel
theorem dX12_tested_97 : decode cX12_tested 97 = .ok (.iload_n 2, 1) := by decide +kernel
theorem dX12_tested_98 : decode cX12_tested 98 = .ok (.iastore, 1) := by decide +kernel
theorem dX12_tested_99 : decode cX12_tested 99 = .ok (.aload_n 0, 1) := by decide +kernel
theorem dX12_tested_100 : decode cX12_tested 100 = .ok (.dup, 1) := by decide +kernel
theorem dX12_tested_101 : decode cX12_tested 101 = .ok (.getfield 149, 3) := by decide +kernel
theorem dX12_tested_104 : decode cX12_tested 104 = .ok (.iconst 1, 1) := by decide +kernel
theorem dX12_tested_105 : decode cX12_tested 105 = .ok (.iadd, 1) := by decide +kernel
theorem dX12_tested_106 : decode cX12_tested 106 = .ok (.putfield 149, 3) := by decide +kernel
theorem dX12_tested_109 : decode cX12_tested 109 = .ok (.goto (-97), 3) := by decide +kernel
theorem dX12_tested_112 : decode cX12_tested 112 = .ok (.aload_n 0, 1) := by decide +kernel
theorem dX12_tested_113 : decode cX12_tested 113 = .ok (.invokevirtual 191, 3) := by decide +kernel
theorem dX12_tested_116 : decode cX12_tested 116 = .ok (.ifCond .eq 18, 3) := by decide +kernel
theorem dX12_tested_119 : decode cX12_tested 119 = .ok (.aload_n 0, 1) := by decide +kernel
theorem dX12_tested_120 : decode cX12_tested 120 = .ok (.invokevirtual 87, 3) := by decide +kernel
theorem dX12_tested_123 : decode cX12_tested 123 = .ok (.pop, 1) := by decide +kernel
theorem dX12_tested_124 : decode cX12_tested 124 = .ok (.aload_n 0, 1) := by decide +kernel
theorem dX12_tested_125 : decode cX12_tested 125 = .ok (.iconst 0, 1) := by decide +kernel
theorem dX12_tested_126 : decode cX12_tested 126 = .ok (.aload_n 0, 1) := by decide +kernel
theorem dX12_tested_127 : decode cX12_tested 127 = .ok (.getfield 84, 3) := by decide +kernel
theorem dX12_tested_130 : decode cX12_tested 130 = .ok (.invokevirtual 105, 3) := by decide +kernel
theorem dX12_tested_133 : decode cX12_tested 133 = .ok (.ireturn, 1) := by decide +kernel
theorem dX12_tested_134 : decode cX12_tested 134 = .ok (.aload_n 0, 1) := by decide +kernel
theorem dX12_tested_135 : decode cX12_tested 135 = .ok (.iconst 1, 1) := by decide +kernel
theorem dX12_tested_136 : decode cX12_tested 136 = .ok (.invokevirtual 188, 3) := by decide +kernel
theorem dX12_tested_139 : decode cX12_tested 139 = .ok (.iconst 1, 1) := by decide +kernel
theorem dX12_tested_140 : decode cX12_tested 140 = .ok (.ireturn, 1) := by decide +kernel
theorem dX12_joins_0 : decode cX12_joins 0 = .ok (.aload_n 0, 1) := by decide +kernel
theorem dX12_joins_1 : decode cX12_joins 1 = .ok (.getfield 29, 3) := by decide +kernel
theorem dX12_joins_4 : decode cX12_joins 4 = .ok (.aload_n 0, 1) := by decide +kernel
theorem dX12_joins_5 : decode cX12_joins 5 = .ok (.getfield 140, 3) := by decide +kernel
theorem dX12_joins_8 : decode cX12_joins 8 = .ok (.iaload, 1) := by decide +kernel
theorem dX12_joins_9 : decode cX12_joins 9 = .ok (.ifCond .lt 10, 3) := by decide +kernel
theorem dX12_joins_12 : decode cX12_joins 12 = .ok (.aload_n 0, 1) := by decide +kernel
theorem dX12_joins_13 : decode cX12_joins 13 = .ok (.iconst 4, 1) := by decide +kernel
theorem dX12_joins_14 : decode cX12_joins 14 = .ok (.iload_n 1, 1) := by decide +kernel
theorem dX12_joins_15 : decode cX12_joins 15 = .ok (.invokevirtual 105, 3) := by decide +kernel
theorem dX12_joins_18 : decode cX12_joins 18 = .ok (.ireturn, 1) := by decide +kernel
theorem dX12_joins_19 : decode cX12_joins 19 = .ok (.aload_n 0, 1) := by decide +kernel
theorem dX12_joins_20 : decode cX12_joins 20 = .ok (.invokevirtual 99, 3) := by decide +kernel
theorem dX12_joins_23 : decode cX12_joins 23 = .ok (.aload_n 0, 1) := by decide +kernel
theorem dX12_joins_24 : decode cX12_joins 24 = .ok (.iconst 0, 1) := by decide +kernel
theorem dX12_joins_25 : decode cX12_joins 25 = .ok (.iconst 1, 1) := by decide +kernel
theorem dX12_joins_26 : decode cX12_joins 26 = .ok (.invokevirtual 161, 3) := by decide +kernel
theorem dX12_joins_29 : decode cX12_joins 29 = .ok (.ifCond .ne 5, 3) := by decide +kernel
theorem dX12_joins_32 : decode cX12_joins 32 = .ok (.iconst 0, 1) := by decide +kernel
theorem dX12_joins_33 : decode cX12_joins 33 = .ok (.ireturn, 1) := by decide +kernel
theorem dX12_joins_34 : decode cX12_joins 34 = .ok (.aload_n 0, 1) := by decide +kernel
theorem dX12_joins_35 : decode cX12_joins 35 = .ok (.getfield 29, 3) := by decide +kernel
theorem dX12_joins_38 : decode cX12_joins 38 = .ok (.aload_n 0, 1) := by decide +kernel
theorem dX12_joins_39 : decode cX12_joins 39 = .ok (.getfield 140, 3) := by decide +kernel
theorem dX12_joins_42 : decode cX12_joins 42 = .ok (.aload_n 0, 1) := by decide +kernel
theorem dX12_joins_43 : decode cX12_joins 43 = .ok (.getfield 109, 3) := by decide +kernel
theorem dX12_joins_46 : decode cX12_joins 46 = .ok (.iastore, 1) := by decide +kernel
theorem dX12_joins_47 : decode cX12_joins 47 = .ok (.iconst 1, 1) := by decide +kernel
theorem dX12_joins_48 : decode cX12_joins 48 = .ok (.ireturn, 1) := by decide +kernel
theorem dX12_area_0 : decode cX12_area 0 = .ok (.aload_n 0, 1) := by decide +kernel
theorem dX12_area_1 : decode cX12_area 1 = .ok (.iconst 0, 1) := by decide +kernel
theorem dX12_area_2 : decode cX12_area 2 = .ok (.bipush 40, 2) := by decide +kernel
theorem dX12_area_4 : decode cX12_area 4 = .ok (.invokevirtual 161, 3) := by decide +kernel
theorem dX12_area_7 : decode cX12_area 7 = .ok (.ifCond .ne 5, 3) := by decide +kernel
theorem dX12_area_10 : decode cX12_area 10 = .ok (.iconst 0, 1) := by decide +kernel
theorem dX12_area_11 : decode cX12_area 11 = .ok (.ireturn, 1) := by decide +kernel
theorem dX12_area_12 : decode cX12_area 12 = .ok (.aload_n 0, 1) := by decide +kernel
theorem dX12_area_13 : decode cX12_area 13 = .ok (.aload_n 0, 1) := by decide +kernel
theorem dX12_area_14 : decode cX12_area 14 = .ok (.getfield 109, 3) := by decide +kernel
theorem dX12_area_17 : decode cX12_area 17 = .ok (.putfield 218, 3) := by decide +kernel
theorem dX12_area_20 : decode cX12_area 20 = .ok (.aload_n 0, 1) := by decide +kernel
theorem dX12_area_21 : decode cX12_area 21 = .ok (.iconst 0, 1) := by decide +kernel
theorem dX12_area_22 : decode cX12_area 22 = .ok (.bipush 40, 2) := by decide +kernel
theorem dX12_area_24 : decode cX12_area 24 = .ok (.invokevirtual 161, 3) := by decide +kernel
theorem dX12_area_27 : decode cX12_area 27 = .ok (.ifCond .ne 5, 3) := by decide +kernel
theorem dX12_area_30 : decode cX12_area 30 = .ok (.iconst 0, 1) := by decide +kernel
theorem dX12_area_31 : decode cX12_area 31 = .ok (.ireturn, 1) := by decide +kernel
theorem dX12_area_32 : decode cX12_area 32 = .ok (.aload_n 0, 1) := by decide +kernel
theorem dX12_area_33 : decode cX12_area 33 = .ok (.aload_n 0, 1) := by decide +kernel
theorem dX12_area_34 : decode cX12_area 34 = .ok (.getfield 109, 3) := by decide +kernel
theorem dX12_area_37 : decode cX12_area 37 = .ok (.putfield 221, 3) := by decide +kernel
theorem dX12_area_40 : decode cX12_area 40 = .ok (.aload_n 0, 1) := by decide +kernel
theorem dX12_area_41 : decode cX12_area 41 = .ok (.aload_n 0, 1) := by decide +kernel
theorem dX12_area_42 : decode cX12_area 42 = .ok (.getfield 218, 3) := by decide +kernel
theorem dX12_area_45 : decode cX12_area 45 = .ok (.iconst 1, 1) := by decide +kernel
theorem dX12_area_46 : decode cX12_area 46 = .ok (.iadd, 1) := by decide +kernel
theorem dX12_area_47 : decode cX12_area 47 = .ok (.bipush 40, 2) := by decide +kernel
theorem dX12_area_49 : decode cX12_area 49 = .ok (.invokevirtual 161, 3) := by decide +kernel
theorem dX12_area_52 : decode cX12_area 52 = .ok (.ifCond .ne 5, 3) := by decide +kernel
theorem dX12_area_55 : decode cX12_area 55 = .ok (.iconst 0, 1) := by decide +kernel
theorem dX12_area_56 : decode cX12_area 56 = .ok (.ireturn, 1) := by decide +kernel
theorem dX12_area_57 : decode cX12_area 57 = .ok (.aload_n 0, 1) := by decide +kernel
theorem dX12_area_58 : decode cX12_area 58 = .ok (.aload_n 0, 1) := by decide +kernel
theorem dX12_area_59 : decode cX12_area 59 = .ok (.getfield 109, 3) := by decide +kernel
theorem dX12_area_62 : decode cX12_area 62 = .ok (.putfield 224, 3) := by decide +kernel
theorem dX12_area_65 : decode cX12_area 65 = .ok (.aload_n 0, 1) := by decide +kernel
theorem dX12_area_66 : decode cX12_area 66 = .ok (.aload_n 0, 1) := by decide +kernel
theorem dX12_area_67 : decode cX12_area 67 = .ok (.getfield 221, 3) := by decide +kernel
theorem dX12_area_70 : decode cX12_area 70 = .ok (.iconst 1, 1) := by decide +kernel
theorem dX12_area_71 : decode cX12_area 71 = .ok (.iadd, 1) := by decide +kernel
theorem dX12_area_72 : decode cX12_area 72 = .ok (.bipush 40, 2) := by decide +kernel
theorem dX12_area_74 : decode cX12_area 74 = .ok (.invokevirtual 161, 3) := by decide +kernel
theorem dX12_area_77 : decode cX12_area 77 = .ok (.ifCond .ne 5, 3) := by decide +kernel
theorem dX12_area_80 : decode cX12_area 80 = .ok (.iconst 0, 1) := by decide +kernel
theorem dX12_area_81 : decode cX12_area 81 = .ok (.ireturn, 1) := by decide +kernel
theorem dX12_area_82 : decode cX12_area 82 = .ok (.aload_n 0, 1) := by decide +kernel
theorem dX12_area_83 : decode cX12_area 83 = .ok (.aload_n 0, 1) := by decide +kernel
theorem dX12_area_84 : decode cX12_area 84 = .ok (.getfield 109, 3) := by decide +kernel
theorem dX12_area_87 : decode cX12_area 87 = .ok (.putfield 227, 3) := by decide +kernel
theorem dX12_area_90 : decode cX12_area 90 = .ok (.iconst 1, 1) := by decide +kernel
theorem dX12_area_91 : decode cX12_area 91 = .ok (.ireturn, 1) := by decide +kernel
theorem dX12_isRiverHere_0 : decode cX12_isRiverHere 0 = .ok (.aload_n 0, 1) := by decide +kernel
theorem dX12_isRiverHere_1 : decode cX12_isRiverHere 1 = .ok (.invokevirtual 99, 3) := by decide +kernel
theorem dX12_isRiverHere_4 : decode cX12_isRiverHere 4 = .ok (.aload_n 0, 1) := by decide +kernel
theorem dX12_isRiverHere_5 : decode cX12_isRiverHere 5 = .ok (.invokevirtual 230, 3) := by decide +kernel
theorem dX12_isRiverHere_8 : decode cX12_isRiverHere 8 = .ok (.ifCond .ne 5, 3) := by decide +kernel
theorem dX12_isRiverHere_11 : decode cX12_isRiverHere 11 = .ok (.iconst 0, 1) := by decide +kernel
theorem dX12_isRiverHere_12 : decode cX12_isRiverHere 12 = .ok (.ireturn, 1) := by decide +kernel
theorem dX12_isRiverHere_13 : decode cX12_isRiverHere 13 = .ok (.aload_n 0, 1) := by decide +kernel
theorem dX12_isRiverHere_14 : decode cX12_isRiverHere 14 = .ok (.getfield 221, 3) := by decide +kernel
theorem dX12_isRiverHere_17 : decode cX12_isRiverHere 17 = .ok (.istore_n 1, 1) := by decide +kernel
theorem dX12_isRiverHere_18 : decode cX12_isRiverHere 18 = .ok (.iload_n 1, 1) := by decide +kernel
theorem dX12_isRiverHere_19 : decode cX12_isRiverHere 19 = .ok (.aload_n 0, 1) := by decide +kernel
theorem dX12_isRiverHere_20 : decode cX12_isRiverHere 20 = .ok (.getfield 227, 3) := by decide +kernel
theorem dX12_isRiverHere_23 : decode cX12_isRiverHere 23 = .ok (.if_icmp .ge 45, 3) := by decide +kernel
theorem dX12_isRiverHere_26 : decode cX12_isRiverHere 26 = .ok (.aload_n 0, 1) := by decide +kernel
theorem dX12_isRiverHere_27 : decode cX12_isRiverHere 27 = .ok (.getfield 218, 3) := by decide +kernel
theorem dX12_isRiverHere_30 : decode cX12_isRiverHere 30 = .ok (.istore_n 2, 1) := by decide +kernel
theorem dX12_isRiverHere_31 : decode cX12_isRiverHere 31 = .ok (.iload_n 2, 1) := by decide +kernel
theorem dX12_isRiverHere_32 : decode cX12_isRiverHere 32 = .ok (.aload_n 0, 1) := by decide +kernel
theorem dX12_isRiverHere_33 : decode cX12_isRiverHere 33 = .ok (.getfield 224, 3) := by decide +kernel
theorem dX12_isRiverHere_36 : decode cX12_isRiverHere 36 = .ok (.if_icmp .ge 26, 3) := by decide +kernel
theorem dX12_isRiverHere_39 : decode cX12_isRiverHere 39 = .ok (.aload_n 0, 1) := by decide +kernel
theorem dX12_isRiverHere_40 : decode cX12_isRiverHere 40 = .ok (.getfield 32, 3) := by decide +kernel
theorem dX12_isRiverHere_43 : decode cX12_isRiverHere 43 = .ok (.bipush 40, 2) := by decide +kernel
theorem dX12_isRiverHere_45 : decode cX12_isRiverHere 45 = .ok (.iload_n 1, 1) := by decide +kernel
theorem dX12_isRiverHere_46 : decode cX12_isRiverHere 46 = .ok (.imul, 1) := by decide +kernel
theorem dX12_isRiverHere_47 : decode cX12_isRiverHere 47 = .ok (.iload_n 2, 1) := by decide +kernel
theorem dX12_isRiverHere_48 : decode cX12_isRiverHere 48 = .ok (.iadd, 1) := by decide +kernel
theorem dX12_isRiverHere_49 : decode cX12_isRiverHere 49 = .ok (.dup2, 1) := by decide +kernel
theorem dX12_isRiverHere_50 : decode cX12_isRiverHere 50 = .ok (.iaload, 1) := by decide +kernel
theorem dX12_isRiverHere_51 : decode cX12_isRiverHere 51 = .ok (.sipush 128, 3) := by decide +kernel
theorem dX12_isRiverHere_54 : decode cX12_isRiverHere 54 = .ok (.ior, 1) := by decide +kernel
theorem dX12_isRiverHere_55 : decode cX12_isRiverHere 55 = .ok (.iastore, 1) := by decide +kernel
theorem dX12_isRiverHere_56 : decode cX12_isRiverHere 56 = .ok (.iinc 2 1, 3) := by decide +kernel
theorem dX12_isRiverHere_59 : decode cX12_isRiverHere 59 = .ok (.goto (-28), 3) := by decide +kernel
theorem dX12_isRiverHere_62 : decode cX12_isRiverHere 62 = .ok (.iinc 1 1, 3) := by decide +kernel
theorem dX12_isRiverHere_65 : decode cX12_isRiverHere 65 = .ok (.goto (-47), 3) := by decide +kernel
theorem dX12_isRiverHere_68 : decode cX12_isRiverHere 68 = .ok (.iconst 1, 1) := by decide +kernel
theorem dX12_isRiverHere_69 : decode cX12_isRiverHere 69 = .ok (.ireturn, 1) := by decide +kernel
theorem dX12_isHouseHere_0 : decode cX12_isHouseHere 0 = .ok (.aload_n 0, 1) := by decide +kernel
theorem dX12_isHouseHere_1 : decode cX12_isHouseHere 1 = .ok (.getfield 233, 3) := by decide +kernel
theorem dX12_isHouseHere_4 : decode cX12_isHouseHere 4 = .ok (.bipush 6, 2) := by decide +kernel
theorem dX12_isHouseHere_6 : decode cX12_isHouseHere 6 = .ok (.if_icmp .ne 10, 3) := by decide +kernel
theorem dX12_isHouseHere_9 : decode cX12_isHouseHere 9 = .ok (.aload_n 0, 1) := by decide +kernel
theorem dX12_isHouseHere_10 : decode cX12_isHouseHere 10 = .ok (.iconst 4, 1) := by decide +kernel
theorem dX12_isHouseHere_11 : decode cX12_isHouseHere 11 = .ok (.iload_n 1, 1) := by decide +kernel
theorem dX12_isHouseHere_12 : decode cX12_isHouseHere 12 = .ok (.invokevirtual 105, 3) := by decide +kernel
theorem dX12_isHouseHere_15 : decode cX12_isHouseHere 15 = .ok (.ireturn, 1) := by decide +kernel
theorem dX12_isHouseHere_16 : decode cX12_isHouseHere 16 = .ok (.aload_n 0, 1) := by decide +kernel
theorem dX12_isHouseHere_17 : decode cX12_isHouseHere 17 = .ok (.invokevirtual 99, 3) := by decide +kernel
theorem dX12_isHouseHere_20 : decode cX12_isHouseHere 20 = .ok (.aload_n 0, 1) := by decide +kernel
theorem dX12_isHouseHere_21 : decode cX12_isHouseHere 21 = .ok (.invokevirtual 87, 3) := by decide +kernel
theorem dX12_isHouseHere_24 : decode cX12_isHouseHere 24 = .ok (.pop, 1) := by decide +kernel
theorem dX12_isHouseHere_25 : decode cX12_isHouseHere 25 = .ok (.aload_n 0, 1) := by decide +kernel
theorem dX12_isHouseHere_26 : decode cX12_isHouseHere 26 = .ok (.getfield 84, 3) := by decide +kernel
theorem dX12_isHouseHere_29 : decode cX12_isHouseHere 29 = .ok (.istore_n 2, 1) := by decide +kernel
theorem dX12_isHouseHere_30 : decode cX12_isHouseHere 30 = .ok (.aload_n 0, 1) := by decide +kernel
theorem dX12_isHouseHere_31 : decode cX12_isHouseHere 31 = .ok (.invokevirtual 230, 3) := by decide +kernel
theorem dX12_isHouseHere_34 : decode cX12_isHouseHere 34 = .ok (.ifCond .ne 5, 3) := by decide +kernel
theorem dX12_isHouseHere_37 : decode cX12_isHouseHere 37 = .ok (.iconst 0, 1) := by decide +kernel
theorem dX12_isHouseHere_38 : decode cX12_isHouseHere 38 = .ok (.ireturn, 1) := by decide +kernel
theorem dX12_isHouseHere_39 : decode cX12_isHouseHere 39 = .ok (.iconst 0, 1) := by decide +kernel
theorem dX12_isHouseHere_40 : decode cX12_isHouseHere 40 = .ok (.istore_n 3, 1) := by decide +kernel
theorem dX12_isHouseHere_41 : decode cX12_isHouseHere 41 = .ok (.iload_n 3, 1) := by decide +kernel
theorem dX12_isHouseHere_42 : decode cX12_isHouseHere 42 = .ok (.aload_n 0, 1) := by decide +kernel
theorem dX12_isHouseHere_43 : decode cX12_isHouseHere 43 = .ok (.getfield 233, 3) := by decide +kernel
theorem dX12_isHouseHere_46 : decode cX12_isHouseHere 46 = .ok (.if_icmp .ge 76, 3) := by decide +kernel
theorem dX12_isHouseHere_49 : decode cX12_isHouseHere 49 = .ok (.aload_n 0, 1) := by decide +kernel
theorem dX12_isHouseHere_50 : decode cX12_isHouseHere 50 = .ok (.getfield 218, 3) := by decide +kernel
theorem dX12_isHouseHere_53 : decode cX12_isHouseHere 53 = .ok (.aload_n 0, 1) := by decide +kernel
theorem dX12_isHouseHere_54 : decode cX12_isHouseHere 54 = .ok (.getfield 221, 3) := by decide +kernel
theorem dX12_isHouseHere_57 : decode cX12_isHouseHere 57 = .ok (.aload_n 0, 1) := by decide +kernel
theorem dX12_isHouseHere_58 : decode cX12_isHouseHere 58 = .ok (.getfield 224, 3) := by decide +kernel
theorem dX12_isHouseHere_61 : decode cX12_isHouseHere 61 = .ok (.aload_n 0, 1) := by decide +kernel
theorem dX12_isHouseHere_62 : decode cX12_isHouseHere 62 = .ok (.getfield 227, 3) := by decide +kernel
theorem dX12_isHouseHere_65 : decode cX12_isHouseHere 65 = .ok (.aload_n 0, 1) := by decide +kernel
theorem dX12_isHouseHere_66 : decode cX12_isHouseHere 66 = .ok (.getfield 35, 3) := by decide +kernel
theorem dX12_isHouseHere_69 : decode cX12_isHouseHere 69 = .ok (.iconst 4, 1) := by decide +kernel
theorem dX12_isHouseHere_70 : decode cX12_isHouseHere 70 = .ok (.iload_n 3, 1) := by decide +kernel
theorem dX12_isHouseHere_71 : decode cX12_isHouseHere 71 = .ok (.imul, 1) := by decide +kernel
theorem dX12_isHouseHere_72 : decode cX12_isHouseHere 72 = .ok (.iaload, 1) := by decide +kernel
theorem dX12_isHouseHere_73 : decode cX12_isHouseHere 73 = .ok (.aload_n 0, 1) := by decide +kernel
theorem dX12_isHouseHere_74 : decode cX12_isHouseHere 74 = .ok (.getfield 35, 3) := by decide +kernel
theorem dX12_isHouseHere_77 : decode cX12_isHouseHere 77 = .ok (.iconst 4, 1) := by decide +kernel
theorem dX12_isHouseHere_78 : decode cX12_isHouseHere 78 = .ok (.iload_n 3, 1) := by decide +kernel
theorem dX12_isHouseHere_79 : decode cX12_isHouseHere 79 = .ok (.imul, 1) := by decide +kernel
theorem dX12_isHouseHere_80 : decode cX12_isHouseHere 80 = .ok (.iconst 1, 1) := by decide +kernel
theorem dX12_isHouseHere_81 : decode cX12_isHouseHere 81 = .ok (.iadd, 1) := by decide +kernel
theorem dX12_isHouseHere_82 : decode cX12_isHouseHere 82 = .ok (.iaload, 1) := by decide +kernel
theorem dX12_isHouseHere_83 : decode cX12_isHouseHere 83 = .ok (.aload_n 0, 1) := by decide +kernel
theorem dX12_isHouseHere_84 : decode cX12_isHouseHere 84 = .ok (.getfield 35, 3) := by decide +kernel
theorem dX12_isHouseHere_87 : decode cX12_isHouseHere 87 = .ok (.iconst 4, 1) := by decide +kernel
theorem dX12_isHouseHere_88 : decode cX12_isHouseHere 88 = .ok (.iload_n 3, 1) := by decide +kernel
theorem dX12_isHouseHere_89 : decode cX12_isHouseHere 89 = .ok (.imul, 1) := by decide +kernel
theorem dX12_isHouseHere_90 : decode cX12_isHouseHere 90 = .ok (.iconst 2, 1) := by decide +kernel
theorem dX12_isHouseHere_91 : decode cX12_isHouseHere 91 = .ok (.iadd, 1) := by decide +kernel
theorem dX12_isHouseHere_92 : decode cX12_isHouseHere 92 = .ok (.iaload, 1) := by decide +kernel
theorem dX12_isHouseHere_93 : decode cX12_isHouseHere 93 = .ok (.aload_n 0, 1) := by decide +kernel
theorem dX12_isHouseHere_94 : decode cX12_isHouseHere 94 = .ok (.getfield 35, 3) := by decide +kernel
theorem dX12_isHouseHere_97 : decode cX12_isHouseHere 97 = .ok (.iconst 4, 1) := by decide +kernel
theorem dX12_isHouseHere_98 : decode cX12_isHouseHere 98 = .ok (.iload_n 3, 1) := by decide +kernel
theorem dX12_isHouseHere_99 : decode cX12_isHouseHere 99 = .ok (.imul, 1) := by decide +kernel
theorem dX12_isHouseHere_100 : decode cX12_isHouseHere 100 = .ok (.iconst 3, 1) := by decide +kernel
theorem dX12_isHouseHere_101 : decode cX12_isHouseHere 101 = .ok (.iadd, 1) := by decide +kernel
theorem dX12_isHouseHere_102 : decode cX12_isHouseHere 102 = .ok (.iaload, 1) := by decide +kernel
theorem dX12_isHouseHere_103 : decode cX12_isHouseHere 103 = .ok (.invokestatic 236, 3) := by decide +kernel
theorem dX12_isHouseHere_106 : decode cX12_isHouseHere 106 = .ok (.ifCond .ne 10, 3) := by decide +kernel
theorem dX12_isHouseHere_109 : decode cX12_isHouseHere 109 = .ok (.aload_n 0, 1) := by decide +kernel
theorem dX12_isHouseHere_110 : decode cX12_isHouseHere 110 = .ok (.iconst 5, 1) := by decide +kernel
theorem dX12_isHouseHere_111 : decode cX12_isHouseHere 111 = .ok (.iload_n 2, 1) := by decide +kernel
theorem dX12_isHouseHere_112 : decode cX12_isHouseHere 112 = .ok (.invokevirtual 105, 3) := by decide +kernel
theorem dX12_isHouseHere_115 : decode cX12_isHouseHere 115 = .ok (.ireturn, 1) := by decide +kernel
theorem dX12_isHouseHere_116 : decode cX12_isHouseHere 116 = .ok (.iinc 3 1, 3) := by decide +kernel
theorem dX12_isHouseHere_119 : decode cX12_isHouseHere 119 = .ok (.goto (-78), 3) := by decide +kernel
theorem dX12_isHouseHere_122 : decode cX12_isHouseHere 122 = .ok (.aload_n 0, 1) := by decide +kernel
theorem dX12_isHouseHere_123 : decode cX12_isHouseHere 123 = .ok (.getfield 35, 3) := by decide +kernel
theorem dX12_isHouseHere_126 : decode cX12_isHouseHere 126 = .ok (.iconst 4, 1) := by decide +kernel
theorem dX12_isHouseHere_127 : decode cX12_isHouseHere 127 = .ok (.aload_n 0, 1) := by decide +kernel
theorem dX12_isHouseHere_128 : decode cX12_isHouseHere 128 = .ok (.getfield 233, 3) := by decide +kernel
theorem dX12_isHouseHere_131 : decode cX12_isHouseHere 131 = .ok (.imul, 1) := by decide +kernel
theorem dX12_isHouseHere_132 : decode cX12_isHouseHere 132 = .ok (.aload_n 0, 1) := by decide +kernel
theorem dX12_isHouseHere_133 : decode cX12_isHouseHere 133 = .ok (.getfield 218, 3) := by decide +kernel
theorem dX12_isHouseHere_136 : decode cX12_isHouseHere 136 = .ok (.iastore, 1) := by decide +kernel
theorem dX12_isHouseHere_137 : decode cX12_isHouseHere 137 = .ok (.aload_n 0, 1) := by decide +kernel
theorem dX12_isHouseHere_138 : decode cX12_isHouseHere 138 = .ok (.getfield 35, 3) := by decide +kernel
theorem dX12_isHouseHere_141 : decode cX12_isHouseHere 141 = .ok (.iconst 4, 1) := by decide +kernel
theorem dX12_isHouseHere_142 : decode cX12_isHouseHere 142 = .ok (.aload_n 0, 1) := by decide +kernel
theorem dX12_isHouseHere_143 : decode cX12_isHouseHere 143 = .ok (.getfield 233, 3) := by decide +kernel
theorem dX12_isHouseHere_146 : decode cX12_isHouseHere 146 = .ok (.imul, 1) := by decide +kernel
theorem dX12_isHouseHere_147 : decode cX12_isHouseHere 147 = .ok (.iconst 1, 1) := by decide +kernel
theorem dX12_isHouseHere_148 : decode cX12_isHouseHere 148 = .ok (.iadd, 1) := by decide +kernel
theorem dX12_isHouseHere_149 : decode cX12_isHouseHere 149 = .ok (.aload_n 0, 1) := by decide +kernel
theorem dX12_isHouseHere_150 : decode cX12_isHouseHere 150 = .ok (.getfield 221, 3) := by decide +kernel
theorem dX12_isHouseHere_153 : decode cX12_isHouseHere 153 = .ok (.iastore, 1) := by decide +kernel
theorem dX12_isHouseHere_154 : decode cX12_isHouseHere 154 = .ok (.aload_n 0, 1) := by decide +kernel
theorem dX12_isHouseHere_155 : decode cX12_isHouseHere 155 = .ok (.getfield 35, 3) := by decide +kernel
theorem dX12_isHouseHere_158 : decode cX12_isHouseHere 158 = .ok (.iconst 4, 1) := by decide +kernel
theorem dX12_isHouseHere_159 : decode cX12_isHouseHere 159 = .ok (.aload_n 0, 1) := by decide +kernel
theorem dX12_isHouseHere_160 : decode cX12_isHouseHere 160 = .ok (.getfield 233, 3) := by decide +kernel
theorem dX12_isHouseHere_163 : decode cX12_isHouseHere 163 = .ok (.imul, 1) := by decide +kernel
theorem dX12_isHouseHere_164 : decode cX12_isHouseHere 164 = .ok (.iconst 2, 1) := by decide +kernel
theorem dX12_isHouseHere_165 : decode cX12_isHouseHere 165 = .ok (.iadd, 1) := by decide +kernel
theorem dX12_isHouseHere_166 : decode cX12_isHouseHere 166 = .ok (.aload_n 0, 1) := by decide +kernel
theorem dX12_isHouseHere_167 : decode cX12_isHouseHere 167 = .ok (.getfield 224, 3) := by decide +kernel
theorem dX12_isHouseHere_170 : decode cX12_isHouseHere 170 = .ok (.iastore, 1) := by decide +kernel
theorem dX12_isHouseHere_171 : decode cX12_isHouseHere 171 = .ok (.aload_n 0, 1) := by decide +kernel
theorem dX12_isHouseHere_172 : decode cX12_isHouseHere 172 = .ok (.getfield 35, 3) := by decide +kernel
theorem dX12_isHouseHere_175 : decode cX12_isHouseHere 175 = .ok (.iconst 4, 1) := by decide +kernel
theorem dX12_isHouseHere_176 : decode cX12_isHouseHere 176 = .ok (.aload_n 0, 1) := by decide +kernel
theorem dX12_isHouseHere_177 : decode cX12_isHouseHere 177 = .ok (.getfield 233, 3) := by decide +kernel
theorem dX12_isHouseHere_180 : decode cX12_isHouseHere 180 = .ok (.imul, 1) := by decide +kernel
theorem dX12_isHouseHere_181 : decode cX12_isHouseHere 181 = .ok (.iconst 3, 1) := by decide +kernel
theorem dX12_isHouseHere_182 : decode cX12_isHouseHere 182 = .ok (.iadd, 1) := by decide +kernel
theorem dX12_isHouseHere_183 : decode cX12_isHouseHere 183 = .ok (.aload_n 0, 1) := by decide +kernel
theorem dX12_isHouseHere_184 : decode cX12_isHouseHere 184 = .ok (.getfield 227, 3) := by decide +kernel
theorem dX12_isHouseHere_187 : decode cX12_isHouseHere 187 = .ok (.iastore, 1) := by decide +kernel
theorem dX12_isHouseHere_188 : decode cX12_isHouseHere 188 = .ok (.aload_n 0, 1) := by decide +kernel
theorem dX12_isHouseHere_189 : decode cX12_isHouseHere 189 = .ok (.dup, 1) := by decide +kernel
theorem dX12_isHouseHere_190 : decode cX12_isHouseHere 190 = .ok (.getfield 233, 3) := by decide +kernel
theorem dX12_isHouseHere_193 : decode cX12_isHouseHere 193 = .ok (.iconst 1, 1) := by decide +kernel
theorem dX12_isHouseHere_194 : decode cX12_isHouseHere 194 = .ok (.iadd, 1) := by decide +kernel
theorem dX12_isHouseHere_195 : decode cX12_isHouseHere 195 = .ok (.putfield 233, 3) := by decide +kernel
theorem dX12_isHouseHere_198 : decode cX12_isHouseHere 198 = .ok (.iconst 1, 1) := by decide +kernel
theorem dX12_isHouseHere_199 : decode cX12_isHouseHere 199 = .ok (.ireturn, 1) := by decide +kernel
theorem dX12_readsAll_0 : decode cX12_readsAll 0 = .ok (.aload_n 0, 1) := by decide +kernel
theorem dX12_readsAll_1 : decode cX12_readsAll 1 = .ok (.getfield 20, 3) := by decide +kernel
theorem dX12_readsAll_4 : decode cX12_readsAll 4 = .ok (.aload_n 0, 1) := by decide +kernel
theorem dX12_readsAll_5 : decode cX12_readsAll 5 = .ok (.getfield 140, 3) := by decide +kernel
theorem dX12_readsAll_8 : decode cX12_readsAll 8 = .ok (.iconst 0, 1) := by decide +kernel
theorem dX12_readsAll_9 : decode cX12_readsAll 9 = .ok (.iastore, 1) := by decide +kernel
theorem dX12_readsAll_10 : decode cX12_readsAll 10 = .ok (.aload_n 0, 1) := by decide +kernel
theorem dX12_readsAll_11 : decode cX12_readsAll 11 = .ok (.iconst 0, 1) := by decide +kernel
theorem dX12_readsAll_12 : decode cX12_readsAll 12 = .ok (.putfield 254, 3) := by decide +kernel
theorem dX12_readsAll_15 : decode cX12_readsAll 15 = .ok (.aload_n 0, 1) := by decide +kernel
theorem dX12_readsAll_16 : decode cX12_readsAll 16 = .ok (.iconst 0, 1) := by decide +kernel
theorem dX12_readsAll_17 : decode cX12_readsAll 17 = .ok (.putfield 84, 3) := by decide +kernel
theorem dX12_readsAll_20 : decode cX12_readsAll 20 = .ok (.aload_n 0, 1) := by decide +kernel
theorem dX12_readsAll_21 : decode cX12_readsAll 21 = .ok (.iconst 0, 1) := by decide +kernel
theorem dX12_readsAll_22 : decode cX12_readsAll 22 = .ok (.putfield 81, 3) := by decide +kernel
theorem dX12_readsAll_25 : decode cX12_readsAll 25 = .ok (.aload_n 0, 1) := by decide +kernel
theorem dX12_readsAll_26 : decode cX12_readsAll 26 = .ok (.iconst 0, 1) := by decide +kernel
theorem dX12_readsAll_27 : decode cX12_readsAll 27 = .ok (.putfield 143, 3) := by decide +kernel
theorem dX12_readsAll_30 : decode cX12_readsAll 30 = .ok (.aload_n 0, 1) := by decide +kernel
theorem dX12_readsAll_31 : decode cX12_readsAll 31 = .ok (.invokevirtual 278, 3) := by decide +kernel
theorem dX12_readsAll_34 : decode cX12_readsAll 34 = .ok (.istore_n 1, 1) := by decide +kernel
theorem dX12_readsAll_35 : decode cX12_readsAll 35 = .ok (.iload_n 1, 1) := by decide +kernel
theorem dX12_readsAll_36 : decode cX12_readsAll 36 = .ok (.ifCond .eq 30, 3) := by decide +kernel
theorem dX12_readsAll_39 : decode cX12_readsAll 39 = .ok (.aload_n 0, 1) := by decide +kernel
theorem dX12_readsAll_40 : decode cX12_readsAll 40 = .ok (.invokevirtual 87, 3) := by decide +kernel
theorem dX12_readsAll_43 : decode cX12_readsAll 43 = .ok (.bipush 59, 2) := by decide +kernel
theorem dX12_readsAll_45 : decode cX12_readsAll 45 = .ok (.if_icmp .ne 21, 3) := by decide +kernel
theorem dX12_readsAll_48 : decode cX12_readsAll 48 = .ok (.aload_n 0, 1) := by decide +kernel
theorem dX12_readsAll_49 : decode cX12_readsAll 49 = .ok (.dup, 1) := by decide +kernel
theorem dX12_readsAll_50 : decode cX12_readsAll 50 = .ok (.getfield 84, 3) := by decide +kernel
theorem dX12_readsAll_53 : decode cX12_readsAll 53 = .ok (.iconst 1, 1) := by decide +kernel
theorem dX12_readsAll_54 : decode cX12_readsAll 54 = .ok (.iadd, 1) := by decide +kernel
theorem dX12_readsAll_55 : decode cX12_readsAll 55 = .ok (.putfield 84, 3) := by decide +kernel
theorem dX12_readsAll_58 : decode cX12_readsAll 58 = .ok (.aload_n 0, 1) := by decide +kernel
theorem dX12_readsAll_59 : decode cX12_readsAll 59 = .ok (.invokevirtual 278, 3) := by decide +kernel
theorem dX12_readsAll_62 : decode cX12_readsAll 62 = .ok (.istore_n 1, 1) := by decide +kernel
theorem dX12_readsAll_63 : decode cX12_readsAll 63 = .ok (.goto (-28), 3) := by decide +kernel
theorem dX12_readsAll_66 : decode cX12_readsAll 66 = .ok (.iload_n 1, 1) := by decide +kernel
theorem dX12_readsAll_67 : decode cX12_readsAll 67 = .ok (.ifCond .eq 21, 3) := by decide +kernel
theorem dX12_readsAll_70 : decode cX12_readsAll 70 = .ok (.aload_n 0, 1) := by decide +kernel
theorem dX12_readsAll_71 : decode cX12_readsAll 71 = .ok (.invokevirtual 87, 3) := by decide +kernel
theorem dX12_readsAll_74 : decode cX12_readsAll 74 = .ok (.iconst (-1), 1) := by decide +kernel
theorem dX12_readsAll_75 : decode cX12_readsAll 75 = .ok (.if_icmp .eq 13, 3) := by decide +kernel
theorem dX12_readsAll_78 : decode cX12_readsAll 78 = .ok (.aload_n 0, 1) := by decide +kernel
theorem dX12_readsAll_79 : decode cX12_readsAll 79 = .ok (.iconst 0, 1) := by decide +kernel
theorem dX12_readsAll_80 : decode cX12_readsAll 80 = .ok (.aload_n 0, 1) := by decide +kernel
theorem dX12_readsAll_81 : decode cX12_readsAll 81 = .ok (.getfield 84, 3) := by decide +kernel
theorem dX12_readsAll_84 : decode cX12_readsAll 84 = .ok (.invokevirtual 105, 3) := by decide +kernel
theorem dX12_readsAll_87 : decode cX12_readsAll 87 = .ok (.pop, 1) := by decide +kernel
theorem dX12_readsAll_88 : decode cX12_readsAll 88 = .ok (.aload_n 0, 1) := by decide +kernel
theorem dX12_readsAll_89 : decode cX12_readsAll 89 = .ok (.getfield 81, 3) := by decide +kernel
theorem dX12_readsAll_92 : decode cX12_readsAll 92 = .ok (.ifCond .ne 7, 3) := by decide +kernel
theorem dX12_readsAll_95 : decode cX12_readsAll 95 = .ok (.iconst 1, 1) := by decide +kernel
theorem dX12_readsAll_96 : decode cX12_readsAll 96 = .ok (.goto 4, 3) := by decide +kernel
theorem dX12_readsAll_99 : decode cX12_readsAll 99 = .ok (.iconst 0, 1) := by decide +kernel
theorem dX12_readsAll_100 : decode cX12_readsAll 100 = .ok (.ireturn, 1) := by decide +kernel
theorem dX12_land_0 : decode cX12_land 0 = .ok (.aload_n 0, 1) := by decide +kernel
theorem dX12_land_1 : decode cX12_land 1 = .ok (.bipush 12, 2) := by decide +kernel
theorem dX12_land_3 : decode cX12_land 3 = .ok (.putfield 140, 3) := by decide +kernel
theorem dX12_land_6 : decode cX12_land 6 = .ok (.aload_n 0, 1) := by decide +kernel
theorem dX12_land_7 : decode cX12_land 7 = .ok (.iconst (-1), 1) := by decide +kernel
theorem dX12_land_8 : decode cX12_land 8 = .ok (.putfield 212, 3) := by decide +kernel
theorem dX12_land_11 : decode cX12_land 11 = .ok (.aload_n 0, 1) := by decide +kernel
theorem dX12_land_12 : decode cX12_land 12 = .ok (.iconst 0, 1) := by decide +kernel
theorem dX12_land_13 : decode cX12_land 13 = .ok (.putfield 233, 3) := by decide +kernel
theorem dX12_land_16 : decode cX12_land 16 = .ok (.iconst 0, 1) := by decide +kernel
theorem dX12_land_17 : decode cX12_land 17 = .ok (.istore_n 1, 1) := by decide +kernel
theorem dX12_land_18 : decode cX12_land 18 = .ok (.iload_n 1, 1) := by decide +kernel
theorem dX12_land_19 : decode cX12_land 19 = .ok (.sipush 1600, 3) := by decide +kernel
theorem dX12_land_22 : decode cX12_land 22 = .ok (.if_icmp .ge 16, 3) := by decide +kernel
theorem dX12_land_25 : decode cX12_land 25 = .ok (.aload_n 0, 1) := by decide +kernel
theorem dX12_land_26 : decode cX12_land 26 = .ok (.getfield 32, 3) := by decide +kernel
theorem dX12_land_29 : decode cX12_land 29 = .ok (.iload_n 1, 1) := by decide +kernel
theorem dX12_land_30 : decode cX12_land 30 = .ok (.iconst 1, 1) := by decide +kernel
theorem dX12_land_31 : decode cX12_land 31 = .ok (.iastore, 1) := by decide +kernel
theorem dX12_land_32 : decode cX12_land 32 = .ok (.iinc 1 1, 3) := by decide +kernel
theorem dX12_land_35 : decode cX12_land 35 = .ok (.goto (-17), 3) := by decide +kernel
theorem dX12_land_38 : decode cX12_land 38 = .ok (.aload_n 0, 1) := by decide +kernel
theorem dX12_land_39 : decode cX12_land 39 = .ok (.invokevirtual 281, 3) := by decide +kernel
theorem dX12_land_42 : decode cX12_land 42 = .ok (.istore_n 1, 1) := by decide +kernel
theorem dX12_land_43 : decode cX12_land 43 = .ok (.aload_n 0, 1) := by decide +kernel
theorem dX12_land_44 : decode cX12_land 44 = .ok (.getfield 212, 3) := by decide +kernel
theorem dX12_land_47 : decode cX12_land 47 = .ok (.ifCond .ge 8, 3) := by decide +kernel
theorem dX12_land_50 : decode cX12_land 50 = .ok (.bipush 20, 2) := by decide +kernel
theorem dX12_land_52 : decode cX12_land 52 = .ok (.goto 7, 3) := by decide +kernel
theorem dX12_land_55 : decode cX12_land 55 = .ok (.aload_n 0, 1) := by decide +kernel
theorem dX12_land_56 : decode cX12_land 56 = .ok (.getfield 212, 3) := by decide +kernel
theorem dX12_land_59 : decode cX12_land 59 = .ok (.istore_n 2, 1) := by decide +kernel
theorem dX12_land_60 : decode cX12_land 60 = .ok (.aload_n 0, 1) := by decide +kernel
theorem dX12_land_61 : decode cX12_land 61 = .ok (.getfield 212, 3) := by decide +kernel
theorem dX12_land_64 : decode cX12_land 64 = .ok (.ifCond .ge 8, 3) := by decide +kernel
theorem dX12_land_67 : decode cX12_land 67 = .ok (.bipush 20, 2) := by decide +kernel
theorem dX12_land_69 : decode cX12_land 69 = .ok (.goto 7, 3) := by decide +kernel
theorem dX12_land_72 : decode cX12_land 72 = .ok (.aload_n 0, 1) := by decide +kernel
theorem dX12_land_73 : decode cX12_land 73 = .ok (.getfield 215, 3) := by decide +kernel
theorem dX12_land_76 : decode cX12_land 76 = .ok (.istore_n 3, 1) := by decide +kernel
theorem dX12_land_77 : decode cX12_land 77 = .ok (.iconst 0, 1) := by decide +kernel
theorem dX12_land_78 : decode cX12_land 78 = .ok (.istore 4, 2) := by decide +kernel
theorem dX12_land_80 : decode cX12_land 80 = .ok (.iload 4, 2) := by decide +kernel
theorem dX12_land_82 : decode cX12_land 82 = .ok (.aload_n 0, 1) := by decide +kernel
theorem dX12_land_83 : decode cX12_land 83 = .ok (.getfield 233, 3) := by decide +kernel
theorem dX12_land_86 : decode cX12_land 86 = .ok (.if_icmp .ge 53, 3) := by decide +kernel
theorem dX12_land_89 : decode cX12_land 89 = .ok (.iload_n 1, 1) := by decide +kernel
theorem dX12_land_90 : decode cX12_land 90 = .ok (.ifCond .eq 49, 3) := by decide +kernel
theorem dX12_land_93 : decode cX12_land 93 = .ok (.aload_n 0, 1) := by decide +kernel
theorem dX12_land_94 : decode cX12_land 94 = .ok (.getfield 35, 3) := by decide +kernel
theorem dX12_land_97 : decode cX12_land 97 = .ok (.iconst 4, 1) := by decide +kernel
theorem dX12_land_98 : decode cX12_land 98 = .ok (.iload 4, 2) := by decide +kernel
theorem dX12_land_100 : decode cX12_land 100 = .ok (.imul, 1) := by decide +kernel
theorem dX12_land_101 : decode cX12_land 101 = .ok (.iconst 2, 1) := by decide +kernel
theorem dX12_land_102 : decode cX12_land 102 = .ok (.iadd, 1) := by decide +kernel
theorem dX12_land_103 : decode cX12_land 103 = .ok (.iaload, 1) := by decide +kernel
theorem dX12_land_104 : decode cX12_land 104 = .ok (.iload_n 2, 1) := by decide +kernel
theorem dX12_land_105 : decode cX12_land 105 = .ok (.if_icmp .gt 18, 3) := by decide +kernel
theorem dX12_land_108 : decode cX12_land 108 = .ok (.aload_n 0, 1) := by decide +kernel
theorem dX12_land_109 : decode cX12_land 109 = .ok (.getfield 35, 3) := by decide +kernel
theorem dX12_land_112 : decode cX12_land 112 = .ok (.iconst 4, 1) := by decide +kernel
theorem dX12_land_113 : decode cX12_land 113 = .ok (.iload 4, 2) := by decide +kernel
theorem dX12_land_115 : decode cX12_land 115 = .ok (.imul, 1) := by decide +kernel
theorem dX12_land_116 : decode cX12_land 116 = .ok (.iconst 3, 1) := by decide +kernel
theorem dX12_land_117 : decode cX12_land 117 = .ok (.iadd, 1) := by decide +kernel
theorem dX12_land_118 : decode cX12_land 118 = .ok (.iaload, 1) := by decide +kernel
theorem dX12_land_119 : decode cX12_land 119 = .ok (.iload_n 3, 1) := by decide +kernel
theorem dX12_land_120 : decode cX12_land 120 = .ok (.if_icmp .le 13, 3) := by decide +kernel
theorem dX12_land_123 : decode cX12_land 123 = .ok (.aload_n 0, 1) := by decide +kernel
theorem dX12_land_124 : decode cX12_land 124 = .ok (.iconst 5, 1) := by decide +kernel
theorem dX12_land_125 : decode cX12_land 125 = .ok (.aload_n 0, 1) := by decide +kernel
theorem dX12_land_126 : decode cX12_land 126 = .ok (.getfield 84, 3) := by decide +kernel
theorem dX12_land_129 : decode cX12_land 129 = .ok (.invokevirtual 105, 3) := by decide +kernel
theorem dX12_land_132 : decode cX12_land 132 = .ok (.istore_n 1, 1) := by decide +kernel
theorem dX12_land_133 : decode cX12_land 133 = .ok (.iinc 4 1, 3) := by decide +kernel
theorem dX12_land_136 : decode cX12_land 136 = .ok (.goto (-56), 3) := by decide +kernel
theorem dX12_land_139 : decode cX12_land 139 = .ok (.aload_n 0, 1) := by decide +kernel
theorem dX12_land_140 : decode cX12_land 140 = .ok (.iconst 0, 1) := by decide +kernel
theorem dX12_land_141 : decode cX12_land 141 = .ok (.putfield 73, 3) := by decide +kernel
theorem dX12_land_144 : decode cX12_land 144 = .ok (.iload_n 1, 1) := by decide +kernel
theorem dX12_land_145 : decode cX12_land 145 = .ok (.ifCond .ne 11, 3) := by decide +kernel
theorem dX12_land_148 : decode cX12_land 148 = .ok (.bipush (-2), 2) := by decide +kernel
theorem dX12_land_150 : decode cX12_land 150 = .ok (.aload_n 0, 1) := by decide +kernel
theorem dX12_land_151 : decode cX12_land 151 = .ok (.getfield 81, 3) := by decide +kernel
theorem dX12_land_154 : decode cX12_land 154 = .ok (.isub, 1) := by decide +kernel
theorem dX12_land_155 : decode cX12_land 155 = .ok (.ireturn, 1) := by decide +kernel
theorem dX12_land_156 : decode cX12_land 156 = .ok (.aload_n 0, 1) := by decide +kernel
theorem dX12_land_157 : decode cX12_land 157 = .ok (.getfield 48, 3) := by decide +kernel
theorem dX12_land_160 : decode cX12_land 160 = .ok (.iconst 0, 1) := by decide +kernel
theorem dX12_land_161 : decode cX12_land 161 = .ok (.iload_n 2, 1) := by decide +kernel
theorem dX12_land_162 : decode cX12_land 162 = .ok (.iastore, 1) := by decide +kernel
theorem dX12_land_163 : decode cX12_land 163 = .ok (.aload_n 0, 1) := by decide +kernel
theorem dX12_land_164 : decode cX12_land 164 = .ok (.getfield 48, 3) := by decide +kernel
theorem dX12_land_167 : decode cX12_land 167 = .ok (.iconst 1, 1) := by decide +kernel
theorem dX12_land_168 : decode cX12_land 168 = .ok (.iload_n 3, 1) := by decide +kernel
theorem dX12_land_169 : decode cX12_land 169 = .ok (.iastore, 1) := by decide +kernel
theorem dX12_land_170 : decode cX12_land 170 = .ok (.aload_n 0, 1) := by decide +kernel
theorem dX12_land_171 : decode cX12_land 171 = .ok (.getfield 48, 3) := by decide +kernel
theorem dX12_land_174 : decode cX12_land 174 = .ok (.iconst 2, 1) := by decide +kernel
theorem dX12_land_175 : decode cX12_land 175 = .ok (.aload_n 0, 1) := by decide +kernel
theorem dX12_land_176 : decode cX12_land 176 = .ok (.getfield 233, 3) := by decide +kernel
theorem dX12_land_179 : decode cX12_land 179 = .ok (.iastore, 1) := by decide +kernel
theorem dX12_land_180 : decode cX12_land 180 = .ok (.aload_n 0, 1) := by decide +kernel
theorem dX12_land_181 : decode cX12_land 181 = .ok (.getfield 48, 3) := by decide +kernel
theorem dX12_land_184 : decode cX12_land 184 = .ok (.iconst 3, 1) := by decide +kernel
theorem dX12_land_185 : decode cX12_land 185 = .ok (.iconst 0, 1) := by decide +kernel
theorem dX12_land_186 : decode cX12_land 186 = .ok (.iastore, 1) := by decide +kernel
theorem dX12_land_187 : decode cX12_land 187 = .ok (.iconst 0, 1) := by decide +kernel
theorem dX12_land_188 : decode cX12_land 188 = .ok (.istore 4, 2) := by decide +kernel
theorem dX12_land_190 : decode cX12_land 190 = .ok (.iload 4, 2) := by decide +kernel
theorem dX12_land_192 : decode cX12_land 192 = .ok (.sipush 1600, 3) := by decide +kernel
theorem dX12_land_195 : decode cX12_land 195 = .ok (.if_icmp .ge 26, 3) := by decide +kernel
theorem dX12_land_198 : decode cX12_land 198 = .ok (.aload_n 0, 1) := by decide +kernel
theorem dX12_land_199 : decode cX12_land 199 = .ok (.getfield 48, 3) := by decide +kernel
theorem dX12_land_202 : decode cX12_land 202 = .ok (.bipush 8, 2) := by decide +kernel
theorem dX12_land_204 : decode cX12_land 204 = .ok (.iload 4, 2) := by decide +kernel
theorem dX12_land_206 : decode cX12_land 206 = .ok (.iadd, 1) := by decide +kernel
theorem dX12_land_207 : decode cX12_land 207 = .ok (.aload_n 0, 1) := by decide +kernel
theorem dX12_land_208 : decode cX12_land 208 = .ok (.getfield 32, 3) := by decide +kernel
theorem dX12_land_211 : decode cX12_land 211 = .ok (.iload 4, 2) := by decide +kernel
theorem dX12_land_213 : decode cX12_land 213 = .ok (.iaload, 1) := by decide +kernel
theorem dX12_land_214 : decode cX12_land 214 = .ok (.iastore, 1) := by decide +kernel
theorem dX12_land_215 : decode cX12_land 215 = .ok (.iinc 4 1, 3) := by decide +kernel
theorem dX12_land_218 : decode cX12_land 218 = .ok (.goto (-28), 3) := by decide +kernel
theorem dX12_land_221 : decode cX12_land 221 = .ok (.iconst 0, 1) := by decide +kernel
theorem dX12_land_222 : decode cX12_land 222 = .ok (.istore 4, 2) := by decide +kernel
theorem dX12_land_224 : decode cX12_land 224 = .ok (.iload 4, 2) := by decide +kernel
theorem dX12_land_226 : decode cX12_land 226 = .ok (.bipush 54, 2) := by decide +kernel
theorem dX12_land_228 : decode cX12_land 228 = .ok (.if_icmp .ge 20, 3) := by decide +kernel
theorem dX12_land_231 : decode cX12_land 231 = .ok (.aload_n 0, 1) := by decide +kernel
theorem dX12_land_232 : decode cX12_land 232 = .ok (.getfield 48, 3) := by decide +kernel
theorem dX12_land_235 : decode cX12_land 235 = .ok (.iload 4, 2) := by decide +kernel
theorem dX12_land_237 : decode cX12_land 237 = .ok (.invokestatic 284, 3) := by decide +kernel
theorem dX12_land_240 : decode cX12_land 240 = .ok (.iconst 0, 1) := by decide +kernel
theorem dX12_land_241 : decode cX12_land 241 = .ok (.iastore, 1) := by decide +kernel
theorem dX12_land_242 : decode cX12_land 242 = .ok (.iinc 4 1, 3) := by decide +kernel
theorem dX12_land_245 : decode cX12_land 245 = .ok (.goto (-21), 3) := by decide +kernel
theorem dX12_land_248 : decode cX12_land 248 = .ok (.iconst 0, 1) := by decide +kernel
theorem dX12_land_249 : decode cX12_land 249 = .ok (.istore 4, 2) := by decide +kernel
theorem dX12_land_251 : decode cX12_land 251 = .ok (.iload 4, 2) := by decide +kernel
theorem dX12_land_253 : decode cX12_land 253 = .ok (.aload_n 0, 1) := by decide +kernel
theorem dX12_land_254 : decode cX12_land 254 = .ok (.getfield 233, 3) := by decide +kernel
theorem dX12_land_257 : decode cX12_land 257 = .ok (.if_icmp .ge 58, 3) := by decide +kernel
theorem dX12_land_260 : decode cX12_land 260 = .ok (.aload_n 0, 1) := by decide +kernel
theorem dX12_land_261 : decode cX12_land 261 = .ok (.iload 4, 2) := by decide +kernel
theorem dX12_land_263 : decode cX12_land 263 = .ok (.aload_n 0, 1) := by decide +kernel
theorem dX12_land_264 : decode cX12_land 264 = .ok (.getfield 35, 3) := by decide +kernel
theorem dX12_land_267 : decode cX12_land 267 = .ok (.iconst 4, 1) := by decide +kernel
theorem dX12_land_268 : decode cX12_land 268 = .ok (.iload 4, 2) := by decide +kernel
theorem dX12_land_270 : decode cX12_land 270 = .ok (.imul, 1) := by decide +kernel
theorem dX12_land_271 : decode cX12_land 271 = .ok (.iaload, 1) := by decide +kernel
theorem dX12_land_272 : decode cX12_land 272 = .ok (.aload_n 0, 1) := by decide +kernel
theorem dX12_land_273 : decode cX12_land 273 = .ok (.getfield 35, 3) := by decide +kernel
theorem dX12_land_276 : decode cX12_land 276 = .ok (.iconst 4, 1) := by decide +kernel
theorem dX12_land_277 : decode cX12_land 277 = .ok (.iload 4, 2) := by decide +kernel
theorem dX12_land_279 : decode cX12_land 279 = .ok (.imul, 1) := by decide +kernel
theorem dX12_land_280 : decode cX12_land 280 = .ok (.iconst 1, 1) := by decide +kernel
theorem dX12_land_281 : decode cX12_land 281 = .ok (.iadd, 1) := by decide +kernel
theorem dX12_land_282 : decode cX12_land 282 = .ok (.iaload, 1) := by decide +kernel
theorem dX12_land_283 : decode cX12_land 283 = .ok (.aload_n 0, 1) := by decide +kernel
theorem dX12_land_284 : decode cX12_land 284 = .ok (.getfield 35, 3) := by decide +kernel
theorem dX12_land_287 : decode cX12_land 287 = .ok (.iconst 4, 1) := by decide +kernel
theorem dX12_land_288 : decode cX12_land 288 = .ok (.iload 4, 2) := by decide +kernel
theorem dX12_land_290 : decode cX12_land 290 = .ok (.imul, 1) := by decide +kernel
theorem dX12_land_291 : decode cX12_land 291 = .ok (.iconst 2, 1) := by decide +kernel
theorem dX12_land_292 : decode cX12_land 292 = .ok (.iadd, 1) := by decide +kernel
theorem dX12_land_293 : decode cX12_land 293 = .ok (.iaload, 1) := by decide +kernel
theorem dX12_land_294 : decode cX12_land 294 = .ok (.aload_n 0, 1) := by decide +kernel
theorem dX12_land_295 : decode cX12_land 295 = .ok (.getfield 35, 3) := by decide +kernel
theorem dX12_land_298 : decode cX12_land 298 = .ok (.iconst 4, 1) := by decide +kernel
theorem dX12_land_299 : decode cX12_land 299 = .ok (.iload 4, 2) := by decide +kernel
theorem dX12_land_301 : decode cX12_land 301 = .ok (.imul, 1) := by decide +kernel
theorem dX12_land_302 : decode cX12_land 302 = .ok (.iconst 3, 1) := by decide +kernel
theorem dX12_land_303 : decode cX12_land 303 = .ok (.iadd, 1) := by decide +kernel
theorem dX12_land_304 : decode cX12_land 304 = .ok (.iaload, 1) := by decide +kernel
theorem dX12_land_305 : decode cX12_land 305 = .ok (.iconst (-1), 1) := by decide +kernel
theorem dX12_land_306 : decode cX12_land 306 = .ok (.invokevirtual 287, 3) := by decide +kernel
theorem dX12_land_309 : decode cX12_land 309 = .ok (.iinc 4 1, 3) := by decide +kernel
theorem dX12_land_312 : decode cX12_land 312 = .ok (.goto (-61), 3) := by decide +kernel
theorem dX12_land_315 : decode cX12_land 315 = .ok (.iconst 0, 1) := by decide +kernel
theorem dX12_land_316 : decode cX12_land 316 = .ok (.istore 4, 2) := by decide +kernel
theorem dX12_land_318 : decode cX12_land 318 = .ok (.iload 4, 2) := by decide +kernel
theorem dX12_land_320 : decode cX12_land 320 = .ok (.bipush 6, 2) := by decide +kernel
theorem dX12_land_322 : decode cX12_land 322 = .ok (.if_icmp .ge 24, 3) := by decide +kernel
theorem dX12_land_325 : decode cX12_land 325 = .ok (.aload_n 0, 1) := by decide +kernel
theorem dX12_land_326 : decode cX12_land 326 = .ok (.getfield 48, 3) := by decide +kernel
theorem dX12_land_329 : decode cX12_land 329 = .ok (.sipush 2400, 3) := by decide +kernel
theorem dX12_land_332 : decode cX12_land 332 = .ok (.bipush 6, 2) := by decide +kernel
theorem dX12_land_334 : decode cX12_land 334 = .ok (.iload 4, 2) := by decide +kernel
theorem dX12_land_336 : decode cX12_land 336 = .ok (.imul, 1) := by decide +kernel
theorem dX12_land_337 : decode cX12_land 337 = .ok (.iadd, 1) := by decide +kernel
theorem dX12_land_338 : decode cX12_land 338 = .ok (.iconst 0, 1) := by decide +kernel
theorem dX12_land_339 : decode cX12_land 339 = .ok (.iastore, 1) := by decide +kernel
theorem dX12_land_340 : decode cX12_land 340 = .ok (.iinc 4 1, 3) := by decide +kernel
theorem dX12_land_343 : decode cX12_land 343 = .ok (.goto (-25), 3) := by decide +kernel
theorem dX12_land_346 : decode cX12_land 346 = .ok (.aload_n 0, 1) := by decide +kernel
theorem dX12_land_347 : decode cX12_land 347 = .ok (.getfield 233, 3) := by decide +kernel
theorem dX12_land_350 : decode cX12_land 350 = .ok (.ireturn, 1) := by decide +kernel
theorem dX12_push_0 : decode cX12_push 0 = .ok (.aload_n 0, 1) := by decide +kernel
theorem dX12_push_1 : decode cX12_push 1 = .ok (.getfield 41, 3) := by decide +kernel
theorem dX12_push_4 : decode cX12_push 4 = .ok (.aload_n 0, 1) := by decide +kernel
theorem dX12_push_5 : decode cX12_push 5 = .ok (.getfield 291, 3) := by decide +kernel
theorem dX12_push_8 : decode cX12_push 8 = .ok (.lload_n 1, 1) := by decide +kernel
theorem dX12_push_9 : decode cX12_push 9 = .ok (.lastore, 1) := by decide +kernel
theorem dX12_push_10 : decode cX12_push 10 = .ok (.aload_n 0, 1) := by decide +kernel
theorem dX12_push_11 : decode cX12_push 11 = .ok (.dup, 1) := by decide +kernel
theorem dX12_push_12 : decode cX12_push 12 = .ok (.getfield 291, 3) := by decide +kernel
theorem dX12_push_15 : decode cX12_push 15 = .ok (.iconst 1, 1) := by decide +kernel
theorem dX12_push_16 : decode cX12_push 16 = .ok (.iadd, 1) := by decide +kernel
theorem dX12_push_17 : decode cX12_push 17 = .ok (.putfield 291, 3) := by decide +kernel
theorem dX12_push_20 : decode cX12_push 20 = .ok (.return_, 1) := by decide +kernel
theorem dX12_one_0 : decode cX12_one 0 = .ok (.iload_n 0, 1) := by decide +kernel
theorem dX12_one_1 : decode cX12_one 1 = .ok (.tableswitch 149 2 12 #[59, 63, 67, 71, 85, 97, 109, 121, 133, 149, 145], 59) := by decide +kernel
theorem dX12_one_60 : decode cX12_one 60 = .ok (.lload_n 1, 1) := by decide +kernel
theorem dX12_one_61 : decode cX12_one 61 = .ok (.lload_n 3, 1) := by decide +kernel
theorem dX12_one_62 : decode cX12_one 62 = .ok (.ladd, 1) := by decide +kernel
theorem dX12_one_63 : decode cX12_one 63 = .ok (.lreturn, 1) := by decide +kernel
theorem dX12_one_64 : decode cX12_one 64 = .ok (.lload_n 1, 1) := by decide +kernel
theorem dX12_one_65 : decode cX12_one 65 = .ok (.lload_n 3, 1) := by decide +kernel
theorem dX12_one_66 : decode cX12_one 66 = .ok (.lsub, 1) := by decide +kernel
theorem dX12_one_67 : decode cX12_one 67 = .ok (.lreturn, 1) := by decide +kernel
theorem dX12_one_68 : decode cX12_one 68 = .ok (.lload_n 1, 1) := by decide +kernel
theorem dX12_one_69 : decode cX12_one 69 = .ok (.lload_n 3, 1) := by decide +kernel
theorem dX12_one_70 : decode cX12_one 70 = .ok (.lmul, 1) := by decide +kernel
theorem dX12_one_71 : decode cX12_one 71 = .ok (.lreturn, 1) := by decide +kernel
theorem dX12_one_72 : decode cX12_one 72 = .ok (.lload_n 3, 1) := by decide +kernel
theorem dX12_one_73 : decode cX12_one 73 = .ok (.lconst 0, 1) := by decide +kernel
theorem dX12_one_74 : decode cX12_one 74 = .ok (.lcmp, 1) := by decide +kernel
theorem dX12_one_75 : decode cX12_one 75 = .ok (.ifCond .ne 7, 3) := by decide +kernel
theorem dX12_one_78 : decode cX12_one 78 = .ok (.lconst 0, 1) := by decide +kernel
theorem dX12_one_79 : decode cX12_one 79 = .ok (.goto 6, 3) := by decide +kernel
theorem dX12_one_82 : decode cX12_one 82 = .ok (.lload_n 1, 1) := by decide +kernel
theorem dX12_one_83 : decode cX12_one 83 = .ok (.lload_n 3, 1) := by decide +kernel
theorem dX12_one_84 : decode cX12_one 84 = .ok (.ldiv, 1) := by decide +kernel
theorem dX12_one_85 : decode cX12_one 85 = .ok (.lreturn, 1) := by decide +kernel
theorem dX12_one_86 : decode cX12_one 86 = .ok (.lload_n 1, 1) := by decide +kernel
theorem dX12_one_87 : decode cX12_one 87 = .ok (.lload_n 3, 1) := by decide +kernel
theorem dX12_one_88 : decode cX12_one 88 = .ok (.lcmp, 1) := by decide +kernel
theorem dX12_one_89 : decode cX12_one 89 = .ok (.ifCond .ge 7, 3) := by decide +kernel
theorem dX12_one_92 : decode cX12_one 92 = .ok (.lconst 1, 1) := by decide +kernel
theorem dX12_one_93 : decode cX12_one 93 = .ok (.goto 4, 3) := by decide +kernel
theorem dX12_one_96 : decode cX12_one 96 = .ok (.lconst 0, 1) := by decide +kernel
theorem dX12_one_97 : decode cX12_one 97 = .ok (.lreturn, 1) := by decide +kernel
theorem dX12_one_98 : decode cX12_one 98 = .ok (.lload_n 1, 1) := by decide +kernel
theorem dX12_one_99 : decode cX12_one 99 = .ok (.lload_n 3, 1) := by decide +kernel
theorem dX12_one_100 : decode cX12_one 100 = .ok (.lcmp, 1) := by decide +kernel
theorem dX12_one_101 : decode cX12_one 101 = .ok (.ifCond .gt 7, 3) := by decide +kernel
theorem dX12_one_104 : decode cX12_one 104 = .ok (.lconst 1, 1) := by decide +kernel
theorem dX12_one_105 : decode cX12_one 105 = .ok (.goto 4, 3) := by decide +kernel
theorem dX12_one_108 : decode cX12_one 108 = .ok (.lconst 0, 1) := by decide +kernel
theorem dX12_one_109 : decode cX12_one 109 = .ok (.lreturn, 1) := by decide +kernel
theorem dX12_one_110 : decode cX12_one 110 = .ok (.lload_n 1, 1) := by decide +kernel
theorem dX12_one_111 : decode cX12_one 111 = .ok (.lload_n 3, 1) := by decide +kernel
theorem dX12_one_112 : decode cX12_one 112 = .ok (.lcmp, 1) := by decide +kernel
theorem dX12_one_113 : decode cX12_one 113 = .ok (.ifCond .ne 7, 3) := by decide +kernel
theorem dX12_one_116 : decode cX12_one 116 = .ok (.lconst 1, 1) := by decide +kernel
theorem dX12_one_117 : decode cX12_one 117 = .ok (.goto 4, 3) := by decide +kernel
theorem dX12_one_120 : decode cX12_one 120 = .ok (.lconst 0, 1) := by decide +kernel
theorem dX12_one_121 : decode cX12_one 121 = .ok (.lreturn, 1) := by decide +kernel
theorem dX12_one_122 : decode cX12_one 122 = .ok (.lload_n 1, 1) := by decide +kernel
theorem dX12_one_123 : decode cX12_one 123 = .ok (.lload_n 3, 1) := by decide +kernel
theorem dX12_one_124 : decode cX12_one 124 = .ok (.lcmp, 1) := by decide +kernel
theorem dX12_one_125 : decode cX12_one 125 = .ok (.ifCond .lt 7, 3) := by decide +kernel
theorem dX12_one_128 : decode cX12_one 128 = .ok (.lconst 1, 1) := by decide +kernel
theorem dX12_one_129 : decode cX12_one 129 = .ok (.goto 4, 3) := by decide +kernel
theorem dX12_one_132 : decode cX12_one 132 = .ok (.lconst 0, 1) := by decide +kernel
theorem dX12_one_133 : decode cX12_one 133 = .ok (.lreturn, 1) := by decide +kernel
theorem dX12_one_134 : decode cX12_one 134 = .ok (.lload_n 1, 1) := by decide +kernel
theorem dX12_one_135 : decode cX12_one 135 = .ok (.lload_n 3, 1) := by decide +kernel
theorem dX12_one_136 : decode cX12_one 136 = .ok (.lcmp, 1) := by decide +kernel
theorem dX12_one_137 : decode cX12_one 137 = .ok (.ifCond .le 7, 3) := by decide +kernel
theorem dX12_one_140 : decode cX12_one 140 = .ok (.lconst 1, 1) := by decide +kernel
theorem dX12_one_141 : decode cX12_one 141 = .ok (.goto 4, 3) := by decide +kernel
theorem dX12_one_144 : decode cX12_one 144 = .ok (.lconst 0, 1) := by decide +kernel
theorem dX12_one_145 : decode cX12_one 145 = .ok (.lreturn, 1) := by decide +kernel
theorem dX12_one_146 : decode cX12_one 146 = .ok (.lload_n 1, 1) := by decide +kernel
theorem dX12_one_147 : decode cX12_one 147 = .ok (.lload_n 3, 1) := by decide +kernel
theorem dX12_one_148 : decode cX12_one 148 = .ok (.land, 1) := by decide +kernel
theorem dX12_one_149 : decode cX12_one 149 = .ok (.lreturn, 1) := by decide +kernel
theorem dX12_one_150 : decode cX12_one 150 = .ok (.lload_n 1, 1) := by decide +kernel
theorem dX12_one_151 : decode cX12_one 151 = .ok (.lload_n 3, 1) := by decide +kernel
theorem dX12_one_152 : decode cX12_one 152 = .ok (.lor, 1) := by decide +kernel
theorem dX12_one_153 : decode cX12_one 153 = .ok (.lreturn, 1) := by decide +kernel
theorem dX12_isHolding_0 : decode cX12_isHolding 0 = .ok (.bipush 60, 2) := by decide +kernel
theorem dX12_isHolding_2 : decode cX12_isHolding 2 = .ok (.iload_n 1, 1) := by decide +kernel
theorem dX12_isHolding_3 : decode cX12_isHolding 3 = .ok (.imul, 1) := by decide +kernel
theorem dX12_isHolding_4 : decode cX12_isHolding 4 = .ok (.iconst 5, 1) := by decide +kernel
theorem dX12_isHolding_5 : decode cX12_isHolding 5 = .ok (.iload_n 2, 1) := by decide +kernel
theorem dX12_isHolding_6 : decode cX12_isHolding 6 = .ok (.imul, 1) := by decide +kernel
theorem dX12_isHolding_7 : decode cX12_isHolding 7 = .ok (.iadd, 1) := by decide +kernel
theorem dX12_isHolding_8 : decode cX12_isHolding 8 = .ok (.istore_n 3, 1) := by decide +kernel
theorem dX12_isHolding_9 : decode cX12_isHolding 9 = .ok (.aload_n 0, 1) := by decide +kernel
theorem dX12_isHolding_10 : decode cX12_isHolding 10 = .ok (.getfield 23, 3) := by decide +kernel
theorem dX12_isHolding_13 : decode cX12_isHolding 13 = .ok (.iload_n 3, 1) := by decide +kernel
theorem dX12_isHolding_14 : decode cX12_isHolding 14 = .ok (.iconst 3, 1) := by decide +kernel
theorem dX12_isHolding_15 : decode cX12_isHolding 15 = .ok (.iadd, 1) := by decide +kernel
theorem dX12_isHolding_16 : decode cX12_isHolding 16 = .ok (.iaload, 1) := by decide +kernel
theorem dX12_isHolding_17 : decode cX12_isHolding 17 = .ok (.ifCond .lt 29, 3) := by decide +kernel
theorem dX12_isHolding_20 : decode cX12_isHolding 20 = .ok (.aload_n 0, 1) := by decide +kernel
theorem dX12_isHolding_21 : decode cX12_isHolding 21 = .ok (.iload_n 1, 1) := by decide +kernel
theorem dX12_isHolding_22 : decode cX12_isHolding 22 = .ok (.aload_n 0, 1) := by decide +kernel
theorem dX12_isHolding_23 : decode cX12_isHolding 23 = .ok (.getfield 23, 3) := by decide +kernel
theorem dX12_isHolding_26 : decode cX12_isHolding 26 = .ok (.iload_n 3, 1) := by decide +kernel
theorem dX12_isHolding_27 : decode cX12_isHolding 27 = .ok (.iconst 3, 1) := by decide +kernel
theorem dX12_isHolding_28 : decode cX12_isHolding 28 = .ok (.iadd, 1) := by decide +kernel
theorem dX12_isHolding_29 : decode cX12_isHolding 29 = .ok (.iaload, 1) := by decide +kernel
theorem dX12_isHolding_30 : decode cX12_isHolding 30 = .ok (.aload_n 0, 1) := by decide +kernel
theorem dX12_isHolding_31 : decode cX12_isHolding 31 = .ok (.getfield 23, 3) := by decide +kernel
theorem dX12_isHolding_34 : decode cX12_isHolding 34 = .ok (.iload_n 3, 1) := by decide +kernel
theorem dX12_isHolding_35 : decode cX12_isHolding 35 = .ok (.iconst 4, 1) := by decide +kernel
theorem dX12_isHolding_36 : decode cX12_isHolding 36 = .ok (.iadd, 1) := by decide +kernel
theorem dX12_isHolding_37 : decode cX12_isHolding 37 = .ok (.iaload, 1) := by decide +kernel
theorem dX12_isHolding_38 : decode cX12_isHolding 38 = .ok (.invokevirtual 306, 3) := by decide +kernel
theorem dX12_isHolding_41 : decode cX12_isHolding 41 = .ok (.lconst 1, 1) := by decide +kernel
theorem dX12_isHolding_42 : decode cX12_isHolding 42 = .ok (.lcmp, 1) := by decide +kernel
theorem dX12_isHolding_43 : decode cX12_isHolding 43 = .ok (.ifCond .ne 7, 3) := by decide +kernel
theorem dX12_isHolding_46 : decode cX12_isHolding 46 = .ok (.iconst 1, 1) := by decide +kernel
theorem dX12_isHolding_47 : decode cX12_isHolding 47 = .ok (.goto 4, 3) := by decide +kernel
theorem dX12_isHolding_50 : decode cX12_isHolding 50 = .ok (.iconst 0, 1) := by decide +kernel
theorem dX12_isHolding_51 : decode cX12_isHolding 51 = .ok (.ireturn, 1) := by decide +kernel
theorem dX12_placeOf_0 : decode cX12_placeOf 0 = .ok (.sipush 1608, 3) := by decide +kernel
theorem dX12_placeOf_3 : decode cX12_placeOf 3 = .ok (.bipush 12, 2) := by decide +kernel
theorem dX12_placeOf_5 : decode cX12_placeOf 5 = .ok (.iload_n 0, 1) := by decide +kernel
theorem dX12_placeOf_6 : decode cX12_placeOf 6 = .ok (.imul, 1) := by decide +kernel
theorem dX12_placeOf_7 : decode cX12_placeOf 7 = .ok (.iadd, 1) := by decide +kernel
theorem dX12_placeOf_8 : decode cX12_placeOf 8 = .ok (.ireturn, 1) := by decide +kernel
theorem dX12_isThing_0 : decode cX12_isThing 0 = .ok (.iload_n 1, 1) := by decide +kernel
theorem dX12_isThing_1 : decode cX12_isThing 1 = .ok (.ifCond .lt 23, 3) := by decide +kernel
theorem dX12_isThing_4 : decode cX12_isThing 4 = .ok (.iload_n 1, 1) := by decide +kernel
theorem dX12_isThing_5 : decode cX12_isThing 5 = .ok (.bipush 30, 2) := by decide +kernel
theorem dX12_isThing_7 : decode cX12_isThing 7 = .ok (.if_icmp .ge 17, 3) := by decide +kernel
theorem dX12_isThing_10 : decode cX12_isThing 10 = .ok (.aload_n 0, 1) := by decide +kernel
theorem dX12_isThing_11 : decode cX12_isThing 11 = .ok (.iload_n 1, 1) := by decide +kernel
theorem dX12_isThing_12 : decode cX12_isThing 12 = .ok (.iconst 0, 1) := by decide +kernel
theorem dX12_isThing_13 : decode cX12_isThing 13 = .ok (.invokevirtual 310, 3) := by decide +kernel
theorem dX12_isThing_16 : decode cX12_isThing 16 = .ok (.iconst 1, 1) := by decide +kernel
theorem dX12_isThing_17 : decode cX12_isThing 17 = .ok (.if_icmp .ne 7, 3) := by decide +kernel
theorem dX12_isThing_20 : decode cX12_isThing 20 = .ok (.iconst 1, 1) := by decide +kernel
theorem dX12_isThing_21 : decode cX12_isThing 21 = .ok (.goto 4, 3) := by decide +kernel
theorem dX12_isThing_24 : decode cX12_isThing 24 = .ok (.iconst 0, 1) := by decide +kernel
theorem dX12_isThing_25 : decode cX12_isThing 25 = .ok (.ireturn, 1) := by decide +kernel
theorem dX12_isFamily_0 : decode cX12_isFamily 0 = .ok (.iload_n 0, 1) := by decide +kernel
theorem dX12_isFamily_1 : decode cX12_isFamily 1 = .ok (.ifCond .lt 13, 3) := by decide +kernel
theorem dX12_isFamily_4 : decode cX12_isFamily 4 = .ok (.iload_n 0, 1) := by decide +kernel
theorem dX12_isFamily_5 : decode cX12_isFamily 5 = .ok (.bipush 12, 2) := by decide +kernel
theorem dX12_isFamily_7 : decode cX12_isFamily 7 = .ok (.if_icmp .ge 7, 3) := by decide +kernel
theorem dX12_isFamily_10 : decode cX12_isFamily 10 = .ok (.iconst 1, 1) := by decide +kernel
theorem dX12_isFamily_11 : decode cX12_isFamily 11 = .ok (.goto 4, 3) := by decide +kernel
theorem dX12_isFamily_14 : decode cX12_isFamily 14 = .ok (.iconst 0, 1) := by decide +kernel
theorem dX12_isFamily_15 : decode cX12_isFamily 15 = .ok (.ireturn, 1) := by decide +kernel
theorem dX12_areClear_0 : decode cX12_areClear 0 = .ok (.iload_n 2, 1) := by decide +kernel
theorem dX12_areClear_1 : decode cX12_areClear 1 = .ok (.iload 4, 2) := by decide +kernel
theorem dX12_areClear_3 : decode cX12_areClear 3 = .ok (.if_icmp .lt 21, 3) := by decide +kernel
theorem dX12_areClear_6 : decode cX12_areClear 6 = .ok (.iload 6, 2) := by decide +kernel
theorem dX12_areClear_8 : decode cX12_areClear 8 = .ok (.iload_n 0, 1) := by decide +kernel
theorem dX12_areClear_9 : decode cX12_areClear 9 = .ok (.if_icmp .lt 15, 3) := by decide +kernel
theorem dX12_areClear_12 : decode cX12_areClear 12 = .ok (.iload_n 3, 1) := by decide +kernel
theorem dX12_areClear_13 : decode cX12_areClear 13 = .ok (.iload 5, 2) := by decide +kernel
theorem dX12_areClear_15 : decode cX12_areClear 15 = .ok (.if_icmp .lt 9, 3) := by decide +kernel
theorem dX12_areClear_18 : decode cX12_areClear 18 = .ok (.iload 7, 2) := by decide +kernel
theorem dX12_areClear_20 : decode cX12_areClear 20 = .ok (.iload_n 1, 1) := by decide +kernel
theorem dX12_areClear_21 : decode cX12_areClear 21 = .ok (.if_icmp .ge 7, 3) := by decide +kernel
theorem dX12_areClear_24 : decode cX12_areClear 24 = .ok (.iconst 1, 1) := by decide +kernel
theorem dX12_areClear_25 : decode cX12_areClear 25 = .ok (.goto 4, 3) := by decide +kernel
theorem dX12_areClear_28 : decode cX12_areClear 28 = .ok (.iconst 0, 1) := by decide +kernel
theorem dX12_areClear_29 : decode cX12_areClear 29 = .ok (.ireturn, 1) := by decide +kernel
theorem dX12_cellsOf_0 : decode cX12_cellsOf 0 = .ok (.aload_n 0, 1) := by decide +kernel
theorem dX12_cellsOf_1 : decode cX12_cellsOf 1 = .ok (.iload_n 1, 1) := by decide +kernel
theorem dX12_cellsOf_2 : decode cX12_cellsOf 2 = .ok (.iconst 3, 1) := by decide +kernel
theorem dX12_cellsOf_3 : decode cX12_cellsOf 3 = .ok (.invokevirtual 310, 3) := by decide +kernel
theorem dX12_cellsOf_6 : decode cX12_cellsOf 6 = .ok (.aload_n 0, 1) := by decide +kernel
theorem dX12_cellsOf_7 : decode cX12_cellsOf 7 = .ok (.iload_n 1, 1) := by decide +kernel
theorem dX12_cellsOf_8 : decode cX12_cellsOf 8 = .ok (.iconst 1, 1) := by decide +kernel
theorem dX12_cellsOf_9 : decode cX12_cellsOf 9 = .ok (.invokevirtual 310, 3) := by decide +kernel
theorem dX12_cellsOf_12 : decode cX12_cellsOf 12 = .ok (.isub, 1) := by decide +kernel
theorem dX12_cellsOf_13 : decode cX12_cellsOf 13 = .ok (.aload_n 0, 1) := by decide +kernel
theorem dX12_cellsOf_14 : decode cX12_cellsOf 14 = .ok (.iload_n 1, 1) := by decide +kernel
theorem dX12_cellsOf_15 : decode cX12_cellsOf 15 = .ok (.iconst 4, 1) := by decide +kernel
theorem dX12_cellsOf_16 : decode cX12_cellsOf 16 = .ok (.invokevirtual 310, 3) := by decide +kernel
theorem dX12_cellsOf_19 : decode cX12_cellsOf 19 = .ok (.aload_n 0, 1) := by decide +kernel
theorem dX12_cellsOf_20 : decode cX12_cellsOf 20 = .ok (.iload_n 1, 1) := by decide +kernel
theorem dX12_cellsOf_21 : decode cX12_cellsOf 21 = .ok (.iconst 2, 1) := by decide +kernel
theorem dX12_cellsOf_22 : decode cX12_cellsOf 22 = .ok (.invokevirtual 310, 3) := by decide +kernel
theorem dX12_cellsOf_25 : decode cX12_cellsOf 25 = .ok (.isub, 1) := by decide +kernel
theorem dX12_cellsOf_26 : decode cX12_cellsOf 26 = .ok (.imul, 1) := by decide +kernel
theorem dX12_cellsOf_27 : decode cX12_cellsOf 27 = .ok (.ireturn, 1) := by decide +kernel
theorem dX12_liesIn_0 : decode cX12_liesIn 0 = .ok (.aload_n 0, 1) := by decide +kernel
theorem dX12_liesIn_1 : decode cX12_liesIn 1 = .ok (.iload_n 1, 1) := by decide +kernel
theorem dX12_liesIn_2 : decode cX12_liesIn 2 = .ok (.bipush 6, 2) := by decide +kernel
theorem dX12_liesIn_4 : decode cX12_liesIn 4 = .ok (.invokevirtual 310, 3) := by decide +kernel
theorem dX12_liesIn_7 : decode cX12_liesIn 7 = .ok (.istore_n 3, 1) := by decide +kernel
theorem dX12_liesIn_8 : decode cX12_liesIn 8 = .ok (.iload_n 3, 1) := by decide +kernel
theorem dX12_liesIn_9 : decode cX12_liesIn 9 = .ok (.iconst (-1), 1) := by decide +kernel
theorem dX12_liesIn_10 : decode cX12_liesIn 10 = .ok (.if_icmp .eq 19, 3) := by decide +kernel
theorem dX12_liesIn_13 : decode cX12_liesIn 13 = .ok (.iload_n 3, 1) := by decide +kernel
theorem dX12_liesIn_14 : decode cX12_liesIn 14 = .ok (.iload_n 2, 1) := by decide +kernel
theorem dX12_liesIn_15 : decode cX12_liesIn 15 = .ok (.if_icmp .eq 14, 3) := by decide +kernel
theorem dX12_liesIn_18 : decode cX12_liesIn 18 = .ok (.aload_n 0, 1) := by decide +kernel
theorem dX12_liesIn_19 : decode cX12_liesIn 19 = .ok (.iload_n 3, 1) := by decide +kernel
theorem dX12_liesIn_20 : decode cX12_liesIn 20 = .ok (.bipush 6, 2) := by decide +kernel
theorem dX12_liesIn_22 : decode cX12_liesIn 22 = .ok (.invokevirtual 310, 3) := by decide +kernel
theorem dX12_liesIn_25 : decode cX12_liesIn 25 = .ok (.istore_n 3, 1) := by decide +kernel
theorem dX12_liesIn_26 : decode cX12_liesIn 26 = .ok (.goto (-18), 3) := by decide +kernel
theorem dX12_liesIn_29 : decode cX12_liesIn 29 = .ok (.iload_n 3, 1) := by decide +kernel
theorem dX12_liesIn_30 : decode cX12_liesIn 30 = .ok (.iload_n 2, 1) := by decide +kernel
theorem dX12_liesIn_31 : decode cX12_liesIn 31 = .ok (.if_icmp .ne 7, 3) := by decide +kernel
theorem dX12_liesIn_34 : decode cX12_liesIn 34 = .ok (.iconst 1, 1) := by decide +kernel
theorem dX12_liesIn_35 : decode cX12_liesIn 35 = .ok (.goto 4, 3) := by decide +kernel
theorem dX12_liesIn_38 : decode cX12_liesIn 38 = .ok (.iconst 0, 1) := by decide +kernel
theorem dX12_liesIn_39 : decode cX12_liesIn 39 = .ok (.ireturn, 1) := by decide +kernel
theorem dX12_isRiver_0 : decode cX12_isRiver 0 = .ok (.iload_n 1, 1) := by decide +kernel
theorem dX12_isRiver_1 : decode cX12_isRiver 1 = .ok (.i2l, 1) := by decide +kernel
theorem dX12_isRiver_2 : decode cX12_isRiver 2 = .ok (.lconst 0, 1) := by decide +kernel
theorem dX12_isRiver_3 : decode cX12_isRiver 3 = .ok (.aload_n 0, 1) := by decide +kernel
theorem dX12_isRiver_4 : decode cX12_isRiver 4 = .ok (.getfield 48, 3) := by decide +kernel
theorem dX12_isRiver_7 : decode cX12_isRiver 7 = .ok (.iconst 0, 1) := by decide +kernel
theorem dX12_isRiver_8 : decode cX12_isRiver 8 = .ok (.iaload, 1) := by decide +kernel
theorem dX12_isRiver_9 : decode cX12_isRiver 9 = .ok (.iconst 1, 1) := by decide +kernel
theorem dX12_isRiver_10 : decode cX12_isRiver 10 = .ok (.isub, 1) := by decide +kernel
theorem dX12_isRiver_11 : decode cX12_isRiver 11 = .ok (.i2l, 1) := by decide +kernel
theorem dX12_isRiver_12 : decode cX12_isRiver 12 = .ok (.invokestatic 112, 3) := by decide +kernel
theorem dX12_isRiver_15 : decode cX12_isRiver 15 = .ok (.ifCond .eq 46, 3) := by decide +kernel
theorem dX12_isRiver_18 : decode cX12_isRiver 18 = .ok (.iload_n 2, 1) := by decide +kernel
theorem dX12_isRiver_19 : decode cX12_isRiver 19 = .ok (.i2l, 1) := by decide +kernel
theorem dX12_isRiver_20 : decode cX12_isRiver 20 = .ok (.lconst 0, 1) := by decide +kernel
theorem dX12_isRiver_21 : decode cX12_isRiver 21 = .ok (.aload_n 0, 1) := by decide +kernel
theorem dX12_isRiver_22 : decode cX12_isRiver 22 = .ok (.getfield 48, 3) := by decide +kernel
theorem dX12_isRiver_25 : decode cX12_isRiver 25 = .ok (.iconst 1, 1) := by decide +kernel
theorem dX12_isRiver_26 : decode cX12_isRiver 26 = .ok (.iaload, 1) := by decide +kernel
theorem dX12_isRiver_27 : decode cX12_isRiver 27 = .ok (.iconst 1, 1) := by decide +kernel
theorem dX12_isRiver_28 : decode cX12_isRiver 28 = .ok (.isub, 1) := by decide +kernel
theorem dX12_isRiver_29 : decode cX12_isRiver 29 = .ok (.i2l, 1) := by decide +kernel
theorem dX12_isRiver_30 : decode cX12_isRiver 30 = .ok (.invokestatic 112, 3) := by decide +kernel
theorem dX12_isRiver_33 : decode cX12_isRiver 33 = .ok (.ifCond .eq 28, 3) := by decide +kernel
theorem dX12_isRiver_36 : decode cX12_isRiver 36 = .ok (.aload_n 0, 1) := by decide +kernel
theorem dX12_isRiver_37 : decode cX12_isRiver 37 = .ok (.getfield 48, 3) := by decide +kernel
theorem dX12_isRiver_40 : decode cX12_isRiver 40 = .ok (.bipush 8, 2) := by decide +kernel
theorem dX12_isRiver_42 : decode cX12_isRiver 42 = .ok (.bipush 40, 2) := by decide +kernel
theorem dX12_isRiver_44 : decode cX12_isRiver 44 = .ok (.iload_n 2, 1) := by decide +kernel
theorem dX12_isRiver_45 : decode cX12_isRiver 45 = .ok (.imul, 1) := by decide +kernel
theorem dX12_isRiver_46 : decode cX12_isRiver 46 = .ok (.iadd, 1) := by decide +kernel
theorem dX12_isRiver_47 : decode cX12_isRiver 47 = .ok (.iload_n 1, 1) := by decide +kernel
theorem dX12_isRiver_48 : decode cX12_isRiver 48 = .ok (.iadd, 1) := by decide +kernel
theorem dX12_isRiver_49 : decode cX12_isRiver 49 = .ok (.iaload, 1) := by decide +kernel
theorem dX12_isRiver_50 : decode cX12_isRiver 50 = .ok (.sipush 128, 3) := by decide +kernel
theorem dX12_isRiver_53 : decode cX12_isRiver 53 = .ok (.iand, 1) := by decide +kernel
theorem dX12_isRiver_54 : decode cX12_isRiver 54 = .ok (.ifCond .eq 7, 3) := by decide +kernel
theorem dX12_isRiver_57 : decode cX12_isRiver 57 = .ok (.iconst 1, 1) := by decide +kernel
theorem dX12_isRiver_58 : decode cX12_isRiver 58 = .ok (.goto 4, 3) := by decide +kernel
theorem dX12_isRiver_61 : decode cX12_isRiver 61 = .ok (.iconst 0, 1) := by decide +kernel
theorem dX12_isRiver_62 : decode cX12_isRiver 62 = .ok (.ireturn, 1) := by decide +kernel
theorem dX12_wallsOf_0 : decode cX12_wallsOf 0 = .ok (.iconst 0, 1) := by decide +kernel
theorem dX12_wallsOf_1 : decode cX12_wallsOf 1 = .ok (.istore_n 2, 1) := by decide +kernel
theorem dX12_wallsOf_2 : decode cX12_wallsOf 2 = .ok (.bipush 6, 2) := by decide +kernel
theorem dX12_wallsOf_4 : decode cX12_wallsOf 4 = .ok (.istore_n 3, 1) := by decide +kernel
theorem dX12_wallsOf_5 : decode cX12_wallsOf 5 = .ok (.iload_n 3, 1) := by decide +kernel
theorem dX12_wallsOf_6 : decode cX12_wallsOf 6 = .ok (.bipush 54, 2) := by decide +kernel
theorem dX12_wallsOf_8 : decode cX12_wallsOf 8 = .ok (.if_icmp .ge 37, 3) := by decide +kernel
theorem dX12_wallsOf_11 : decode cX12_wallsOf 11 = .ok (.iload_n 2, 1) := by decide +kernel
theorem dX12_wallsOf_12 : decode cX12_wallsOf 12 = .ok (.aload_n 0, 1) := by decide +kernel
theorem dX12_wallsOf_13 : decode cX12_wallsOf 13 = .ok (.iload_n 3, 1) := by decide +kernel
theorem dX12_wallsOf_14 : decode cX12_wallsOf 14 = .ok (.iconst 0, 1) := by decide +kernel
theorem dX12_wallsOf_15 : decode cX12_wallsOf 15 = .ok (.invokevirtual 310, 3) := by decide +kernel
theorem dX12_wallsOf_18 : decode cX12_wallsOf 18 = .ok (.iconst 1, 1) := by decide +kernel
theorem dX12_wallsOf_19 : decode cX12_wallsOf 19 = .ok (.if_icmp .ne 17, 3) := by decide +kernel
theorem dX12_wallsOf_22 : decode cX12_wallsOf 22 = .ok (.aload_n 0, 1) := by decide +kernel
theorem dX12_wallsOf_23 : decode cX12_wallsOf 23 = .ok (.iload_n 3, 1) := by decide +kernel
theorem dX12_wallsOf_24 : decode cX12_wallsOf 24 = .ok (.iconst 5, 1) := by decide +kernel
theorem dX12_wallsOf_25 : decode cX12_wallsOf 25 = .ok (.invokevirtual 310, 3) := by decide +kernel
theorem dX12_wallsOf_28 : decode cX12_wallsOf 28 = .ok (.iload_n 1, 1) := by decide +kernel
theorem dX12_wallsOf_29 : decode cX12_wallsOf 29 = .ok (.if_icmp .ne 7, 3) := by decide +kernel
theorem dX12_wallsOf_32 : decode cX12_wallsOf 32 = .ok (.iconst 1, 1) := by decide +kernel
theorem dX12_wallsOf_33 : decode cX12_wallsOf 33 = .ok (.goto 4, 3) := by decide +kernel
theorem dX12_wallsOf_36 : decode cX12_wallsOf 36 = .ok (.iconst 0, 1) := by decide +kernel
theorem dX12_wallsOf_37 : decode cX12_wallsOf 37 = .ok (.iadd, 1) := by decide +kernel
theorem dX12_wallsOf_38 : decode cX12_wallsOf 38 = .ok (.istore_n 2, 1) := by decide +kernel
theorem dX12_wallsOf_39 : decode cX12_wallsOf 39 = .ok (.iinc 3 1, 3) := by decide +kernel
theorem dX12_wallsOf_42 : decode cX12_wallsOf 42 = .ok (.goto (-37), 3) := by decide +kernel
theorem dX12_wallsOf_45 : decode cX12_wallsOf 45 = .ok (.iload_n 2, 1) := by decide +kernel
theorem dX12_wallsOf_46 : decode cX12_wallsOf 46 = .ok (.ireturn, 1) := by decide +kernel
theorem dX12_hasThing_0 : decode cX12_hasThing 0 = .ok (.aload_n 0, 1) := by decide +kernel
theorem dX12_hasThing_1 : decode cX12_hasThing 1 = .ok (.iload_n 1, 1) := by decide +kernel
theorem dX12_hasThing_2 : decode cX12_hasThing 2 = .ok (.iconst 1, 1) := by decide +kernel
theorem dX12_hasThing_3 : decode cX12_hasThing 3 = .ok (.invokevirtual 310, 3) := by decide +kernel
theorem dX12_hasThing_6 : decode cX12_hasThing 6 = .ok (.aload_n 0, 1) := by decide +kernel
theorem dX12_hasThing_7 : decode cX12_hasThing 7 = .ok (.getfield 320, 3) := by decide +kernel
theorem dX12_hasThing_10 : decode cX12_hasThing 10 = .ok (.isub, 1) := by decide +kernel
theorem dX12_hasThing_11 : decode cX12_hasThing 11 = .ok (.i2l, 1) := by decide +kernel
theorem dX12_hasThing_12 : decode cX12_hasThing 12 = .ok (.lload_n 2, 1) := by decide +kernel
theorem dX12_hasThing_13 : decode cX12_hasThing 13 = .ok (.lcmp, 1) := by decide +kernel
theorem dX12_hasThing_14 : decode cX12_hasThing 14 = .ok (.ifCond .lt 58, 3) := by decide +kernel
theorem dX12_hasThing_17 : decode cX12_hasThing 17 = .ok (.aload_n 0, 1) := by decide +kernel
theorem dX12_hasThing_18 : decode cX12_hasThing 18 = .ok (.iload_n 1, 1) := by decide +kernel
theorem dX12_hasThing_19 : decode cX12_hasThing 19 = .ok (.iconst 2, 1) := by decide +kernel
theorem dX12_hasThing_20 : decode cX12_hasThing 20 = .ok (.invokevirtual 310, 3) := by decide +kernel
theorem dX12_hasThing_23 : decode cX12_hasThing 23 = .ok (.aload_n 0, 1) := by decide +kernel
theorem dX12_hasThing_24 : decode cX12_hasThing 24 = .ok (.getfield 323, 3) := by decide +kernel
theorem dX12_hasThing_27 : decode cX12_hasThing 27 = .ok (.isub, 1) := by decide +kernel
theorem dX12_hasThing_28 : decode cX12_hasThing 28 = .ok (.i2l, 1) := by decide +kernel
theorem dX12_hasThing_29 : decode cX12_hasThing 29 = .ok (.lload_n 2, 1) := by decide +kernel
theorem dX12_hasThing_30 : decode cX12_hasThing 30 = .ok (.lcmp, 1) := by decide +kernel
theorem dX12_hasThing_31 : decode cX12_hasThing 31 = .ok (.ifCond .lt 41, 3) := by decide +kernel
theorem dX12_hasThing_34 : decode cX12_hasThing 34 = .ok (.aload_n 0, 1) := by decide +kernel
theorem dX12_hasThing_35 : decode cX12_hasThing 35 = .ok (.getfield 326, 3) := by decide +kernel
theorem dX12_hasThing_38 : decode cX12_hasThing 38 = .ok (.aload_n 0, 1) := by decide +kernel
theorem dX12_hasThing_39 : decode cX12_hasThing 39 = .ok (.iload_n 1, 1) := by decide +kernel
theorem dX12_hasThing_40 : decode cX12_hasThing 40 = .ok (.iconst 3, 1) := by decide +kernel
theorem dX12_hasThing_41 : decode cX12_hasThing 41 = .ok (.invokevirtual 310, 3) := by decide +kernel
theorem dX12_hasThing_44 : decode cX12_hasThing 44 = .ok (.isub, 1) := by decide +kernel
theorem dX12_hasThing_45 : decode cX12_hasThing 45 = .ok (.i2l, 1) := by decide +kernel
theorem dX12_hasThing_46 : decode cX12_hasThing 46 = .ok (.lload_n 2, 1) := by decide +kernel
theorem dX12_hasThing_47 : decode cX12_hasThing 47 = .ok (.lcmp, 1) := by decide +kernel
theorem dX12_hasThing_48 : decode cX12_hasThing 48 = .ok (.ifCond .lt 24, 3) := by decide +kernel
theorem dX12_hasThing_51 : decode cX12_hasThing 51 = .ok (.aload_n 0, 1) := by decide +kernel
theorem dX12_hasThing_52 : decode cX12_hasThing 52 = .ok (.getfield 329, 3) := by decide +kernel
theorem dX12_hasThing_55 : decode cX12_hasThing 55 = .ok (.aload_n 0, 1) := by decide +kernel
theorem dX12_hasThing_56 : decode cX12_hasThing 56 = .ok (.iload_n 1, 1) := by decide +kernel
theorem dX12_hasThing_57 : decode cX12_hasThing 57 = .ok (.iconst 4, 1) := by decide +kernel
theorem dX12_hasThing_58 : decode cX12_hasThing 58 = .ok (.invokevirtual 310, 3) := by decide +kernel
theorem dX12_hasThing_61 : decode cX12_hasThing 61 = .ok (.isub, 1) := by decide +kernel
theorem dX12_hasThing_62 : decode cX12_hasThing 62 = .ok (.i2l, 1) := by decide +kernel
theorem dX12_hasThing_63 : decode cX12_hasThing 63 = .ok (.lload_n 2, 1) := by decide +kernel
theorem dX12_hasThing_64 : decode cX12_hasThing 64 = .ok (.lcmp, 1) := by decide +kernel
theorem dX12_hasThing_65 : decode cX12_hasThing 65 = .ok (.ifCond .lt 7, 3) := by decide +kernel
theorem dX12_hasThing_68 : decode cX12_hasThing 68 = .ok (.iconst 1, 1) := by decide +kernel
theorem dX12_hasThing_69 : decode cX12_hasThing 69 = .ok (.goto 4, 3) := by decide +kernel
theorem dX12_hasThing_72 : decode cX12_hasThing 72 = .ok (.iconst 0, 1) := by decide +kernel
theorem dX12_hasThing_73 : decode cX12_hasThing 73 = .ok (.ireturn, 1) := by decide +kernel
theorem dX12_wordsFor_0 : decode cX12_wordsFor 0 = .ok (.iconst 0, 1) := by decide +kernel
theorem dX12_wordsFor_1 : decode cX12_wordsFor 1 = .ok (.istore_n 2, 1) := by decide +kernel
theorem dX12_wordsFor_2 : decode cX12_wordsFor 2 = .ok (.iload_n 2, 1) := by decide +kernel
theorem dX12_wordsFor_3 : decode cX12_wordsFor 3 = .ok (.bipush 12, 2) := by decide +kernel
theorem dX12_wordsFor_5 : decode cX12_wordsFor 5 = .ok (.if_icmp .ge 16, 3) := by decide +kernel
theorem dX12_wordsFor_8 : decode cX12_wordsFor 8 = .ok (.aload_n 0, 1) := by decide +kernel
theorem dX12_wordsFor_9 : decode cX12_wordsFor 9 = .ok (.getfield 45, 3) := by decide +kernel
theorem dX12_wordsFor_12 : decode cX12_wordsFor 12 = .ok (.iload_n 2, 1) := by decide +kernel
theorem dX12_wordsFor_13 : decode cX12_wordsFor 13 = .ok (.lconst 0, 1) := by decide +kernel
theorem dX12_wordsFor_14 : decode cX12_wordsFor 14 = .ok (.lastore, 1) := by decide +kernel
theorem dX12_wordsFor_15 : decode cX12_wordsFor 15 = .ok (.iinc 2 1, 3) := by decide +kernel
theorem dX12_wordsFor_18 : decode cX12_wordsFor 18 = .ok (.goto (-16), 3) := by decide +kernel
theorem dX12_wordsFor_21 : decode cX12_wordsFor 21 = .ok (.aload_n 0, 1) := by decide +kernel
theorem dX12_wordsFor_22 : decode cX12_wordsFor 22 = .ok (.getfield 45, 3) := by decide +kernel
theorem dX12_wordsFor_25 : decode cX12_wordsFor 25 = .ok (.iconst 1, 1) := by decide +kernel
theorem dX12_wordsFor_26 : decode cX12_wordsFor 26 = .ok (.aload_n 0, 1) := by decide +kernel
theorem dX12_wordsFor_27 : decode cX12_wordsFor 27 = .ok (.getfield 326, 3) := by decide +kernel
theorem dX12_wordsFor_30 : decode cX12_wordsFor 30 = .ok (.aload_n 0, 1) := by decide +kernel
theorem dX12_wordsFor_31 : decode cX12_wordsFor 31 = .ok (.getfield 320, 3) := by decide +kernel
theorem dX12_wordsFor_34 : decode cX12_wordsFor 34 = .ok (.isub, 1) := by decide +kernel
theorem dX12_wordsFor_35 : decode cX12_wordsFor 35 = .ok (.i2l, 1) := by decide +kernel
theorem dX12_wordsFor_36 : decode cX12_wordsFor 36 = .ok (.lastore, 1) := by decide +kernel
theorem dX12_wordsFor_37 : decode cX12_wordsFor 37 = .ok (.aload_n 0, 1) := by decide +kernel
theorem dX12_wordsFor_38 : decode cX12_wordsFor 38 = .ok (.getfield 45, 3) := by decide +kernel
theorem dX12_wordsFor_41 : decode cX12_wordsFor 41 = .ok (.iconst 2, 1) := by decide +kernel
theorem dX12_wordsFor_42 : decode cX12_wordsFor 42 = .ok (.aload_n 0, 1) := by decide +kernel
theorem dX12_wordsFor_43 : decode cX12_wordsFor 43 = .ok (.getfield 329, 3) := by decide +kernel
theorem dX12_wordsFor_46 : decode cX12_wordsFor 46 = .ok (.aload_n 0, 1) := by decide +kernel
theorem dX12_wordsFor_47 : decode cX12_wordsFor 47 = .ok (.getfield 323, 3) := by decide +kernel
theorem dX12_wordsFor_50 : decode cX12_wordsFor 50 = .ok (.isub, 1) := by decide +kernel
theorem dX12_wordsFor_51 : decode cX12_wordsFor 51 = .ok (.i2l, 1) := by decide +kernel
theorem dX12_wordsFor_52 : decode cX12_wordsFor 52 = .ok (.lastore, 1) := by decide +kernel
theorem dX12_wordsFor_53 : decode cX12_wordsFor 53 = .ok (.aload_n 0, 1) := by decide +kernel
theorem dX12_wordsFor_54 : decode cX12_wordsFor 54 = .ok (.getfield 45, 3) := by decide +kernel
theorem dX12_wordsFor_57 : decode cX12_wordsFor 57 = .ok (.iconst 0, 1) := by decide +kernel
theorem dX12_wordsFor_58 : decode cX12_wordsFor 58 = .ok (.ldc2_w 345, 3) := by decide +kernel
theorem dX12_wordsFor_61 : decode cX12_wordsFor 61 = .ok (.aload_n 0, 1) := by decide +kernel
theorem dX12_wordsFor_62 : decode cX12_wordsFor 62 = .ok (.getfield 45, 3) := by decide +kernel
theorem dX12_wordsFor_65 : decode cX12_wordsFor 65 = .ok (.iconst 1, 1) := by decide +kernel
theorem dX12_wordsFor_66 : decode cX12_wordsFor 66 = .ok (.laload, 1) := by decide +kernel
theorem dX12_wordsFor_67 : decode cX12_wordsFor 67 = .ok (.aload_n 0, 1) := by decide +kernel
theorem dX12_wordsFor_68 : decode cX12_wordsFor 68 = .ok (.getfield 45, 3) := by decide +kernel
theorem dX12_wordsFor_71 : decode cX12_wordsFor 71 = .ok (.iconst 2, 1) := by decide +kernel
theorem dX12_wordsFor_72 : decode cX12_wordsFor 72 = .ok (.laload, 1) := by decide +kernel
theorem dX12_wordsFor_73 : decode cX12_wordsFor 73 = .ok (.ladd, 1) := by decide +kernel
theorem dX12_wordsFor_74 : decode cX12_wordsFor 74 = .ok (.lmul, 1) := by decide +kernel
theorem dX12_wordsFor_75 : decode cX12_wordsFor 75 = .ok (.lastore, 1) := by decide +kernel
theorem dX12_wordsFor_76 : decode cX12_wordsFor 76 = .ok (.aload_n 0, 1) := by decide +kernel
theorem dX12_wordsFor_77 : decode cX12_wordsFor 77 = .ok (.getfield 323, 3) := by decide +kernel
theorem dX12_wordsFor_80 : decode cX12_wordsFor 80 = .ok (.istore_n 2, 1) := by decide +kernel
theorem dX12_wordsFor_81 : decode cX12_wordsFor 81 = .ok (.iload_n 2, 1) := by decide +kernel
theorem dX12_wordsFor_82 : decode cX12_wordsFor 82 = .ok (.aload_n 0, 1) := by decide +kernel
theorem dX12_wordsFor_83 : decode cX12_wordsFor 83 = .ok (.getfield 329, 3) := by decide +kernel
theorem dX12_wordsFor_86 : decode cX12_wordsFor 86 = .ok (.if_icmp .ge 142, 3) := by decide +kernel
theorem dX12_wordsFor_89 : decode cX12_wordsFor 89 = .ok (.aload_n 0, 1) := by decide +kernel
theorem dX12_wordsFor_90 : decode cX12_wordsFor 90 = .ok (.getfield 320, 3) := by decide +kernel
theorem dX12_wordsFor_93 : decode cX12_wordsFor 93 = .ok (.istore_n 3, 1) := by decide +kernel
theorem dX12_wordsFor_94 : decode cX12_wordsFor 94 = .ok (.iload_n 3, 1) := by decide +kernel
theorem dX12_wordsFor_95 : decode cX12_wordsFor 95 = .ok (.aload_n 0, 1) := by decide +kernel
theorem dX12_wordsFor_96 : decode cX12_wordsFor 96 = .ok (.getfield 326, 3) := by decide +kernel
theorem dX12_wordsFor_99 : decode cX12_wordsFor 99 = .ok (.if_icmp .ge 123, 3) := by decide +kernel
theorem dX12_wordsFor_102 : decode cX12_wordsFor 102 = .ok (.aload_n 0, 1) := by decide +kernel
theorem dX12_wordsFor_103 : decode cX12_wordsFor 103 = .ok (.aload_n 0, 1) := by decide +kernel
theorem dX12_wordsFor_104 : decode cX12_wordsFor 104 = .ok (.getfield 332, 3) := by decide +kernel
theorem dX12_wordsFor_107 : decode cX12_wordsFor 107 = .ok (.iload_n 3, 1) := by decide +kernel
theorem dX12_wordsFor_108 : decode cX12_wordsFor 108 = .ok (.iload_n 2, 1) := by decide +kernel
theorem dX12_wordsFor_109 : decode cX12_wordsFor 109 = .ok (.invokevirtual 347, 3) := by decide +kernel
theorem dX12_wordsFor_112 : decode cX12_wordsFor 112 = .ok (.ifCond .ne 104, 3) := by decide +kernel
theorem dX12_wordsFor_115 : decode cX12_wordsFor 115 = .ok (.aload_n 0, 1) := by decide +kernel
theorem dX12_wordsFor_116 : decode cX12_wordsFor 116 = .ok (.getfield 335, 3) := by decide +kernel
theorem dX12_wordsFor_119 : decode cX12_wordsFor 119 = .ok (.iconst (-1), 1) := by decide +kernel
theorem dX12_wordsFor_120 : decode cX12_wordsFor 120 = .ok (.if_icmp .eq 19, 3) := by decide +kernel
theorem dX12_wordsFor_123 : decode cX12_wordsFor 123 = .ok (.aload_n 0, 1) := by decide +kernel
theorem dX12_wordsFor_124 : decode cX12_wordsFor 124 = .ok (.aload_n 0, 1) := by decide +kernel
theorem dX12_wordsFor_125 : decode cX12_wordsFor 125 = .ok (.getfield 335, 3) := by decide +kernel
theorem dX12_wordsFor_128 : decode cX12_wordsFor 128 = .ok (.iload_n 3, 1) := by decide +kernel
theorem dX12_wordsFor_129 : decode cX12_wordsFor 129 = .ok (.iload_n 2, 1) := by decide +kernel
theorem dX12_wordsFor_130 : decode cX12_wordsFor 130 = .ok (.invokevirtual 347, 3) := by decide +kernel
theorem dX12_wordsFor_133 : decode cX12_wordsFor 133 = .ok (.ifCond .eq 6, 3) := by decide +kernel
theorem dX12_wordsFor_136 : decode cX12_wordsFor 136 = .ok (.goto 80, 3) := by decide +kernel
theorem dX12_wordsFor_139 : decode cX12_wordsFor 139 = .ok (.aload_n 0, 1) := by decide +kernel
theorem dX12_wordsFor_140 : decode cX12_wordsFor 140 = .ok (.getfield 48, 3) := by decide +kernel
theorem dX12_wordsFor_143 : decode cX12_wordsFor 143 = .ok (.bipush 8, 2) := by decide +kernel
theorem dX12_wordsFor_145 : decode cX12_wordsFor 145 = .ok (.bipush 40, 2) := by decide +kernel
theorem dX12_wordsFor_147 : decode cX12_wordsFor 147 = .ok (.iload_n 2, 1) := by decide +kernel
theorem dX12_wordsFor_148 : decode cX12_wordsFor 148 = .ok (.imul, 1) := by decide +kernel
theorem dX12_wordsFor_149 : decode cX12_wordsFor 149 = .ok (.iadd, 1) := by decide +kernel
theorem dX12_wordsFor_150 : decode cX12_wordsFor 150 = .ok (.iload_n 3, 1) := by decide +kernel
theorem dX12_wordsFor_151 : decode cX12_wordsFor 151 = .ok (.iadd, 1) := by decide +kernel
theorem dX12_wordsFor_152 : decode cX12_wordsFor 152 = .ok (.iaload, 1) := by decide +kernel
theorem dX12_wordsFor_153 : decode cX12_wordsFor 153 = .ok (.istore 4, 2) := by decide +kernel
theorem dX12_wordsFor_155 : decode cX12_wordsFor 155 = .ok (.aload_n 0, 1) := by decide +kernel
theorem dX12_wordsFor_156 : decode cX12_wordsFor 156 = .ok (.getfield 45, 3) := by decide +kernel
theorem dX12_wordsFor_159 : decode cX12_wordsFor 159 = .ok (.iconst 3, 1) := by decide +kernel
theorem dX12_wordsFor_160 : decode cX12_wordsFor 160 = .ok (.dup2, 1) := by decide +kernel
theorem dX12_wordsFor_161 : decode cX12_wordsFor 161 = .ok (.laload, 1) := by decide +kernel
theorem dX12_wordsFor_162 : decode cX12_wordsFor 162 = .ok (.lconst 1, 1) := by decide +kernel
theorem dX12_wordsFor_163 : decode cX12_wordsFor 163 = .ok (.ladd, 1) := by decide +kernel
theorem dX12_wordsFor_164 : decode cX12_wordsFor 164 = .ok (.lastore, 1) := by decide +kernel
theorem dX12_wordsFor_165 : decode cX12_wordsFor 165 = .ok (.aload_n 0, 1) := by decide +kernel
theorem dX12_wordsFor_166 : decode cX12_wordsFor 166 = .ok (.getfield 45, 3) := by decide +kernel
theorem dX12_wordsFor_169 : decode cX12_wordsFor 169 = .ok (.iconst 4, 1) := by decide +kernel
theorem dX12_wordsFor_170 : decode cX12_wordsFor 170 = .ok (.dup2, 1) := by decide +kernel
theorem dX12_wordsFor_171 : decode cX12_wordsFor 171 = .ok (.laload, 1) := by decide +kernel
theorem dX12_wordsFor_172 : decode cX12_wordsFor 172 = .ok (.iload 4, 2) := by decide +kernel
theorem dX12_wordsFor_174 : decode cX12_wordsFor 174 = .ok (.sipush 128, 3) := by decide +kernel
theorem dX12_wordsFor_177 : decode cX12_wordsFor 177 = .ok (.irem, 1) := by decide +kernel
theorem dX12_wordsFor_178 : decode cX12_wordsFor 178 = .ok (.i2l, 1) := by decide +kernel
theorem dX12_wordsFor_179 : decode cX12_wordsFor 179 = .ok (.ladd, 1) := by decide +kernel
theorem dX12_wordsFor_180 : decode cX12_wordsFor 180 = .ok (.lastore, 1) := by decide +kernel
theorem dX12_wordsFor_181 : decode cX12_wordsFor 181 = .ok (.aload_n 0, 1) := by decide +kernel
theorem dX12_wordsFor_182 : decode cX12_wordsFor 182 = .ok (.getfield 45, 3) := by decide +kernel
theorem dX12_wordsFor_185 : decode cX12_wordsFor 185 = .ok (.iconst 5, 1) := by decide +kernel
theorem dX12_wordsFor_186 : decode cX12_wordsFor 186 = .ok (.dup2, 1) := by decide +kernel
theorem dX12_wordsFor_187 : decode cX12_wordsFor 187 = .ok (.laload, 1) := by decide +kernel
theorem dX12_wordsFor_188 : decode cX12_wordsFor 188 = .ok (.iload 4, 2) := by decide +kernel
theorem dX12_wordsFor_190 : decode cX12_wordsFor 190 = .ok (.sipush 256, 3) := by decide +kernel
theorem dX12_wordsFor_193 : decode cX12_wordsFor 193 = .ok (.idiv, 1) := by decide +kernel
theorem dX12_wordsFor_194 : decode cX12_wordsFor 194 = .ok (.i2l, 1) := by decide +kernel
theorem dX12_wordsFor_195 : decode cX12_wordsFor 195 = .ok (.ladd, 1) := by decide +kernel
theorem dX12_wordsFor_196 : decode cX12_wordsFor 196 = .ok (.lastore, 1) := by decide +kernel
theorem dX12_wordsFor_197 : decode cX12_wordsFor 197 = .ok (.aload_n 0, 1) := by decide +kernel
theorem dX12_wordsFor_198 : decode cX12_wordsFor 198 = .ok (.getfield 45, 3) := by decide +kernel
theorem dX12_wordsFor_201 : decode cX12_wordsFor 201 = .ok (.bipush 6, 2) := by decide +kernel
theorem dX12_wordsFor_203 : decode cX12_wordsFor 203 = .ok (.dup2, 1) := by decide +kernel
theorem dX12_wordsFor_204 : decode cX12_wordsFor 204 = .ok (.laload, 1) := by decide +kernel
theorem dX12_wordsFor_205 : decode cX12_wordsFor 205 = .ok (.iload 4, 2) := by decide +kernel
theorem dX12_wordsFor_207 : decode cX12_wordsFor 207 = .ok (.sipush 128, 3) := by decide +kernel
theorem dX12_wordsFor_210 : decode cX12_wordsFor 210 = .ok (.idiv, 1) := by decide +kernel
theorem dX12_wordsFor_211 : decode cX12_wordsFor 211 = .ok (.iconst 2, 1) := by decide +kernel
theorem dX12_wordsFor_212 : decode cX12_wordsFor 212 = .ok (.irem, 1) := by decide +kernel
theorem dX12_wordsFor_213 : decode cX12_wordsFor 213 = .ok (.i2l, 1) := by decide +kernel
theorem dX12_wordsFor_214 : decode cX12_wordsFor 214 = .ok (.ladd, 1) := by decide +kernel
theorem dX12_wordsFor_215 : decode cX12_wordsFor 215 = .ok (.lastore, 1) := by decide +kernel
theorem dX12_wordsFor_216 : decode cX12_wordsFor 216 = .ok (.iinc 3 1, 3) := by decide +kernel
theorem dX12_wordsFor_219 : decode cX12_wordsFor 219 = .ok (.goto (-125), 3) := by decide +kernel
theorem dX12_wordsFor_222 : decode cX12_wordsFor 222 = .ok (.iinc 2 1, 3) := by decide +kernel
theorem dX12_wordsFor_225 : decode cX12_wordsFor 225 = .ok (.goto (-144), 3) := by decide +kernel
theorem dX12_wordsFor_228 : decode cX12_wordsFor 228 = .ok (.aload_n 0, 1) := by decide +kernel
theorem dX12_wordsFor_229 : decode cX12_wordsFor 229 = .ok (.getfield 45, 3) := by decide +kernel
theorem dX12_wordsFor_232 : decode cX12_wordsFor 232 = .ok (.bipush 7, 2) := by decide +kernel
theorem dX12_wordsFor_234 : decode cX12_wordsFor 234 = .ok (.aload_n 0, 1) := by decide +kernel
theorem dX12_wordsFor_235 : decode cX12_wordsFor 235 = .ok (.aload_n 0, 1) := by decide +kernel
theorem dX12_wordsFor_236 : decode cX12_wordsFor 236 = .ok (.getfield 332, 3) := by decide +kernel
theorem dX12_wordsFor_239 : decode cX12_wordsFor 239 = .ok (.invokevirtual 351, 3) := by decide +kernel
theorem dX12_wordsFor_242 : decode cX12_wordsFor 242 = .ok (.aload_n 0, 1) := by decide +kernel
theorem dX12_wordsFor_243 : decode cX12_wordsFor 243 = .ok (.getfield 332, 3) := by decide +kernel
theorem dX12_wordsFor_246 : decode cX12_wordsFor 246 = .ok (.bipush 6, 2) := by decide +kernel
theorem dX12_wordsFor_248 : decode cX12_wordsFor 248 = .ok (.if_icmp .lt 7, 3) := by decide +kernel
theorem dX12_wordsFor_251 : decode cX12_wordsFor 251 = .ok (.iconst 1, 1) := by decide +kernel
theorem dX12_wordsFor_252 : decode cX12_wordsFor 252 = .ok (.goto 4, 3) := by decide +kernel
theorem dX12_wordsFor_255 : decode cX12_wordsFor 255 = .ok (.iconst 0, 1) := by decide +kernel
theorem dX12_wordsFor_256 : decode cX12_wordsFor 256 = .ok (.iadd, 1) := by decide +kernel
theorem dX12_wordsFor_257 : decode cX12_wordsFor 257 = .ok (.i2l, 1) := by decide +kernel
theorem dX12_wordsFor_258 : decode cX12_wordsFor 258 = .ok (.lastore, 1) := by decide +kernel
theorem dX12_wordsFor_259 : decode cX12_wordsFor 259 = .ok (.aload_n 0, 1) := by decide +kernel
theorem dX12_wordsFor_260 : decode cX12_wordsFor 260 = .ok (.getfield 45, 3) := by decide +kernel
theorem dX12_wordsFor_263 : decode cX12_wordsFor 263 = .ok (.bipush 8, 2) := by decide +kernel
theorem dX12_wordsFor_265 : decode cX12_wordsFor 265 = .ok (.aload_n 0, 1) := by decide +kernel
theorem dX12_wordsFor_266 : decode cX12_wordsFor 266 = .ok (.iload_n 1, 1) := by decide +kernel
theorem dX12_wordsFor_267 : decode cX12_wordsFor 267 = .ok (.aload_n 0, 1) := by decide +kernel
theorem dX12_wordsFor_268 : decode cX12_wordsFor 268 = .ok (.getfield 332, 3) := by decide +kernel
theorem dX12_wordsFor_271 : decode cX12_wordsFor 271 = .ok (.invokevirtual 354, 3) := by decide +kernel
theorem dX12_wordsFor_274 : decode cX12_wordsFor 274 = .ok (.i2l, 1) := by decide +kernel
theorem dX12_wordsFor_275 : decode cX12_wordsFor 275 = .ok (.lastore, 1) := by decide +kernel
theorem dX12_wordsFor_276 : decode cX12_wordsFor 276 = .ok (.aload_n 0, 1) := by decide +kernel
theorem dX12_wordsFor_277 : decode cX12_wordsFor 277 = .ok (.getfield 335, 3) := by decide +kernel
theorem dX12_wordsFor_280 : decode cX12_wordsFor 280 = .ok (.iconst (-1), 1) := by decide +kernel
theorem dX12_wordsFor_281 : decode cX12_wordsFor 281 = .ok (.if_icmp .eq 65, 3) := by decide +kernel
theorem dX12_wordsFor_284 : decode cX12_wordsFor 284 = .ok (.aload_n 0, 1) := by decide +kernel
theorem dX12_wordsFor_285 : decode cX12_wordsFor 285 = .ok (.getfield 45, 3) := by decide +kernel
theorem dX12_wordsFor_288 : decode cX12_wordsFor 288 = .ok (.bipush 7, 2) := by decide +kernel
theorem dX12_wordsFor_290 : decode cX12_wordsFor 290 = .ok (.dup2, 1) := by decide +kernel
theorem dX12_wordsFor_291 : decode cX12_wordsFor 291 = .ok (.laload, 1) := by decide +kernel
theorem dX12_wordsFor_292 : decode cX12_wordsFor 292 = .ok (.aload_n 0, 1) := by decide +kernel
theorem dX12_wordsFor_293 : decode cX12_wordsFor 293 = .ok (.aload_n 0, 1) := by decide +kernel
theorem dX12_wordsFor_294 : decode cX12_wordsFor 294 = .ok (.getfield 335, 3) := by decide +kernel
theorem dX12_wordsFor_297 : decode cX12_wordsFor 297 = .ok (.invokevirtual 351, 3) := by decide +kernel
theorem dX12_wordsFor_300 : decode cX12_wordsFor 300 = .ok (.aload_n 0, 1) := by decide +kernel
theorem dX12_wordsFor_301 : decode cX12_wordsFor 301 = .ok (.getfield 335, 3) := by decide +kernel
theorem dX12_wordsFor_304 : decode cX12_wordsFor 304 = .ok (.bipush 6, 2) := by decide +kernel
theorem dX12_wordsFor_306 : decode cX12_wordsFor 306 = .ok (.if_icmp .lt 7, 3) := by decide +kernel
theorem dX12_wordsFor_309 : decode cX12_wordsFor 309 = .ok (.iconst 1, 1) := by decide +kernel
theorem dX12_wordsFor_310 : decode cX12_wordsFor 310 = .ok (.goto 4, 3) := by decide +kernel
theorem dX12_wordsFor_313 : decode cX12_wordsFor 313 = .ok (.iconst 0, 1) := by decide +kernel
theorem dX12_wordsFor_314 : decode cX12_wordsFor 314 = .ok (.iadd, 1) := by decide +kernel
theorem dX12_wordsFor_315 : decode cX12_wordsFor 315 = .ok (.i2l, 1) := by decide +kernel
theorem dX12_wordsFor_316 : decode cX12_wordsFor 316 = .ok (.ladd, 1) := by decide +kernel
theorem dX12_wordsFor_317 : decode cX12_wordsFor 317 = .ok (.lastore, 1) := by decide +kernel
theorem dX12_wordsFor_318 : decode cX12_wordsFor 318 = .ok (.aload_n 0, 1) := by decide +kernel
theorem dX12_wordsFor_319 : decode cX12_wordsFor 319 = .ok (.getfield 45, 3) := by decide +kernel
theorem dX12_wordsFor_322 : decode cX12_wordsFor 322 = .ok (.bipush 8, 2) := by decide +kernel
theorem dX12_wordsFor_324 : decode cX12_wordsFor 324 = .ok (.dup2, 1) := by decide +kernel
theorem dX12_wordsFor_325 : decode cX12_wordsFor 325 = .ok (.laload, 1) := by decide +kernel
theorem dX12_wordsFor_326 : decode cX12_wordsFor 326 = .ok (.aload_n 0, 1) := by decide +kernel
theorem dX12_wordsFor_327 : decode cX12_wordsFor 327 = .ok (.iload_n 1, 1) := by decide +kernel
theorem dX12_wordsFor_328 : decode cX12_wordsFor 328 = .ok (.aload_n 0, 1) := by decide +kernel
theorem dX12_wordsFor_329 : decode cX12_wordsFor 329 = .ok (.getfield 335, 3) := by decide +kernel
theorem dX12_wordsFor_332 : decode cX12_wordsFor 332 = .ok (.invokevirtual 354, 3) := by decide +kernel
theorem dX12_wordsFor_335 : decode cX12_wordsFor 335 = .ok (.i2l, 1) := by decide +kernel
theorem dX12_wordsFor_336 : decode cX12_wordsFor 336 = .ok (.ladd, 1) := by decide +kernel
theorem dX12_wordsFor_337 : decode cX12_wordsFor 337 = .ok (.lastore, 1) := by decide +kernel
theorem dX12_wordsFor_338 : decode cX12_wordsFor 338 = .ok (.aload_n 0, 1) := by decide +kernel
theorem dX12_wordsFor_339 : decode cX12_wordsFor 339 = .ok (.getfield 45, 3) := by decide +kernel
theorem dX12_wordsFor_342 : decode cX12_wordsFor 342 = .ok (.bipush 11, 2) := by decide +kernel
theorem dX12_wordsFor_344 : decode cX12_wordsFor 344 = .ok (.lconst 1, 1) := by decide +kernel
theorem dX12_wordsFor_345 : decode cX12_wordsFor 345 = .ok (.lastore, 1) := by decide +kernel
theorem dX12_wordsFor_346 : decode cX12_wordsFor 346 = .ok (.aload_n 0, 1) := by decide +kernel
theorem dX12_wordsFor_347 : decode cX12_wordsFor 347 = .ok (.getfield 45, 3) := by decide +kernel
theorem dX12_wordsFor_350 : decode cX12_wordsFor 350 = .ok (.bipush 9, 2) := by decide +kernel
theorem dX12_wordsFor_352 : decode cX12_wordsFor 352 = .ok (.aload_n 0, 1) := by decide +kernel
theorem dX12_wordsFor_353 : decode cX12_wordsFor 353 = .ok (.iload_n 1, 1) := by decide +kernel
theorem dX12_wordsFor_354 : decode cX12_wordsFor 354 = .ok (.invokevirtual 357, 3) := by decide +kernel
theorem dX12_wordsFor_357 : decode cX12_wordsFor 357 = .ok (.i2l, 1) := by decide +kernel
theorem dX12_wordsFor_358 : decode cX12_wordsFor 358 = .ok (.lastore, 1) := by decide +kernel
theorem dX12_wordsFor_359 : decode cX12_wordsFor 359 = .ok (.aload_n 0, 1) := by decide +kernel
theorem dX12_wordsFor_360 : decode cX12_wordsFor 360 = .ok (.getfield 45, 3) := by decide +kernel
theorem dX12_wordsFor_363 : decode cX12_wordsFor 363 = .ok (.bipush 10, 2) := by decide +kernel
theorem dX12_wordsFor_365 : decode cX12_wordsFor 365 = .ok (.aload_n 0, 1) := by decide +kernel
theorem dX12_wordsFor_366 : decode cX12_wordsFor 366 = .ok (.getfield 48, 3) := by decide +kernel
theorem dX12_wordsFor_369 : decode cX12_wordsFor 369 = .ok (.iconst 3, 1) := by decide +kernel
theorem dX12_wordsFor_370 : decode cX12_wordsFor 370 = .ok (.iaload, 1) := by decide +kernel
theorem dX12_wordsFor_371 : decode cX12_wordsFor 371 = .ok (.i2l, 1) := by decide +kernel
theorem dX12_wordsFor_372 : decode cX12_wordsFor 372 = .ok (.lastore, 1) := by decide +kernel
theorem dX12_wordsFor_373 : decode cX12_wordsFor 373 = .ok (.return_, 1) := by decide +kernel
theorem dX12_mayBy_0 : decode cX12_mayBy 0 = .ok (.iconst 0, 1) := by decide +kernel
theorem dX12_mayBy_1 : decode cX12_mayBy 1 = .ok (.istore_n 2, 1) := by decide +kernel
theorem dX12_mayBy_2 : decode cX12_mayBy 2 = .ok (.iconst 0, 1) := by decide +kernel
theorem dX12_mayBy_3 : decode cX12_mayBy 3 = .ok (.istore_n 3, 1) := by decide +kernel
theorem dX12_mayBy_4 : decode cX12_mayBy 4 = .ok (.iconst 0, 1) := by decide +kernel
theorem dX12_mayBy_5 : decode cX12_mayBy 5 = .ok (.istore 4, 2) := by decide +kernel
theorem dX12_mayBy_7 : decode cX12_mayBy 7 = .ok (.iload 4, 2) := by decide +kernel
theorem dX12_mayBy_9 : decode cX12_mayBy 9 = .ok (.aload_n 0, 1) := by decide +kernel
theorem dX12_mayBy_10 : decode cX12_mayBy 10 = .ok (.getfield 26, 3) := by decide +kernel
theorem dX12_mayBy_13 : decode cX12_mayBy 13 = .ok (.iload_n 1, 1) := by decide +kernel
theorem dX12_mayBy_14 : decode cX12_mayBy 14 = .ok (.iaload, 1) := by decide +kernel
theorem dX12_mayBy_15 : decode cX12_mayBy 15 = .ok (.if_icmp .ge 88, 3) := by decide +kernel
theorem dX12_mayBy_18 : decode cX12_mayBy 18 = .ok (.aload_n 0, 1) := by decide +kernel
theorem dX12_mayBy_19 : decode cX12_mayBy 19 = .ok (.getfield 23, 3) := by decide +kernel
theorem dX12_mayBy_22 : decode cX12_mayBy 22 = .ok (.bipush 60, 2) := by decide +kernel
theorem dX12_mayBy_24 : decode cX12_mayBy 24 = .ok (.iload_n 1, 1) := by decide +kernel
theorem dX12_mayBy_25 : decode cX12_mayBy 25 = .ok (.imul, 1) := by decide +kernel
theorem dX12_mayBy_26 : decode cX12_mayBy 26 = .ok (.iconst 5, 1) := by decide +kernel
theorem dX12_mayBy_27 : decode cX12_mayBy 27 = .ok (.iload 4, 2) := by decide +kernel
theorem dX12_mayBy_29 : decode cX12_mayBy 29 = .ok (.imul, 1) := by decide +kernel
theorem dX12_mayBy_30 : decode cX12_mayBy 30 = .ok (.iadd, 1) := by decide +kernel
theorem dX12_mayBy_31 : decode cX12_mayBy 31 = .ok (.iaload, 1) := by decide +kernel
theorem dX12_mayBy_32 : decode cX12_mayBy 32 = .ok (.istore 5, 2) := by decide +kernel
theorem dX12_mayBy_34 : decode cX12_mayBy 34 = .ok (.iload 5, 2) := by decide +kernel
theorem dX12_mayBy_36 : decode cX12_mayBy 36 = .ok (.ifCond .ne 6, 3) := by decide +kernel
theorem dX12_mayBy_39 : decode cX12_mayBy 39 = .ok (.goto 58, 3) := by decide +kernel
theorem dX12_mayBy_42 : decode cX12_mayBy 42 = .ok (.aload_n 0, 1) := by decide +kernel
theorem dX12_mayBy_43 : decode cX12_mayBy 43 = .ok (.iload_n 1, 1) := by decide +kernel
theorem dX12_mayBy_44 : decode cX12_mayBy 44 = .ok (.iload 4, 2) := by decide +kernel
theorem dX12_mayBy_46 : decode cX12_mayBy 46 = .ok (.invokevirtual 360, 3) := by decide +kernel
theorem dX12_mayBy_49 : decode cX12_mayBy 49 = .ok (.istore 6, 2) := by decide +kernel
theorem dX12_mayBy_51 : decode cX12_mayBy 51 = .ok (.iload 5, 2) := by decide +kernel
theorem dX12_mayBy_53 : decode cX12_mayBy 53 = .ok (.iconst 2, 1) := by decide +kernel
theorem dX12_mayBy_54 : decode cX12_mayBy 54 = .ok (.if_icmp .ne 10, 3) := by decide +kernel
theorem dX12_mayBy_57 : decode cX12_mayBy 57 = .ok (.iload 6, 2) := by decide +kernel
theorem dX12_mayBy_59 : decode cX12_mayBy 59 = .ok (.ifCond .eq 5, 3) := by decide +kernel
theorem dX12_mayBy_62 : decode cX12_mayBy 62 = .ok (.iconst 0, 1) := by decide +kernel
theorem dX12_mayBy_63 : decode cX12_mayBy 63 = .ok (.ireturn, 1) := by decide +kernel
theorem dX12_mayBy_64 : decode cX12_mayBy 64 = .ok (.iload_n 2, 1) := by decide +kernel
theorem dX12_mayBy_65 : decode cX12_mayBy 65 = .ok (.iload 5, 2) := by decide +kernel
theorem dX12_mayBy_67 : decode cX12_mayBy 67 = .ok (.iconst 1, 1) := by decide +kernel
theorem dX12_mayBy_68 : decode cX12_mayBy 68 = .ok (.if_icmp .ne 7, 3) := by decide +kernel
theorem dX12_mayBy_71 : decode cX12_mayBy 71 = .ok (.iconst 1, 1) := by decide +kernel
theorem dX12_mayBy_72 : decode cX12_mayBy 72 = .ok (.goto 4, 3) := by decide +kernel
theorem dX12_mayBy_75 : decode cX12_mayBy 75 = .ok (.iconst 0, 1) := by decide +kernel
theorem dX12_mayBy_76 : decode cX12_mayBy 76 = .ok (.ior, 1) := by decide +kernel
theorem dX12_mayBy_77 : decode cX12_mayBy 77 = .ok (.istore_n 2, 1) := by decide +kernel
theorem dX12_mayBy_78 : decode cX12_mayBy 78 = .ok (.iload_n 3, 1) := by decide +kernel
theorem dX12_mayBy_79 : decode cX12_mayBy 79 = .ok (.iload 5, 2) := by decide +kernel
theorem dX12_mayBy_81 : decode cX12_mayBy 81 = .ok (.iconst 1, 1) := by decide +kernel
theorem dX12_mayBy_82 : decode cX12_mayBy 82 = .ok (.if_icmp .ne 12, 3) := by decide +kernel
theorem dX12_mayBy_85 : decode cX12_mayBy 85 = .ok (.iload 6, 2) := by decide +kernel
theorem dX12_mayBy_87 : decode cX12_mayBy 87 = .ok (.ifCond .eq 7, 3) := by decide +kernel
theorem dX12_mayBy_90 : decode cX12_mayBy 90 = .ok (.iconst 1, 1) := by decide +kernel
theorem dX12_mayBy_91 : decode cX12_mayBy 91 = .ok (.goto 4, 3) := by decide +kernel
theorem dX12_mayBy_94 : decode cX12_mayBy 94 = .ok (.iconst 0, 1) := by decide +kernel
theorem dX12_mayBy_95 : decode cX12_mayBy 95 = .ok (.ior, 1) := by decide +kernel
theorem dX12_mayBy_96 : decode cX12_mayBy 96 = .ok (.istore_n 3, 1) := by decide +kernel
theorem dX12_mayBy_97 : decode cX12_mayBy 97 = .ok (.iinc 4 1, 3) := by decide +kernel
theorem dX12_mayBy_100 : decode cX12_mayBy 100 = .ok (.goto (-93), 3) := by decide +kernel
theorem dX12_mayBy_103 : decode cX12_mayBy 103 = .ok (.iload_n 3, 1) := by decide +kernel
theorem dX12_mayBy_104 : decode cX12_mayBy 104 = .ok (.ifCond .ne 7, 3) := by decide +kernel
theorem dX12_mayBy_107 : decode cX12_mayBy 107 = .ok (.iload_n 2, 1) := by decide +kernel
theorem dX12_mayBy_108 : decode cX12_mayBy 108 = .ok (.ifCond .ne 7, 3) := by decide +kernel
theorem dX12_mayBy_111 : decode cX12_mayBy 111 = .ok (.iconst 1, 1) := by decide +kernel
theorem dX12_mayBy_112 : decode cX12_mayBy 112 = .ok (.goto 4, 3) := by decide +kernel
theorem dX12_mayBy_115 : decode cX12_mayBy 115 = .ok (.iconst 0, 1) := by decide +kernel
theorem dX12_mayBy_116 : decode cX12_mayBy 116 = .ok (.ireturn, 1) := by decide +kernel
theorem dX12_isClear_0 : decode cX12_isClear 0 = .ok (.iconst 0, 1) := by decide +kernel
theorem dX12_isClear_1 : decode cX12_isClear 1 = .ok (.istore_n 1, 1) := by decide +kernel
theorem dX12_isClear_2 : decode cX12_isClear 2 = .ok (.iload_n 1, 1) := by decide +kernel
theorem dX12_isClear_3 : decode cX12_isClear 3 = .ok (.bipush 54, 2) := by decide +kernel
theorem dX12_isClear_5 : decode cX12_isClear 5 = .ok (.if_icmp .ge 91, 3) := by decide +kernel
theorem dX12_isClear_8 : decode cX12_isClear 8 = .ok (.aload_n 0, 1) := by decide +kernel
theorem dX12_isClear_9 : decode cX12_isClear 9 = .ok (.iload_n 1, 1) := by decide +kernel
theorem dX12_isClear_10 : decode cX12_isClear 10 = .ok (.iconst 0, 1) := by decide +kernel
theorem dX12_isClear_11 : decode cX12_isClear 11 = .ok (.invokevirtual 310, 3) := by decide +kernel
theorem dX12_isClear_14 : decode cX12_isClear 14 = .ok (.iconst 1, 1) := by decide +kernel
theorem dX12_isClear_15 : decode cX12_isClear 15 = .ok (.if_icmp .ne 75, 3) := by decide +kernel
theorem dX12_isClear_18 : decode cX12_isClear 18 = .ok (.aload_n 0, 1) := by decide +kernel
theorem dX12_isClear_19 : decode cX12_isClear 19 = .ok (.iload_n 1, 1) := by decide +kernel
theorem dX12_isClear_20 : decode cX12_isClear 20 = .ok (.invokevirtual 338, 3) := by decide +kernel
theorem dX12_isClear_23 : decode cX12_isClear 23 = .ok (.ifCond .eq 67, 3) := by decide +kernel
theorem dX12_isClear_26 : decode cX12_isClear 26 = .ok (.iload_n 1, 1) := by decide +kernel
theorem dX12_isClear_27 : decode cX12_isClear 27 = .ok (.aload_n 0, 1) := by decide +kernel
theorem dX12_isClear_28 : decode cX12_isClear 28 = .ok (.getfield 332, 3) := by decide +kernel
theorem dX12_isClear_31 : decode cX12_isClear 31 = .ok (.if_icmp .eq 59, 3) := by decide +kernel
theorem dX12_isClear_34 : decode cX12_isClear 34 = .ok (.iload_n 1, 1) := by decide +kernel
theorem dX12_isClear_35 : decode cX12_isClear 35 = .ok (.aload_n 0, 1) := by decide +kernel
theorem dX12_isClear_36 : decode cX12_isClear 36 = .ok (.getfield 335, 3) := by decide +kernel
theorem dX12_isClear_39 : decode cX12_isClear 39 = .ok (.if_icmp .eq 51, 3) := by decide +kernel
theorem dX12_isClear_42 : decode cX12_isClear 42 = .ok (.aload_n 0, 1) := by decide +kernel
theorem dX12_isClear_43 : decode cX12_isClear 43 = .ok (.getfield 320, 3) := by decide +kernel
theorem dX12_isClear_46 : decode cX12_isClear 46 = .ok (.aload_n 0, 1) := by decide +kernel
theorem dX12_isClear_47 : decode cX12_isClear 47 = .ok (.getfield 323, 3) := by decide +kernel
theorem dX12_isClear_50 : decode cX12_isClear 50 = .ok (.aload_n 0, 1) := by decide +kernel
theorem dX12_isClear_51 : decode cX12_isClear 51 = .ok (.getfield 326, 3) := by decide +kernel
theorem dX12_isClear_54 : decode cX12_isClear 54 = .ok (.aload_n 0, 1) := by decide +kernel
theorem dX12_isClear_55 : decode cX12_isClear 55 = .ok (.getfield 329, 3) := by decide +kernel
theorem dX12_isClear_58 : decode cX12_isClear 58 = .ok (.aload_n 0, 1) := by decide +kernel
theorem dX12_isClear_59 : decode cX12_isClear 59 = .ok (.iload_n 1, 1) := by decide +kernel
theorem dX12_isClear_60 : decode cX12_isClear 60 = .ok (.iconst 1, 1) := by decide +kernel
theorem dX12_isClear_61 : decode cX12_isClear 61 = .ok (.invokevirtual 310, 3) := by decide +kernel
theorem dX12_isClear_64 : decode cX12_isClear 64 = .ok (.aload_n 0, 1) := by decide +kernel
theorem dX12_isClear_65 : decode cX12_isClear 65 = .ok (.iload_n 1, 1) := by decide +kernel
theorem dX12_isClear_66 : decode cX12_isClear 66 = .ok (.iconst 2, 1) := by decide +kernel
theorem dX12_isClear_67 : decode cX12_isClear 67 = .ok (.invokevirtual 310, 3) := by decide +kernel
theorem dX12_isClear_70 : decode cX12_isClear 70 = .ok (.aload_n 0, 1) := by decide +kernel
theorem dX12_isClear_71 : decode cX12_isClear 71 = .ok (.iload_n 1, 1) := by decide +kernel
theorem dX12_isClear_72 : decode cX12_isClear 72 = .ok (.iconst 3, 1) := by decide +kernel
theorem dX12_isClear_73 : decode cX12_isClear 73 = .ok (.invokevirtual 310, 3) := by decide +kernel
theorem dX12_isClear_76 : decode cX12_isClear 76 = .ok (.aload_n 0, 1) := by decide +kernel
theorem dX12_isClear_77 : decode cX12_isClear 77 = .ok (.iload_n 1, 1) := by decide +kernel
theorem dX12_isClear_78 : decode cX12_isClear 78 = .ok (.iconst 4, 1) := by decide +kernel
theorem dX12_isClear_79 : decode cX12_isClear 79 = .ok (.invokevirtual 310, 3) := by decide +kernel
theorem dX12_isClear_82 : decode cX12_isClear 82 = .ok (.invokestatic 236, 3) := by decide +kernel
theorem dX12_isClear_85 : decode cX12_isClear 85 = .ok (.ifCond .ne 5, 3) := by decide +kernel
theorem dX12_isClear_88 : decode cX12_isClear 88 = .ok (.iconst 0, 1) := by decide +kernel
theorem dX12_isClear_89 : decode cX12_isClear 89 = .ok (.ireturn, 1) := by decide +kernel
theorem dX12_isClear_90 : decode cX12_isClear 90 = .ok (.iinc 1 1, 3) := by decide +kernel
theorem dX12_isClear_93 : decode cX12_isClear 93 = .ok (.goto (-91), 3) := by decide +kernel
theorem dX12_isClear_96 : decode cX12_isClear 96 = .ok (.iconst 1, 1) := by decide +kernel
theorem dX12_isClear_97 : decode cX12_isClear 97 = .ok (.ireturn, 1) := by decide +kernel
theorem dX12_wishOf_0 : decode cX12_wishOf 0 = .ok (.bipush 6, 2) := by decide +kernel
theorem dX12_wishOf_2 : decode cX12_wishOf 2 = .ok (.iload_n 1, 1) := by decide +kernel
theorem dX12_wishOf_3 : decode cX12_wishOf 3 = .ok (.iadd, 1) := by decide +kernel
theorem dX12_wishOf_4 : decode cX12_wishOf 4 = .ok (.istore_n 3, 1) := by decide +kernel
theorem dX12_wishOf_5 : decode cX12_wishOf 5 = .ok (.aload_n 0, 1) := by decide +kernel
theorem dX12_wishOf_6 : decode cX12_wishOf 6 = .ok (.iload_n 2, 1) := by decide +kernel
theorem dX12_wishOf_7 : decode cX12_wishOf 7 = .ok (.invokevirtual 385, 3) := by decide +kernel
theorem dX12_wishOf_10 : decode cX12_wishOf 10 = .ok (.lconst 0, 1) := by decide +kernel
theorem dX12_wishOf_11 : decode cX12_wishOf 11 = .ok (.lstore 4, 2) := by decide +kernel
theorem dX12_wishOf_13 : decode cX12_wishOf 13 = .ok (.iconst 0, 1) := by decide +kernel
theorem dX12_wishOf_14 : decode cX12_wishOf 14 = .ok (.istore 6, 2) := by decide +kernel
theorem dX12_wishOf_16 : decode cX12_wishOf 16 = .ok (.iload 6, 2) := by decide +kernel
theorem dX12_wishOf_18 : decode cX12_wishOf 18 = .ok (.aload_n 0, 1) := by decide +kernel
theorem dX12_wishOf_19 : decode cX12_wishOf 19 = .ok (.getfield 26, 3) := by decide +kernel
theorem dX12_wishOf_22 : decode cX12_wishOf 22 = .ok (.iload_n 3, 1) := by decide +kernel
theorem dX12_wishOf_23 : decode cX12_wishOf 23 = .ok (.iaload, 1) := by decide +kernel
theorem dX12_wishOf_24 : decode cX12_wishOf 24 = .ok (.if_icmp .ge 35, 3) := by decide +kernel
theorem dX12_wishOf_27 : decode cX12_wishOf 27 = .ok (.lload 4, 2) := by decide +kernel
theorem dX12_wishOf_29 : decode cX12_wishOf 29 = .ok (.aload_n 0, 1) := by decide +kernel
theorem dX12_wishOf_30 : decode cX12_wishOf 30 = .ok (.iload_n 3, 1) := by decide +kernel
theorem dX12_wishOf_31 : decode cX12_wishOf 31 = .ok (.iload 6, 2) := by decide +kernel
theorem dX12_wishOf_33 : decode cX12_wishOf 33 = .ok (.invokevirtual 360, 3) := by decide +kernel
theorem dX12_wishOf_36 : decode cX12_wishOf 36 = .ok (.ifCond .eq 13, 3) := by decide +kernel
theorem dX12_wishOf_39 : decode cX12_wishOf 39 = .ok (.aload_n 0, 1) := by decide +kernel
theorem dX12_wishOf_40 : decode cX12_wishOf 40 = .ok (.iload_n 3, 1) := by decide +kernel
theorem dX12_wishOf_41 : decode cX12_wishOf 41 = .ok (.iload 6, 2) := by decide +kernel
theorem dX12_wishOf_43 : decode cX12_wishOf 43 = .ok (.invokevirtual 363, 3) := by decide +kernel
theorem dX12_wishOf_46 : decode cX12_wishOf 46 = .ok (.goto 4, 3) := by decide +kernel
theorem dX12_wishOf_49 : decode cX12_wishOf 49 = .ok (.lconst 0, 1) := by decide +kernel
theorem dX12_wishOf_50 : decode cX12_wishOf 50 = .ok (.ladd, 1) := by decide +kernel
theorem dX12_wishOf_51 : decode cX12_wishOf 51 = .ok (.lstore 4, 2) := by decide +kernel
theorem dX12_wishOf_53 : decode cX12_wishOf 53 = .ok (.iinc 6 1, 3) := by decide +kernel
theorem dX12_wishOf_56 : decode cX12_wishOf 56 = .ok (.goto (-40), 3) := by decide +kernel
theorem dX12_wishOf_59 : decode cX12_wishOf 59 = .ok (.lload 4, 2) := by decide +kernel
theorem dX12_wishOf_61 : decode cX12_wishOf 61 = .ok (.lreturn, 1) := by decide +kernel
theorem dX12_pulls_0 : decode cX12_pulls 0 = .ok (.iconst 0, 1) := by decide +kernel
theorem dX12_pulls_1 : decode cX12_pulls 1 = .ok (.istore_n 2, 1) := by decide +kernel
theorem dX12_pulls_2 : decode cX12_pulls 2 = .ok (.iload_n 2, 1) := by decide +kernel
theorem dX12_pulls_3 : decode cX12_pulls 3 = .ok (.bipush 54, 2) := by decide +kernel
theorem dX12_pulls_5 : decode cX12_pulls 5 = .ok (.if_icmp .ge 49, 3) := by decide +kernel
theorem dX12_pulls_8 : decode cX12_pulls 8 = .ok (.aload_n 0, 1) := by decide +kernel
theorem dX12_pulls_9 : decode cX12_pulls 9 = .ok (.iload_n 2, 1) := by decide +kernel
theorem dX12_pulls_10 : decode cX12_pulls 10 = .ok (.iconst 0, 1) := by decide +kernel
theorem dX12_pulls_11 : decode cX12_pulls 11 = .ok (.invokevirtual 310, 3) := by decide +kernel
theorem dX12_pulls_14 : decode cX12_pulls 14 = .ok (.iconst 1, 1) := by decide +kernel
theorem dX12_pulls_15 : decode cX12_pulls 15 = .ok (.if_icmp .ne 33, 3) := by decide +kernel
theorem dX12_pulls_18 : decode cX12_pulls 18 = .ok (.aload_n 0, 1) := by decide +kernel
theorem dX12_pulls_19 : decode cX12_pulls 19 = .ok (.iload_n 2, 1) := by decide +kernel
theorem dX12_pulls_20 : decode cX12_pulls 20 = .ok (.bipush 6, 2) := by decide +kernel
theorem dX12_pulls_22 : decode cX12_pulls 22 = .ok (.invokevirtual 310, 3) := by decide +kernel
theorem dX12_pulls_25 : decode cX12_pulls 25 = .ok (.iload_n 1, 1) := by decide +kernel
theorem dX12_pulls_26 : decode cX12_pulls 26 = .ok (.if_icmp .ne 22, 3) := by decide +kernel
theorem dX12_pulls_29 : decode cX12_pulls 29 = .ok (.aload_n 0, 1) := by decide +kernel
theorem dX12_pulls_30 : decode cX12_pulls 30 = .ok (.getfield 48, 3) := by decide +kernel
theorem dX12_pulls_33 : decode cX12_pulls 33 = .ok (.iload_n 2, 1) := by decide +kernel
theorem dX12_pulls_34 : decode cX12_pulls 34 = .ok (.invokestatic 284, 3) := by decide +kernel
theorem dX12_pulls_37 : decode cX12_pulls 37 = .ok (.bipush 6, 2) := by decide +kernel
theorem dX12_pulls_39 : decode cX12_pulls 39 = .ok (.iadd, 1) := by decide +kernel
theorem dX12_pulls_40 : decode cX12_pulls 40 = .ok (.aload_n 0, 1) := by decide +kernel
theorem dX12_pulls_41 : decode cX12_pulls 41 = .ok (.iload_n 1, 1) := by decide +kernel
theorem dX12_pulls_42 : decode cX12_pulls 42 = .ok (.bipush 6, 2) := by decide +kernel
theorem dX12_pulls_44 : decode cX12_pulls 44 = .ok (.invokevirtual 310, 3) := by decide +kernel
theorem dX12_pulls_47 : decode cX12_pulls 47 = .ok (.iastore, 1) := by decide +kernel
theorem dX12_pulls_48 : decode cX12_pulls 48 = .ok (.iinc 2 1, 3) := by decide +kernel
theorem dX12_pulls_51 : decode cX12_pulls 51 = .ok (.goto (-49), 3) := by decide +kernel
theorem dX12_pulls_54 : decode cX12_pulls 54 = .ok (.aload_n 0, 1) := by decide +kernel
theorem dX12_pulls_55 : decode cX12_pulls 55 = .ok (.getfield 48, 3) := by decide +kernel
theorem dX12_pulls_58 : decode cX12_pulls 58 = .ok (.iload_n 1, 1) := by decide +kernel
theorem dX12_pulls_59 : decode cX12_pulls 59 = .ok (.invokestatic 284, 3) := by decide +kernel
theorem dX12_pulls_62 : decode cX12_pulls 62 = .ok (.iconst 0, 1) := by decide +kernel
theorem dX12_pulls_63 : decode cX12_pulls 63 = .ok (.iastore, 1) := by decide +kernel
theorem dX12_pulls_64 : decode cX12_pulls 64 = .ok (.return_, 1) := by decide +kernel
theorem dX12_areAsked_0 : decode cX12_areAsked 0 = .ok (.iload_n 1, 1) := by decide +kernel
theorem dX12_areAsked_1 : decode cX12_areAsked 1 = .ok (.invokestatic 395, 3) := by decide +kernel
theorem dX12_areAsked_4 : decode cX12_areAsked 4 = .ok (.ifCond .eq 28, 3) := by decide +kernel
theorem dX12_areAsked_7 : decode cX12_areAsked 7 = .ok (.aload_n 0, 1) := by decide +kernel
theorem dX12_areAsked_8 : decode cX12_areAsked 8 = .ok (.iload_n 2, 1) := by decide +kernel
theorem dX12_areAsked_9 : decode cX12_areAsked 9 = .ok (.invokevirtual 314, 3) := by decide +kernel
theorem dX12_areAsked_12 : decode cX12_areAsked 12 = .ok (.ifCond .eq 20, 3) := by decide +kernel
theorem dX12_areAsked_15 : decode cX12_areAsked 15 = .ok (.iload_n 3, 1) := by decide +kernel
theorem dX12_areAsked_16 : decode cX12_areAsked 16 = .ok (.iconst (-1), 1) := by decide +kernel
theorem dX12_areAsked_17 : decode cX12_areAsked 17 = .ok (.if_icmp .eq 11, 3) := by decide +kernel
theorem dX12_areAsked_20 : decode cX12_areAsked 20 = .ok (.aload_n 0, 1) := by decide +kernel
theorem dX12_areAsked_21 : decode cX12_areAsked 21 = .ok (.iload_n 3, 1) := by decide +kernel
theorem dX12_areAsked_22 : decode cX12_areAsked 22 = .ok (.invokevirtual 314, 3) := by decide +kernel
theorem dX12_areAsked_25 : decode cX12_areAsked 25 = .ok (.ifCond .eq 7, 3) := by decide +kernel
theorem dX12_areAsked_28 : decode cX12_areAsked 28 = .ok (.iconst 1, 1) := by decide +kernel
theorem dX12_areAsked_29 : decode cX12_areAsked 29 = .ok (.goto 4, 3) := by decide +kernel
theorem dX12_areAsked_32 : decode cX12_areAsked 32 = .ok (.iconst 0, 1) := by decide +kernel
theorem dX12_areAsked_33 : decode cX12_areAsked 33 = .ok (.ireturn, 1) := by decide +kernel
theorem dX12_can_0 : decode cX12_can 0 = .ok (.aload_n 0, 1) := by decide +kernel
theorem dX12_can_1 : decode cX12_can 1 = .ok (.iconst 0, 1) := by decide +kernel
theorem dX12_can_2 : decode cX12_can 2 = .ok (.iload_n 1, 1) := by decide +kernel
theorem dX12_can_3 : decode cX12_can 3 = .ok (.invokevirtual 402, 3) := by decide +kernel
theorem dX12_can_6 : decode cX12_can 6 = .ok (.ifCond .eq 15, 3) := by decide +kernel
theorem dX12_can_9 : decode cX12_can 9 = .ok (.aload_n 0, 1) := by decide +kernel
theorem dX12_can_10 : decode cX12_can 10 = .ok (.iload_n 2, 1) := by decide +kernel
theorem dX12_can_11 : decode cX12_can 11 = .ok (.iload 7, 2) := by decide +kernel
theorem dX12_can_13 : decode cX12_can 13 = .ok (.iload 8, 2) := by decide +kernel
theorem dX12_can_15 : decode cX12_can 15 = .ok (.invokevirtual 405, 3) := by decide +kernel
theorem dX12_can_18 : decode cX12_can 18 = .ok (.ifCond .ne 5, 3) := by decide +kernel
theorem dX12_can_21 : decode cX12_can 21 = .ok (.iconst (-1), 1) := by decide +kernel
theorem dX12_can_22 : decode cX12_can 22 = .ok (.ireturn, 1) := by decide +kernel
theorem dX12_can_23 : decode cX12_can 23 = .ok (.aload_n 0, 1) := by decide +kernel
theorem dX12_can_24 : decode cX12_can 24 = .ok (.iload_n 3, 1) := by decide +kernel
theorem dX12_can_25 : decode cX12_can 25 = .ok (.iload 4, 2) := by decide +kernel
theorem dX12_can_27 : decode cX12_can 27 = .ok (.iload 5, 2) := by decide +kernel
theorem dX12_can_29 : decode cX12_can 29 = .ok (.iload 6, 2) := by decide +kernel
theorem dX12_can_31 : decode cX12_can 31 = .ok (.iload 7, 2) := by decide +kernel
theorem dX12_can_33 : decode cX12_can 33 = .ok (.iload 8, 2) := by decide +kernel
theorem dX12_can_35 : decode cX12_can 35 = .ok (.invokevirtual 408, 3) := by decide +kernel
theorem dX12_can_38 : decode cX12_can 38 = .ok (.aload_n 0, 1) := by decide +kernel
theorem dX12_can_39 : decode cX12_can 39 = .ok (.iload_n 1, 1) := by decide +kernel
theorem dX12_can_40 : decode cX12_can 40 = .ok (.iload_n 2, 1) := by decide +kernel
theorem dX12_can_41 : decode cX12_can 41 = .ok (.invokevirtual 411, 3) := by decide +kernel
theorem dX12_can_44 : decode cX12_can 44 = .ok (.ifCond .eq 7, 3) := by decide +kernel
theorem dX12_can_47 : decode cX12_can 47 = .ok (.iconst 1, 1) := by decide +kernel
theorem dX12_can_48 : decode cX12_can 48 = .ok (.goto 4, 3) := by decide +kernel
theorem dX12_can_51 : decode cX12_can 51 = .ok (.iconst 0, 1) := by decide +kernel
theorem dX12_can_52 : decode cX12_can 52 = .ok (.ireturn, 1) := by decide +kernel
theorem dX12_wish_0 : decode cX12_wish 0 = .ok (.aload_n 0, 1) := by decide +kernel
theorem dX12_wish_1 : decode cX12_wish 1 = .ok (.iconst 1, 1) := by decide +kernel
theorem dX12_wish_2 : decode cX12_wish 2 = .ok (.iload_n 1, 1) := by decide +kernel
theorem dX12_wish_3 : decode cX12_wish 3 = .ok (.invokevirtual 402, 3) := by decide +kernel
theorem dX12_wish_6 : decode cX12_wish 6 = .ok (.ifCond .eq 15, 3) := by decide +kernel
theorem dX12_wish_9 : decode cX12_wish 9 = .ok (.aload_n 0, 1) := by decide +kernel
theorem dX12_wish_10 : decode cX12_wish 10 = .ok (.iload_n 2, 1) := by decide +kernel
theorem dX12_wish_11 : decode cX12_wish 11 = .ok (.iload 7, 2) := by decide +kernel
theorem dX12_wish_13 : decode cX12_wish 13 = .ok (.iload 8, 2) := by decide +kernel
theorem dX12_wish_15 : decode cX12_wish 15 = .ok (.invokevirtual 405, 3) := by decide +kernel
theorem dX12_wish_18 : decode cX12_wish 18 = .ok (.ifCond .ne 5, 3) := by decide +kernel
theorem dX12_wish_21 : decode cX12_wish 21 = .ok (.lconst 0, 1) := by decide +kernel
theorem dX12_wish_22 : decode cX12_wish 22 = .ok (.lreturn, 1) := by decide +kernel
theorem dX12_wish_23 : decode cX12_wish 23 = .ok (.aload_n 0, 1) := by decide +kernel
theorem dX12_wish_24 : decode cX12_wish 24 = .ok (.iload_n 3, 1) := by decide +kernel
theorem dX12_wish_25 : decode cX12_wish 25 = .ok (.iload 4, 2) := by decide +kernel
theorem dX12_wish_27 : decode cX12_wish 27 = .ok (.iload 5, 2) := by decide +kernel
theorem dX12_wish_29 : decode cX12_wish 29 = .ok (.iload 6, 2) := by decide +kernel
theorem dX12_wish_31 : decode cX12_wish 31 = .ok (.iload 7, 2) := by decide +kernel
theorem dX12_wish_33 : decode cX12_wish 33 = .ok (.iload 8, 2) := by decide +kernel
theorem dX12_wish_35 : decode cX12_wish 35 = .ok (.invokevirtual 408, 3) := by decide +kernel
theorem dX12_wish_38 : decode cX12_wish 38 = .ok (.aload_n 0, 1) := by decide +kernel
theorem dX12_wish_39 : decode cX12_wish 39 = .ok (.invokevirtual 376, 3) := by decide +kernel
theorem dX12_wish_42 : decode cX12_wish 42 = .ok (.ifCond .eq 12, 3) := by decide +kernel
theorem dX12_wish_45 : decode cX12_wish 45 = .ok (.aload_n 0, 1) := by decide +kernel
theorem dX12_wish_46 : decode cX12_wish 46 = .ok (.iload_n 1, 1) := by decide +kernel
theorem dX12_wish_47 : decode cX12_wish 47 = .ok (.iload_n 2, 1) := by decide +kernel
theorem dX12_wish_48 : decode cX12_wish 48 = .ok (.invokevirtual 420, 3) := by decide +kernel
theorem dX12_wish_51 : decode cX12_wish 51 = .ok (.goto 4, 3) := by decide +kernel
theorem dX12_wish_54 : decode cX12_wish 54 = .ok (.lconst 0, 1) := by decide +kernel
theorem dX12_wish_55 : decode cX12_wish 55 = .ok (.lreturn, 1) := by decide +kernel
theorem dX12_isAcross_0 : decode cX12_isAcross 0 = .ok (.iload_n 0, 1) := by decide +kernel
theorem dX12_isAcross_1 : decode cX12_isAcross 1 = .ok (.iconst 2, 1) := by decide +kernel
theorem dX12_isAcross_2 : decode cX12_isAcross 2 = .ok (.irem, 1) := by decide +kernel
theorem dX12_isAcross_3 : decode cX12_isAcross 3 = .ok (.ifCond .ne 7, 3) := by decide +kernel
theorem dX12_isAcross_6 : decode cX12_isAcross 6 = .ok (.iconst 1, 1) := by decide +kernel
theorem dX12_isAcross_7 : decode cX12_isAcross 7 = .ok (.goto 4, 3) := by decide +kernel
theorem dX12_isAcross_10 : decode cX12_isAcross 10 = .ok (.iconst 0, 1) := by decide +kernel
theorem dX12_isAcross_11 : decode cX12_isAcross 11 = .ok (.ireturn, 1) := by decide +kernel
theorem dX12_gates_0 : decode cX12_gates 0 = .ok (.iload_n 1, 1) := by decide +kernel
theorem dX12_gates_1 : decode cX12_gates 1 = .ok (.invokestatic 284, 3) := by decide +kernel
theorem dX12_gates_4 : decode cX12_gates 4 = .ok (.istore 5, 2) := by decide +kernel
theorem dX12_gates_6 : decode cX12_gates 6 = .ok (.aload_n 0, 1) := by decide +kernel
theorem dX12_gates_7 : decode cX12_gates 7 = .ok (.getfield 48, 3) := by decide +kernel
theorem dX12_gates_10 : decode cX12_gates 10 = .ok (.iload 5, 2) := by decide +kernel
theorem dX12_gates_12 : decode cX12_gates 12 = .ok (.bipush 7, 2) := by decide +kernel
theorem dX12_gates_14 : decode cX12_gates 14 = .ok (.iadd, 1) := by decide +kernel
theorem dX12_gates_15 : decode cX12_gates 15 = .ok (.iload_n 2, 1) := by decide +kernel
theorem dX12_gates_16 : decode cX12_gates 16 = .ok (.iastore, 1) := by decide +kernel
theorem dX12_gates_17 : decode cX12_gates 17 = .ok (.aload_n 0, 1) := by decide +kernel
theorem dX12_gates_18 : decode cX12_gates 18 = .ok (.getfield 48, 3) := by decide +kernel
theorem dX12_gates_21 : decode cX12_gates 21 = .ok (.iload 5, 2) := by decide +kernel
theorem dX12_gates_23 : decode cX12_gates 23 = .ok (.bipush 8, 2) := by decide +kernel
theorem dX12_gates_25 : decode cX12_gates 25 = .ok (.iadd, 1) := by decide +kernel
theorem dX12_gates_26 : decode cX12_gates 26 = .ok (.iload_n 3, 1) := by decide +kernel
theorem dX12_gates_27 : decode cX12_gates 27 = .ok (.iastore, 1) := by decide +kernel
theorem dX12_gates_28 : decode cX12_gates 28 = .ok (.aload_n 0, 1) := by decide +kernel
theorem dX12_gates_29 : decode cX12_gates 29 = .ok (.getfield 48, 3) := by decide +kernel
theorem dX12_gates_32 : decode cX12_gates 32 = .ok (.iload 5, 2) := by decide +kernel
theorem dX12_gates_34 : decode cX12_gates 34 = .ok (.bipush 9, 2) := by decide +kernel
theorem dX12_gates_36 : decode cX12_gates 36 = .ok (.iadd, 1) := by decide +kernel
theorem dX12_gates_37 : decode cX12_gates 37 = .ok (.iload 4, 2) := by decide +kernel
theorem dX12_gates_39 : decode cX12_gates 39 = .ok (.iastore, 1) := by decide +kernel
theorem dX12_gates_40 : decode cX12_gates 40 = .ok (.return_, 1) := by decide +kernel
theorem dX12_key_0 : decode cX12_key 0 = .ok (.aload_n 0, 1) := by decide +kernel
theorem dX12_key_1 : decode cX12_key 1 = .ok (.iload_n 1, 1) := by decide +kernel
theorem dX12_key_2 : decode cX12_key 2 = .ok (.invokevirtual 423, 3) := by decide +kernel
theorem dX12_key_5 : decode cX12_key 5 = .ok (.ifCond .eq 33, 3) := by decide +kernel
theorem dX12_key_8 : decode cX12_key 8 = .ok (.iload_n 2, 1) := by decide +kernel
theorem dX12_key_9 : decode cX12_key 9 = .ok (.invokestatic 395, 3) := by decide +kernel
theorem dX12_key_12 : decode cX12_key 12 = .ok (.ifCond .eq 26, 3) := by decide +kernel
theorem dX12_key_15 : decode cX12_key 15 = .ok (.aload_n 0, 1) := by decide +kernel
theorem dX12_key_16 : decode cX12_key 16 = .ok (.iload_n 1, 1) := by decide +kernel
theorem dX12_key_17 : decode cX12_key 17 = .ok (.bipush 10, 2) := by decide +kernel
theorem dX12_key_19 : decode cX12_key 19 = .ok (.invokevirtual 310, 3) := by decide +kernel
theorem dX12_key_22 : decode cX12_key 22 = .ok (.iload_n 2, 1) := by decide +kernel
theorem dX12_key_23 : decode cX12_key 23 = .ok (.ishr, 1) := by decide +kernel
theorem dX12_key_24 : decode cX12_key 24 = .ok (.iconst 1, 1) := by decide +kernel
theorem dX12_key_25 : decode cX12_key 25 = .ok (.iand, 1) := by decide +kernel
theorem dX12_key_26 : decode cX12_key 26 = .ok (.iload_n 3, 1) := by decide +kernel
theorem dX12_key_27 : decode cX12_key 27 = .ok (.ifCond .eq 7, 3) := by decide +kernel
theorem dX12_key_30 : decode cX12_key 30 = .ok (.iconst 1, 1) := by decide +kernel
theorem dX12_key_31 : decode cX12_key 31 = .ok (.goto 4, 3) := by decide +kernel
theorem dX12_key_34 : decode cX12_key 34 = .ok (.iconst 0, 1) := by decide +kernel
theorem dX12_key_35 : decode cX12_key 35 = .ok (.if_icmp .ne 5, 3) := by decide +kernel
theorem dX12_key_38 : decode cX12_key 38 = .ok (.iconst 0, 1) := by decide +kernel
theorem dX12_key_39 : decode cX12_key 39 = .ok (.ireturn, 1) := by decide +kernel
theorem dX12_key_40 : decode cX12_key 40 = .ok (.aload_n 0, 1) := by decide +kernel
theorem dX12_key_41 : decode cX12_key 41 = .ok (.getfield 48, 3) := by decide +kernel
theorem dX12_key_44 : decode cX12_key 44 = .ok (.iload_n 1, 1) := by decide +kernel
theorem dX12_key_45 : decode cX12_key 45 = .ok (.invokestatic 284, 3) := by decide +kernel
theorem dX12_key_48 : decode cX12_key 48 = .ok (.bipush 10, 2) := by decide +kernel
theorem dX12_key_50 : decode cX12_key 50 = .ok (.iadd, 1) := by decide +kernel
theorem dX12_key_51 : decode cX12_key 51 = .ok (.dup2, 1) := by decide +kernel
theorem dX12_key_52 : decode cX12_key 52 = .ok (.iaload, 1) := by decide +kernel
theorem dX12_key_53 : decode cX12_key 53 = .ok (.iconst 1, 1) := by decide +kernel
theorem dX12_key_54 : decode cX12_key 54 = .ok (.iload_n 2, 1) := by decide +kernel
theorem dX12_key_55 : decode cX12_key 55 = .ok (.ishl, 1) := by decide +kernel
theorem dX12_key_56 : decode cX12_key 56 = .ok (.ixor, 1) := by decide +kernel
theorem dX12_key_57 : decode cX12_key 57 = .ok (.iastore, 1) := by decide +kernel
theorem dX12_key_58 : decode cX12_key 58 = .ok (.iconst 1, 1) := by decide +kernel
theorem dX12_key_59 : decode cX12_key 59 = .ok (.ireturn, 1) := by decide +kernel
theorem dX12_groundOf_0 : decode cX12_groundOf 0 = .ok (.iconst 0, 1) := by decide +kernel
theorem dX12_groundOf_1 : decode cX12_groundOf 1 = .ok (.istore_n 3, 1) := by decide +kernel
theorem dX12_groundOf_2 : decode cX12_groundOf 2 = .ok (.aload_n 0, 1) := by decide +kernel
theorem dX12_groundOf_3 : decode cX12_groundOf 3 = .ok (.iload_n 1, 1) := by decide +kernel
theorem dX12_groundOf_4 : decode cX12_groundOf 4 = .ok (.iconst 2, 1) := by decide +kernel
theorem dX12_groundOf_5 : decode cX12_groundOf 5 = .ok (.invokevirtual 310, 3) := by decide +kernel
theorem dX12_groundOf_8 : decode cX12_groundOf 8 = .ok (.istore 4, 2) := by decide +kernel
theorem dX12_groundOf_10 : decode cX12_groundOf 10 = .ok (.iload 4, 2) := by decide +kernel
theorem dX12_groundOf_12 : decode cX12_groundOf 12 = .ok (.aload_n 0, 1) := by decide +kernel
theorem dX12_groundOf_13 : decode cX12_groundOf 13 = .ok (.iload_n 1, 1) := by decide +kernel
theorem dX12_groundOf_14 : decode cX12_groundOf 14 = .ok (.iconst 4, 1) := by decide +kernel
theorem dX12_groundOf_15 : decode cX12_groundOf 15 = .ok (.invokevirtual 310, 3) := by decide +kernel
theorem dX12_groundOf_18 : decode cX12_groundOf 18 = .ok (.if_icmp .ge 81, 3) := by decide +kernel
theorem dX12_groundOf_21 : decode cX12_groundOf 21 = .ok (.aload_n 0, 1) := by decide +kernel
theorem dX12_groundOf_22 : decode cX12_groundOf 22 = .ok (.iload_n 1, 1) := by decide +kernel
theorem dX12_groundOf_23 : decode cX12_groundOf 23 = .ok (.iconst 1, 1) := by decide +kernel
theorem dX12_groundOf_24 : decode cX12_groundOf 24 = .ok (.invokevirtual 310, 3) := by decide +kernel
theorem dX12_groundOf_27 : decode cX12_groundOf 27 = .ok (.istore 5, 2) := by decide +kernel
theorem dX12_groundOf_29 : decode cX12_groundOf 29 = .ok (.iload 5, 2) := by decide +kernel
theorem dX12_groundOf_31 : decode cX12_groundOf 31 = .ok (.aload_n 0, 1) := by decide +kernel
theorem dX12_groundOf_32 : decode cX12_groundOf 32 = .ok (.iload_n 1, 1) := by decide +kernel
theorem dX12_groundOf_33 : decode cX12_groundOf 33 = .ok (.iconst 3, 1) := by decide +kernel
theorem dX12_groundOf_34 : decode cX12_groundOf 34 = .ok (.invokevirtual 310, 3) := by decide +kernel
theorem dX12_groundOf_37 : decode cX12_groundOf 37 = .ok (.if_icmp .ge 56, 3) := by decide +kernel
theorem dX12_groundOf_40 : decode cX12_groundOf 40 = .ok (.iload_n 3, 1) := by decide +kernel
theorem dX12_groundOf_41 : decode cX12_groundOf 41 = .ok (.aload_n 0, 1) := by decide +kernel
theorem dX12_groundOf_42 : decode cX12_groundOf 42 = .ok (.iload_n 1, 1) := by decide +kernel
theorem dX12_groundOf_43 : decode cX12_groundOf 43 = .ok (.iload 5, 2) := by decide +kernel
theorem dX12_groundOf_45 : decode cX12_groundOf 45 = .ok (.iload 4, 2) := by decide +kernel
theorem dX12_groundOf_47 : decode cX12_groundOf 47 = .ok (.invokevirtual 443, 3) := by decide +kernel
theorem dX12_groundOf_50 : decode cX12_groundOf 50 = .ok (.ifCond .ne 7, 3) := by decide +kernel
theorem dX12_groundOf_53 : decode cX12_groundOf 53 = .ok (.iconst 0, 1) := by decide +kernel
theorem dX12_groundOf_54 : decode cX12_groundOf 54 = .ok (.goto 31, 3) := by decide +kernel
theorem dX12_groundOf_57 : decode cX12_groundOf 57 = .ok (.iload_n 2, 1) := by decide +kernel
theorem dX12_groundOf_58 : decode cX12_groundOf 58 = .ok (.ifCond .eq 26, 3) := by decide +kernel
theorem dX12_groundOf_61 : decode cX12_groundOf 61 = .ok (.aload_n 0, 1) := by decide +kernel
theorem dX12_groundOf_62 : decode cX12_groundOf 62 = .ok (.getfield 48, 3) := by decide +kernel
theorem dX12_groundOf_65 : decode cX12_groundOf 65 = .ok (.bipush 8, 2) := by decide +kernel
theorem dX12_groundOf_67 : decode cX12_groundOf 67 = .ok (.bipush 40, 2) := by decide +kernel
theorem dX12_groundOf_69 : decode cX12_groundOf 69 = .ok (.iload 4, 2) := by decide +kernel
theorem dX12_groundOf_71 : decode cX12_groundOf 71 = .ok (.imul, 1) := by decide +kernel
theorem dX12_groundOf_72 : decode cX12_groundOf 72 = .ok (.iadd, 1) := by decide +kernel
theorem dX12_groundOf_73 : decode cX12_groundOf 73 = .ok (.iload 5, 2) := by decide +kernel
theorem dX12_groundOf_75 : decode cX12_groundOf 75 = .ok (.iadd, 1) := by decide +kernel
theorem dX12_groundOf_76 : decode cX12_groundOf 76 = .ok (.iaload, 1) := by decide +kernel
theorem dX12_groundOf_77 : decode cX12_groundOf 77 = .ok (.sipush 128, 3) := by decide +kernel
theorem dX12_groundOf_80 : decode cX12_groundOf 80 = .ok (.irem, 1) := by decide +kernel
theorem dX12_groundOf_81 : decode cX12_groundOf 81 = .ok (.goto 4, 3) := by decide +kernel
theorem dX12_groundOf_84 : decode cX12_groundOf 84 = .ok (.iconst 1, 1) := by decide +kernel
theorem dX12_groundOf_85 : decode cX12_groundOf 85 = .ok (.iadd, 1) := by decide +kernel
theorem dX12_groundOf_86 : decode cX12_groundOf 86 = .ok (.istore_n 3, 1) := by decide +kernel
theorem dX12_groundOf_87 : decode cX12_groundOf 87 = .ok (.iinc 5 1, 3) := by decide +kernel
theorem dX12_groundOf_90 : decode cX12_groundOf 90 = .ok (.goto (-61), 3) := by decide +kernel
theorem dX12_groundOf_93 : decode cX12_groundOf 93 = .ok (.iinc 4 1, 3) := by decide +kernel
theorem dX12_groundOf_96 : decode cX12_groundOf 96 = .ok (.goto (-86), 3) := by decide +kernel
theorem dX12_groundOf_99 : decode cX12_groundOf 99 = .ok (.iload_n 3, 1) := by decide +kernel
theorem dX12_groundOf_100 : decode cX12_groundOf 100 = .ok (.ireturn, 1) := by decide +kernel
theorem dX12_isInLand_0 : decode cX12_isInLand 0 = .ok (.iload_n 1, 1) := by decide +kernel
theorem dX12_isInLand_1 : decode cX12_isInLand 1 = .ok (.i2l, 1) := by decide +kernel
theorem dX12_isInLand_2 : decode cX12_isInLand 2 = .ok (.lconst 0, 1) := by decide +kernel
theorem dX12_isInLand_3 : decode cX12_isInLand 3 = .ok (.aload_n 0, 1) := by decide +kernel
theorem dX12_isInLand_4 : decode cX12_isInLand 4 = .ok (.getfield 48, 3) := by decide +kernel
theorem dX12_isInLand_7 : decode cX12_isInLand 7 = .ok (.iconst 0, 1) := by decide +kernel
theorem dX12_isInLand_8 : decode cX12_isInLand 8 = .ok (.iaload, 1) := by decide +kernel
theorem dX12_isInLand_9 : decode cX12_isInLand 9 = .ok (.iconst 1, 1) := by decide +kernel
theorem dX12_isInLand_10 : decode cX12_isInLand 10 = .ok (.isub, 1) := by decide +kernel
theorem dX12_isInLand_11 : decode cX12_isInLand 11 = .ok (.i2l, 1) := by decide +kernel
theorem dX12_isInLand_12 : decode cX12_isInLand 12 = .ok (.invokestatic 112, 3) := by decide +kernel
theorem dX12_isInLand_15 : decode cX12_isInLand 15 = .ok (.ifCond .eq 25, 3) := by decide +kernel
theorem dX12_isInLand_18 : decode cX12_isInLand 18 = .ok (.iload_n 2, 1) := by decide +kernel
theorem dX12_isInLand_19 : decode cX12_isInLand 19 = .ok (.i2l, 1) := by decide +kernel
theorem dX12_isInLand_20 : decode cX12_isInLand 20 = .ok (.lconst 0, 1) := by decide +kernel
theorem dX12_isInLand_21 : decode cX12_isInLand 21 = .ok (.aload_n 0, 1) := by decide +kernel
theorem dX12_isInLand_22 : decode cX12_isInLand 22 = .ok (.getfield 48, 3) := by decide +kernel
theorem dX12_isInLand_25 : decode cX12_isInLand 25 = .ok (.iconst 1, 1) := by decide +kernel
theorem dX12_isInLand_26 : decode cX12_isInLand 26 = .ok (.iaload, 1) := by decide +kernel
theorem dX12_isInLand_27 : decode cX12_isInLand 27 = .ok (.iconst 1, 1) := by decide +kernel
theorem dX12_isInLand_28 : decode cX12_isInLand 28 = .ok (.isub, 1) := by decide +kernel
theorem dX12_isInLand_29 : decode cX12_isInLand 29 = .ok (.i2l, 1) := by decide +kernel
theorem dX12_isInLand_30 : decode cX12_isInLand 30 = .ok (.invokestatic 112, 3) := by decide +kernel
theorem dX12_isInLand_33 : decode cX12_isInLand 33 = .ok (.ifCond .eq 7, 3) := by decide +kernel
theorem dX12_isInLand_36 : decode cX12_isInLand 36 = .ok (.iconst 1, 1) := by decide +kernel
theorem dX12_isInLand_37 : decode cX12_isInLand 37 = .ok (.goto 4, 3) := by decide +kernel
theorem dX12_isInLand_40 : decode cX12_isInLand 40 = .ok (.iconst 0, 1) := by decide +kernel
theorem dX12_isInLand_41 : decode cX12_isInLand 41 = .ok (.ireturn, 1) := by decide +kernel
theorem dX12_inside_0 : decode cX12_inside 0 = .ok (.aload_n 0, 1) := by decide +kernel
theorem dX12_inside_1 : decode cX12_inside 1 = .ok (.iload_n 1, 1) := by decide +kernel
theorem dX12_inside_2 : decode cX12_inside 2 = .ok (.invokevirtual 314, 3) := by decide +kernel
theorem dX12_inside_5 : decode cX12_inside 5 = .ok (.ifCond .eq 11, 3) := by decide +kernel
theorem dX12_inside_8 : decode cX12_inside 8 = .ok (.aload_n 0, 1) := by decide +kernel
theorem dX12_inside_9 : decode cX12_inside 9 = .ok (.iload_n 2, 1) := by decide +kernel
theorem dX12_inside_10 : decode cX12_inside 10 = .ok (.invokevirtual 314, 3) := by decide +kernel
theorem dX12_inside_13 : decode cX12_inside 13 = .ok (.ifCond .ne 7, 3) := by decide +kernel
theorem dX12_inside_16 : decode cX12_inside 16 = .ok (.iconst (-1), 1) := by decide +kernel
theorem dX12_inside_17 : decode cX12_inside 17 = .ok (.goto 17, 3) := by decide +kernel
theorem dX12_inside_20 : decode cX12_inside 20 = .ok (.aload_n 0, 1) := by decide +kernel
theorem dX12_inside_21 : decode cX12_inside 21 = .ok (.iload_n 1, 1) := by decide +kernel
theorem dX12_inside_22 : decode cX12_inside 22 = .ok (.iload_n 2, 1) := by decide +kernel
theorem dX12_inside_23 : decode cX12_inside 23 = .ok (.invokevirtual 317, 3) := by decide +kernel
theorem dX12_inside_26 : decode cX12_inside 26 = .ok (.ifCond .eq 7, 3) := by decide +kernel
theorem dX12_inside_29 : decode cX12_inside 29 = .ok (.iconst 1, 1) := by decide +kernel
theorem dX12_inside_30 : decode cX12_inside 30 = .ok (.goto 4, 3) := by decide +kernel
theorem dX12_inside_33 : decode cX12_inside 33 = .ok (.iconst 0, 1) := by decide +kernel
theorem dX12_inside_34 : decode cX12_inside 34 = .ok (.ireturn, 1) := by decide +kernel
theorem dX12_more_0 : decode cX12_more 0 = .ok (.iload_n 0, 1) := by decide +kernel
theorem dX12_more_1 : decode cX12_more 1 = .ok (.iload_n 1, 1) := by decide +kernel
theorem dX12_more_2 : decode cX12_more 2 = .ok (.if_icmp .le 7, 3) := by decide +kernel
theorem dX12_more_5 : decode cX12_more 5 = .ok (.iload_n 0, 1) := by decide +kernel
theorem dX12_more_6 : decode cX12_more 6 = .ok (.goto 4, 3) := by decide +kernel
theorem dX12_more_9 : decode cX12_more 9 = .ok (.iload_n 1, 1) := by decide +kernel
theorem dX12_more_10 : decode cX12_more 10 = .ok (.ireturn, 1) := by decide +kernel
theorem dX12_margin_0 : decode cX12_margin 0 = .ok (.iload_n 1, 1) := by decide +kernel
theorem dX12_margin_1 : decode cX12_margin 1 = .ok (.istore 4, 2) := by decide +kernel
theorem dX12_margin_3 : decode cX12_margin 3 = .ok (.iconst 3, 1) := by decide +kernel
theorem dX12_margin_4 : decode cX12_margin 4 = .ok (.istore 5, 2) := by decide +kernel
theorem dX12_margin_6 : decode cX12_margin 6 = .ok (.iload 5, 2) := by decide +kernel
theorem dX12_margin_8 : decode cX12_margin 8 = .ok (.iload_n 3, 1) := by decide +kernel
theorem dX12_margin_9 : decode cX12_margin 9 = .ok (.if_icmp .le 15, 3) := by decide +kernel
theorem dX12_margin_12 : decode cX12_margin 12 = .ok (.iload 4, 2) := by decide +kernel
theorem dX12_margin_14 : decode cX12_margin 14 = .ok (.iload_n 2, 1) := by decide +kernel
theorem dX12_margin_15 : decode cX12_margin 15 = .ok (.idiv, 1) := by decide +kernel
theorem dX12_margin_16 : decode cX12_margin 16 = .ok (.istore 4, 2) := by decide +kernel
theorem dX12_margin_18 : decode cX12_margin 18 = .ok (.iinc 5 (-1), 3) := by decide +kernel
theorem dX12_margin_21 : decode cX12_margin 21 = .ok (.goto (-15), 3) := by decide +kernel
theorem dX12_margin_24 : decode cX12_margin 24 = .ok (.iload 4, 2) := by decide +kernel
theorem dX12_margin_26 : decode cX12_margin 26 = .ok (.iload_n 2, 1) := by decide +kernel
theorem dX12_margin_27 : decode cX12_margin 27 = .ok (.irem, 1) := by decide +kernel
theorem dX12_margin_28 : decode cX12_margin 28 = .ok (.iconst 1, 1) := by decide +kernel
theorem dX12_margin_29 : decode cX12_margin 29 = .ok (.iadd, 1) := by decide +kernel
theorem dX12_margin_30 : decode cX12_margin 30 = .ok (.ireturn, 1) := by decide +kernel
theorem dX12_lineOf_0 : decode cX12_lineOf 0 = .ok (.iconst 2, 1) := by decide +kernel
theorem dX12_lineOf_1 : decode cX12_lineOf 1 = .ok (.aload_n 0, 1) := by decide +kernel
theorem dX12_lineOf_2 : decode cX12_lineOf 2 = .ok (.getfield 326, 3) := by decide +kernel
theorem dX12_lineOf_5 : decode cX12_lineOf 5 = .ok (.aload_n 0, 1) := by decide +kernel
theorem dX12_lineOf_6 : decode cX12_lineOf 6 = .ok (.getfield 320, 3) := by decide +kernel
theorem dX12_lineOf_9 : decode cX12_lineOf 9 = .ok (.isub, 1) := by decide +kernel
theorem dX12_lineOf_10 : decode cX12_lineOf 10 = .ok (.aload_n 0, 1) := by decide +kernel
theorem dX12_lineOf_11 : decode cX12_lineOf 11 = .ok (.getfield 329, 3) := by decide +kernel
theorem dX12_lineOf_14 : decode cX12_lineOf 14 = .ok (.iadd, 1) := by decide +kernel
theorem dX12_lineOf_15 : decode cX12_lineOf 15 = .ok (.aload_n 0, 1) := by decide +kernel
theorem dX12_lineOf_16 : decode cX12_lineOf 16 = .ok (.getfield 323, 3) := by decide +kernel
theorem dX12_lineOf_19 : decode cX12_lineOf 19 = .ok (.isub, 1) := by decide +kernel
theorem dX12_lineOf_20 : decode cX12_lineOf 20 = .ok (.imul, 1) := by decide +kernel
theorem dX12_lineOf_21 : decode cX12_lineOf 21 = .ok (.ireturn, 1) := by decide +kernel
theorem dX12_best_0 : decode cX12_best 0 = .ok (.aload_n 0, 1) := by decide +kernel
theorem dX12_best_1 : decode cX12_best 1 = .ok (.iconst 0, 1) := by decide +kernel
theorem dX12_best_2 : decode cX12_best 2 = .ok (.iload_n 1, 1) := by decide +kernel
theorem dX12_best_3 : decode cX12_best 3 = .ok (.invokevirtual 402, 3) := by decide +kernel
theorem dX12_best_6 : decode cX12_best 6 = .ok (.ifCond .eq 50, 3) := by decide +kernel
theorem dX12_best_9 : decode cX12_best 9 = .ok (.aload_n 0, 1) := by decide +kernel
theorem dX12_best_10 : decode cX12_best 10 = .ok (.iconst 1, 1) := by decide +kernel
theorem dX12_best_11 : decode cX12_best 11 = .ok (.iload_n 2, 1) := by decide +kernel
theorem dX12_best_12 : decode cX12_best 12 = .ok (.invokevirtual 402, 3) := by decide +kernel
theorem dX12_best_15 : decode cX12_best 15 = .ok (.ifCond .eq 41, 3) := by decide +kernel
theorem dX12_best_18 : decode cX12_best 18 = .ok (.aload_n 0, 1) := by decide +kernel
theorem dX12_best_19 : decode cX12_best 19 = .ok (.iload_n 3, 1) := by decide +kernel
theorem dX12_best_20 : decode cX12_best 20 = .ok (.iload 4, 2) := by decide +kernel
theorem dX12_best_22 : decode cX12_best 22 = .ok (.iload 5, 2) := by decide +kernel
theorem dX12_best_24 : decode cX12_best 24 = .ok (.invokevirtual 405, 3) := by decide +kernel
theorem dX12_best_27 : decode cX12_best 27 = .ok (.ifCond .eq 29, 3) := by decide +kernel
theorem dX12_best_30 : decode cX12_best 30 = .ok (.iload 6, 2) := by decide +kernel
theorem dX12_best_32 : decode cX12_best 32 = .ok (.i2l, 1) := by decide +kernel
theorem dX12_best_33 : decode cX12_best 33 = .ok (.lconst 1, 1) := by decide +kernel
theorem dX12_best_34 : decode cX12_best 34 = .ok (.ldc2_w 496, 3) := by decide +kernel
theorem dX12_best_37 : decode cX12_best 37 = .ok (.invokestatic 112, 3) := by decide +kernel
theorem dX12_best_40 : decode cX12_best 40 = .ok (.ifCond .eq 16, 3) := by decide +kernel
theorem dX12_best_43 : decode cX12_best 43 = .ok (.iload 7, 2) := by decide +kernel
theorem dX12_best_45 : decode cX12_best 45 = .ok (.i2l, 1) := by decide +kernel
theorem dX12_best_46 : decode cX12_best 46 = .ok (.lconst 0, 1) := by decide +kernel
theorem dX12_best_47 : decode cX12_best 47 = .ok (.ldc2_w 496, 3) := by decide +kernel
theorem dX12_best_50 : decode cX12_best 50 = .ok (.invokestatic 112, 3) := by decide +kernel
theorem dX12_best_53 : decode cX12_best 53 = .ok (.ifCond .ne 5, 3) := by decide +kernel
theorem dX12_best_56 : decode cX12_best 56 = .ok (.iconst (-1), 1) := by decide +kernel
theorem dX12_best_57 : decode cX12_best 57 = .ok (.ireturn, 1) := by decide +kernel
theorem dX12_best_58 : decode cX12_best 58 = .ok (.aload_n 0, 1) := by decide +kernel
theorem dX12_best_59 : decode cX12_best 59 = .ok (.iload_n 1, 1) := by decide +kernel
theorem dX12_best_60 : decode cX12_best 60 = .ok (.iload_n 2, 1) := by decide +kernel
theorem dX12_best_61 : decode cX12_best 61 = .ok (.iload_n 3, 1) := by decide +kernel
theorem dX12_best_62 : decode cX12_best 62 = .ok (.iload 4, 2) := by decide +kernel
theorem dX12_best_64 : decode cX12_best 64 = .ok (.iload 5, 2) := by decide +kernel
theorem dX12_best_66 : decode cX12_best 66 = .ok (.iload 6, 2) := by decide +kernel
theorem dX12_best_68 : decode cX12_best 68 = .ok (.invokevirtual 498, 3) := by decide +kernel
theorem dX12_best_71 : decode cX12_best 71 = .ok (.istore 8, 2) := by decide +kernel
theorem dX12_best_73 : decode cX12_best 73 = .ok (.iload 7, 2) := by decide +kernel
theorem dX12_best_75 : decode cX12_best 75 = .ok (.iconst 4, 1) := by decide +kernel
theorem dX12_best_76 : decode cX12_best 76 = .ok (.if_icmp .ne 10, 3) := by decide +kernel
theorem dX12_best_79 : decode cX12_best 79 = .ok (.aload_n 0, 1) := by decide +kernel
theorem dX12_best_80 : decode cX12_best 80 = .ok (.getfield 483, 3) := by decide +kernel
theorem dX12_best_83 : decode cX12_best 83 = .ok (.goto 23, 3) := by decide +kernel
theorem dX12_best_86 : decode cX12_best 86 = .ok (.iload 8, 2) := by decide +kernel
theorem dX12_best_88 : decode cX12_best 88 = .ok (.ifCond .ge 8, 3) := by decide +kernel
theorem dX12_best_91 : decode cX12_best 91 = .ok (.bipush (-2), 2) := by decide +kernel
theorem dX12_best_93 : decode cX12_best 93 = .ok (.goto 13, 3) := by decide +kernel
theorem dX12_best_96 : decode cX12_best 96 = .ok (.aload_n 0, 1) := by decide +kernel
theorem dX12_best_97 : decode cX12_best 97 = .ok (.iload 8, 2) := by decide +kernel
theorem dX12_best_99 : decode cX12_best 99 = .ok (.iload 6, 2) := by decide +kernel
theorem dX12_best_101 : decode cX12_best 101 = .ok (.iload 7, 2) := by decide +kernel
theorem dX12_best_103 : decode cX12_best 103 = .ok (.invokevirtual 476, 3) := by decide +kernel
theorem dX12_best_106 : decode cX12_best 106 = .ok (.ireturn, 1) := by decide +kernel
theorem dX12_least_0 : decode cX12_least 0 = .ok (.aload_n 0, 1) := by decide +kernel
theorem dX12_least_1 : decode cX12_least 1 = .ok (.iconst 0, 1) := by decide +kernel
theorem dX12_least_2 : decode cX12_least 2 = .ok (.iload_n 1, 1) := by decide +kernel
theorem dX12_least_3 : decode cX12_least 3 = .ok (.invokevirtual 402, 3) := by decide +kernel
theorem dX12_least_6 : decode cX12_least 6 = .ok (.ifCond .eq 27, 3) := by decide +kernel
theorem dX12_least_9 : decode cX12_least 9 = .ok (.aload_n 0, 1) := by decide +kernel
theorem dX12_least_10 : decode cX12_least 10 = .ok (.iload_n 2, 1) := by decide +kernel
theorem dX12_least_11 : decode cX12_least 11 = .ok (.iload_n 3, 1) := by decide +kernel
theorem dX12_least_12 : decode cX12_least 12 = .ok (.iload 4, 2) := by decide +kernel
theorem dX12_least_14 : decode cX12_least 14 = .ok (.invokevirtual 405, 3) := by decide +kernel
theorem dX12_least_17 : decode cX12_least 17 = .ok (.ifCond .eq 16, 3) := by decide +kernel
theorem dX12_least_20 : decode cX12_least 20 = .ok (.iload 5, 2) := by decide +kernel
theorem dX12_least_22 : decode cX12_least 22 = .ok (.i2l, 1) := by decide +kernel
theorem dX12_least_23 : decode cX12_least 23 = .ok (.lconst 1, 1) := by decide +kernel
theorem dX12_least_24 : decode cX12_least 24 = .ok (.ldc2_w 502, 3) := by decide +kernel
theorem dX12_least_27 : decode cX12_least 27 = .ok (.invokestatic 112, 3) := by decide +kernel
theorem dX12_least_30 : decode cX12_least 30 = .ok (.ifCond .ne 5, 3) := by decide +kernel
theorem dX12_least_33 : decode cX12_least 33 = .ok (.iconst (-1), 1) := by decide +kernel
theorem dX12_least_34 : decode cX12_least 34 = .ok (.ireturn, 1) := by decide +kernel
theorem dX12_least_35 : decode cX12_least 35 = .ok (.aload_n 0, 1) := by decide +kernel
theorem dX12_least_36 : decode cX12_least 36 = .ok (.iload_n 3, 1) := by decide +kernel
theorem dX12_least_37 : decode cX12_least 37 = .ok (.iload 4, 2) := by decide +kernel
theorem dX12_least_39 : decode cX12_least 39 = .ok (.invokevirtual 480, 3) := by decide +kernel
theorem dX12_least_42 : decode cX12_least 42 = .ok (.bipush (-2), 2) := by decide +kernel
theorem dX12_least_44 : decode cX12_least 44 = .ok (.istore 6, 2) := by decide +kernel
theorem dX12_least_46 : decode cX12_least 46 = .ok (.iconst 0, 1) := by decide +kernel
theorem dX12_least_47 : decode cX12_least 47 = .ok (.istore 7, 2) := by decide +kernel
theorem dX12_least_49 : decode cX12_least 49 = .ok (.iload 7, 2) := by decide +kernel
theorem dX12_least_51 : decode cX12_least 51 = .ok (.iload 5, 2) := by decide +kernel
theorem dX12_least_53 : decode cX12_least 53 = .ok (.iload 5, 2) := by decide +kernel
theorem dX12_least_55 : decode cX12_least 55 = .ok (.imul, 1) := by decide +kernel
theorem dX12_least_56 : decode cX12_least 56 = .ok (.iload 5, 2) := by decide +kernel
theorem dX12_least_58 : decode cX12_least 58 = .ok (.imul, 1) := by decide +kernel
theorem dX12_least_59 : decode cX12_least 59 = .ok (.iload 5, 2) := by decide +kernel
theorem dX12_least_61 : decode cX12_least 61 = .ok (.imul, 1) := by decide +kernel
theorem dX12_least_62 : decode cX12_least 62 = .ok (.if_icmp .ge 49, 3) := by decide +kernel
theorem dX12_least_65 : decode cX12_least 65 = .ok (.aload_n 0, 1) := by decide +kernel
theorem dX12_least_66 : decode cX12_least 66 = .ok (.iload 7, 2) := by decide +kernel
theorem dX12_least_68 : decode cX12_least 68 = .ok (.iload 5, 2) := by decide +kernel
theorem dX12_least_70 : decode cX12_least 70 = .ok (.iload_n 3, 1) := by decide +kernel
theorem dX12_least_71 : decode cX12_least 71 = .ok (.iload 4, 2) := by decide +kernel
theorem dX12_least_73 : decode cX12_least 73 = .ok (.invokevirtual 486, 3) := by decide +kernel
theorem dX12_least_76 : decode cX12_least 76 = .ok (.iload 6, 2) := by decide +kernel
theorem dX12_least_78 : decode cX12_least 78 = .ok (.ifCond .lt 12, 3) := by decide +kernel
theorem dX12_least_81 : decode cX12_least 81 = .ok (.aload_n 0, 1) := by decide +kernel
theorem dX12_least_82 : decode cX12_least 82 = .ok (.invokevirtual 493, 3) := by decide +kernel
theorem dX12_least_85 : decode cX12_least 85 = .ok (.iload 6, 2) := by decide +kernel
theorem dX12_least_87 : decode cX12_least 87 = .ok (.if_icmp .ge 18, 3) := by decide +kernel
theorem dX12_least_90 : decode cX12_least 90 = .ok (.aload_n 0, 1) := by decide +kernel
theorem dX12_least_91 : decode cX12_least 91 = .ok (.iload_n 1, 1) := by decide +kernel
theorem dX12_least_92 : decode cX12_least 92 = .ok (.iload_n 2, 1) := by decide +kernel
theorem dX12_least_93 : decode cX12_least 93 = .ok (.invokevirtual 411, 3) := by decide +kernel
theorem dX12_least_96 : decode cX12_least 96 = .ok (.ifCond .eq 9, 3) := by decide +kernel
theorem dX12_least_99 : decode cX12_least 99 = .ok (.aload_n 0, 1) := by decide +kernel
theorem dX12_least_100 : decode cX12_least 100 = .ok (.invokevirtual 493, 3) := by decide +kernel
theorem dX12_least_103 : decode cX12_least 103 = .ok (.istore 6, 2) := by decide +kernel
theorem dX12_least_105 : decode cX12_least 105 = .ok (.iinc 7 1, 3) := by decide +kernel
theorem dX12_least_108 : decode cX12_least 108 = .ok (.goto (-59), 3) := by decide +kernel
theorem dX12_least_111 : decode cX12_least 111 = .ok (.iload 6, 2) := by decide +kernel
theorem dX12_least_113 : decode cX12_least 113 = .ok (.ireturn, 1) := by decide +kernel
theorem dX12_nestMany_0 : decode cX12_nestMany 0 = .ok (.iconst 0, 1) := by decide +kernel
theorem dX12_nestMany_1 : decode cX12_nestMany 1 = .ok (.istore_n 1, 1) := by decide +kernel
theorem dX12_nestMany_2 : decode cX12_nestMany 2 = .ok (.iconst 0, 1) := by decide +kernel
theorem dX12_nestMany_3 : decode cX12_nestMany 3 = .ok (.istore_n 2, 1) := by decide +kernel
theorem dX12_nestMany_4 : decode cX12_nestMany 4 = .ok (.iload_n 2, 1) := by decide +kernel
theorem dX12_nestMany_5 : decode cX12_nestMany 5 = .ok (.bipush 30, 2) := by decide +kernel
theorem dX12_nestMany_7 : decode cX12_nestMany 7 = .ok (.if_icmp .ge 33, 3) := by decide +kernel
theorem dX12_nestMany_10 : decode cX12_nestMany 10 = .ok (.iload_n 1, 1) := by decide +kernel
theorem dX12_nestMany_11 : decode cX12_nestMany 11 = .ok (.aload_n 0, 1) := by decide +kernel
theorem dX12_nestMany_12 : decode cX12_nestMany 12 = .ok (.iload_n 2, 1) := by decide +kernel
theorem dX12_nestMany_13 : decode cX12_nestMany 13 = .ok (.invokevirtual 314, 3) := by decide +kernel
theorem dX12_nestMany_16 : decode cX12_nestMany 16 = .ok (.ifCond .eq 15, 3) := by decide +kernel
theorem dX12_nestMany_19 : decode cX12_nestMany 19 = .ok (.aload_n 0, 1) := by decide +kernel
theorem dX12_nestMany_20 : decode cX12_nestMany 20 = .ok (.iload_n 2, 1) := by decide +kernel
theorem dX12_nestMany_21 : decode cX12_nestMany 21 = .ok (.invokevirtual 338, 3) := by decide +kernel
theorem dX12_nestMany_24 : decode cX12_nestMany 24 = .ok (.ifCond .eq 7, 3) := by decide +kernel
theorem dX12_nestMany_27 : decode cX12_nestMany 27 = .ok (.iconst 1, 1) := by decide +kernel
theorem dX12_nestMany_28 : decode cX12_nestMany 28 = .ok (.goto 4, 3) := by decide +kernel
theorem dX12_nestMany_31 : decode cX12_nestMany 31 = .ok (.iconst 0, 1) := by decide +kernel
theorem dX12_nestMany_32 : decode cX12_nestMany 32 = .ok (.iadd, 1) := by decide +kernel
theorem dX12_nestMany_33 : decode cX12_nestMany 33 = .ok (.istore_n 1, 1) := by decide +kernel
theorem dX12_nestMany_34 : decode cX12_nestMany 34 = .ok (.iinc 2 1, 3) := by decide +kernel
theorem dX12_nestMany_37 : decode cX12_nestMany 37 = .ok (.goto (-33), 3) := by decide +kernel
theorem dX12_nestMany_40 : decode cX12_nestMany 40 = .ok (.iload_n 1, 1) := by decide +kernel
theorem dX12_nestMany_41 : decode cX12_nestMany 41 = .ok (.ireturn, 1) := by decide +kernel
theorem dX12_roundMany_0 : decode cX12_roundMany 0 = .ok (.iconst 0, 1) := by decide +kernel
theorem dX12_roundMany_1 : decode cX12_roundMany 1 = .ok (.istore_n 2, 1) := by decide +kernel
theorem dX12_roundMany_2 : decode cX12_roundMany 2 = .ok (.aload_n 0, 1) := by decide +kernel
theorem dX12_roundMany_3 : decode cX12_roundMany 3 = .ok (.iload_n 1, 1) := by decide +kernel
theorem dX12_roundMany_4 : decode cX12_roundMany 4 = .ok (.bipush 6, 2) := by decide +kernel
theorem dX12_roundMany_6 : decode cX12_roundMany 6 = .ok (.invokevirtual 310, 3) := by decide +kernel
theorem dX12_roundMany_9 : decode cX12_roundMany 9 = .ok (.istore_n 3, 1) := by decide +kernel
theorem dX12_roundMany_10 : decode cX12_roundMany 10 = .ok (.iload_n 3, 1) := by decide +kernel
theorem dX12_roundMany_11 : decode cX12_roundMany 11 = .ok (.iconst (-1), 1) := by decide +kernel
theorem dX12_roundMany_12 : decode cX12_roundMany 12 = .ok (.if_icmp .eq 17, 3) := by decide +kernel
theorem dX12_roundMany_15 : decode cX12_roundMany 15 = .ok (.iinc 2 1, 3) := by decide +kernel
theorem dX12_roundMany_18 : decode cX12_roundMany 18 = .ok (.aload_n 0, 1) := by decide +kernel
theorem dX12_roundMany_19 : decode cX12_roundMany 19 = .ok (.iload_n 3, 1) := by decide +kernel
theorem dX12_roundMany_20 : decode cX12_roundMany 20 = .ok (.bipush 6, 2) := by decide +kernel
theorem dX12_roundMany_22 : decode cX12_roundMany 22 = .ok (.invokevirtual 310, 3) := by decide +kernel
theorem dX12_roundMany_25 : decode cX12_roundMany 25 = .ok (.istore_n 3, 1) := by decide +kernel
theorem dX12_roundMany_26 : decode cX12_roundMany 26 = .ok (.goto (-16), 3) := by decide +kernel
theorem dX12_roundMany_29 : decode cX12_roundMany 29 = .ok (.iload_n 2, 1) := by decide +kernel
theorem dX12_roundMany_30 : decode cX12_roundMany 30 = .ok (.ireturn, 1) := by decide +kernel
theorem dX12_between_0 : decode cX12_between 0 = .ok (.aload_n 0, 1) := by decide +kernel
theorem dX12_between_1 : decode cX12_between 1 = .ok (.iload_n 1, 1) := by decide +kernel
theorem dX12_between_2 : decode cX12_between 2 = .ok (.invokevirtual 314, 3) := by decide +kernel
theorem dX12_between_5 : decode cX12_between 5 = .ok (.ifCond .eq 32, 3) := by decide +kernel
theorem dX12_between_8 : decode cX12_between 8 = .ok (.aload_n 0, 1) := by decide +kernel
theorem dX12_between_9 : decode cX12_between 9 = .ok (.iload_n 2, 1) := by decide +kernel
theorem dX12_between_10 : decode cX12_between 10 = .ok (.invokevirtual 314, 3) := by decide +kernel
theorem dX12_between_13 : decode cX12_between 13 = .ok (.ifCond .eq 24, 3) := by decide +kernel
theorem dX12_between_16 : decode cX12_between 16 = .ok (.iload_n 1, 1) := by decide +kernel
theorem dX12_between_17 : decode cX12_between 17 = .ok (.iload_n 2, 1) := by decide +kernel
theorem dX12_between_18 : decode cX12_between 18 = .ok (.if_icmp .eq 19, 3) := by decide +kernel
theorem dX12_between_21 : decode cX12_between 21 = .ok (.aload_n 0, 1) := by decide +kernel
theorem dX12_between_22 : decode cX12_between 22 = .ok (.iload_n 1, 1) := by decide +kernel
theorem dX12_between_23 : decode cX12_between 23 = .ok (.invokevirtual 338, 3) := by decide +kernel
theorem dX12_between_26 : decode cX12_between 26 = .ok (.ifCond .eq 11, 3) := by decide +kernel
theorem dX12_between_29 : decode cX12_between 29 = .ok (.aload_n 0, 1) := by decide +kernel
theorem dX12_between_30 : decode cX12_between 30 = .ok (.iload_n 2, 1) := by decide +kernel
theorem dX12_between_31 : decode cX12_between 31 = .ok (.invokevirtual 338, 3) := by decide +kernel
theorem dX12_between_34 : decode cX12_between 34 = .ok (.ifCond .ne 5, 3) := by decide +kernel
theorem dX12_between_37 : decode cX12_between 37 = .ok (.iconst (-1), 1) := by decide +kernel
theorem dX12_between_38 : decode cX12_between 38 = .ok (.ireturn, 1) := by decide +kernel
theorem dX12_between_39 : decode cX12_between 39 = .ok (.aload_n 0, 1) := by decide +kernel
theorem dX12_between_40 : decode cX12_between 40 = .ok (.iload_n 1, 1) := by decide +kernel
theorem dX12_between_41 : decode cX12_between 41 = .ok (.iload_n 2, 1) := by decide +kernel
theorem dX12_between_42 : decode cX12_between 42 = .ok (.invokevirtual 480, 3) := by decide +kernel
theorem dX12_between_45 : decode cX12_between 45 = .ok (.aload_n 0, 1) := by decide +kernel
theorem dX12_between_46 : decode cX12_between 46 = .ok (.getfield 458, 3) := by decide +kernel
theorem dX12_between_49 : decode cX12_between 49 = .ok (.iconst 1, 1) := by decide +kernel
theorem dX12_between_50 : decode cX12_between 50 = .ok (.if_icmp .lt 37, 3) := by decide +kernel
theorem dX12_between_53 : decode cX12_between 53 = .ok (.aload_n 0, 1) := by decide +kernel
theorem dX12_between_54 : decode cX12_between 54 = .ok (.getfield 461, 3) := by decide +kernel
theorem dX12_between_57 : decode cX12_between 57 = .ok (.iconst 1, 1) := by decide +kernel
theorem dX12_between_58 : decode cX12_between 58 = .ok (.if_icmp .lt 29, 3) := by decide +kernel
theorem dX12_between_61 : decode cX12_between 61 = .ok (.aload_n 0, 1) := by decide +kernel
theorem dX12_between_62 : decode cX12_between 62 = .ok (.getfield 464, 3) := by decide +kernel
theorem dX12_between_65 : decode cX12_between 65 = .ok (.aload_n 0, 1) := by decide +kernel
theorem dX12_between_66 : decode cX12_between 66 = .ok (.getfield 48, 3) := by decide +kernel
theorem dX12_between_69 : decode cX12_between 69 = .ok (.iconst 0, 1) := by decide +kernel
theorem dX12_between_70 : decode cX12_between 70 = .ok (.iaload, 1) := by decide +kernel
theorem dX12_between_71 : decode cX12_between 71 = .ok (.if_icmp .ge 16, 3) := by decide +kernel
theorem dX12_between_74 : decode cX12_between 74 = .ok (.aload_n 0, 1) := by decide +kernel
theorem dX12_between_75 : decode cX12_between 75 = .ok (.getfield 467, 3) := by decide +kernel
theorem dX12_between_78 : decode cX12_between 78 = .ok (.aload_n 0, 1) := by decide +kernel
theorem dX12_between_79 : decode cX12_between 79 = .ok (.getfield 48, 3) := by decide +kernel
theorem dX12_between_82 : decode cX12_between 82 = .ok (.iconst 1, 1) := by decide +kernel
theorem dX12_between_83 : decode cX12_between 83 = .ok (.iaload, 1) := by decide +kernel
theorem dX12_between_84 : decode cX12_between 84 = .ok (.if_icmp .lt 6, 3) := by decide +kernel
theorem dX12_between_87 : decode cX12_between 87 = .ok (.bipush (-2), 2) := by decide +kernel
theorem dX12_between_89 : decode cX12_between 89 = .ok (.ireturn, 1) := by decide +kernel
theorem dX12_between_90 : decode cX12_between 90 = .ok (.aload_n 0, 1) := by decide +kernel
theorem dX12_between_91 : decode cX12_between 91 = .ok (.getfield 464, 3) := by decide +kernel
theorem dX12_between_94 : decode cX12_between 94 = .ok (.aload_n 0, 1) := by decide +kernel
theorem dX12_between_95 : decode cX12_between 95 = .ok (.getfield 458, 3) := by decide +kernel
theorem dX12_between_98 : decode cX12_between 98 = .ok (.isub, 1) := by decide +kernel
theorem dX12_between_99 : decode cX12_between 99 = .ok (.iconst 2, 1) := by decide +kernel
theorem dX12_between_100 : decode cX12_between 100 = .ok (.iadd, 1) := by decide +kernel
theorem dX12_between_101 : decode cX12_between 101 = .ok (.aload_n 0, 1) := by decide +kernel
theorem dX12_between_102 : decode cX12_between 102 = .ok (.getfield 467, 3) := by decide +kernel
theorem dX12_between_105 : decode cX12_between 105 = .ok (.aload_n 0, 1) := by decide +kernel
theorem dX12_between_106 : decode cX12_between 106 = .ok (.getfield 461, 3) := by decide +kernel
theorem dX12_between_109 : decode cX12_between 109 = .ok (.isub, 1) := by decide +kernel
theorem dX12_between_110 : decode cX12_between 110 = .ok (.iconst 2, 1) := by decide +kernel
theorem dX12_between_111 : decode cX12_between 111 = .ok (.iadd, 1) := by decide +kernel
theorem dX12_between_112 : decode cX12_between 112 = .ok (.imul, 1) := by decide +kernel
theorem dX12_between_113 : decode cX12_between 113 = .ok (.aload_n 0, 1) := by decide +kernel
theorem dX12_between_114 : decode cX12_between 114 = .ok (.iload_n 1, 1) := by decide +kernel
theorem dX12_between_115 : decode cX12_between 115 = .ok (.invokevirtual 455, 3) := by decide +kernel
theorem dX12_between_118 : decode cX12_between 118 = .ok (.isub, 1) := by decide +kernel
theorem dX12_between_119 : decode cX12_between 119 = .ok (.aload_n 0, 1) := by decide +kernel
theorem dX12_between_120 : decode cX12_between 120 = .ok (.iload_n 2, 1) := by decide +kernel
theorem dX12_between_121 : decode cX12_between 121 = .ok (.invokevirtual 455, 3) := by decide +kernel
theorem dX12_between_124 : decode cX12_between 124 = .ok (.isub, 1) := by decide +kernel
theorem dX12_between_125 : decode cX12_between 125 = .ok (.ireturn, 1) := by decide +kernel
theorem dX12_beside_0 : decode cX12_beside 0 = .ok (.iload_n 1, 1) := by decide +kernel
theorem dX12_beside_1 : decode cX12_beside 1 = .ok (.bipush 40, 2) := by decide +kernel
theorem dX12_beside_3 : decode cX12_beside 3 = .ok (.irem, 1) := by decide +kernel
theorem dX12_beside_4 : decode cX12_beside 4 = .ok (.iload_n 2, 1) := by decide +kernel
theorem dX12_beside_5 : decode cX12_beside 5 = .ok (.iconst 1, 1) := by decide +kernel
theorem dX12_beside_6 : decode cX12_beside 6 = .ok (.if_icmp .ne 7, 3) := by decide +kernel
theorem dX12_beside_9 : decode cX12_beside 9 = .ok (.iconst 1, 1) := by decide +kernel
theorem dX12_beside_10 : decode cX12_beside 10 = .ok (.goto 13, 3) := by decide +kernel
theorem dX12_beside_13 : decode cX12_beside 13 = .ok (.iload_n 2, 1) := by decide +kernel
theorem dX12_beside_14 : decode cX12_beside 14 = .ok (.iconst 3, 1) := by decide +kernel
theorem dX12_beside_15 : decode cX12_beside 15 = .ok (.if_icmp .ne 7, 3) := by decide +kernel
theorem dX12_beside_18 : decode cX12_beside 18 = .ok (.iconst (-1), 1) := by decide +kernel
theorem dX12_beside_19 : decode cX12_beside 19 = .ok (.goto 4, 3) := by decide +kernel
theorem dX12_beside_22 : decode cX12_beside 22 = .ok (.iconst 0, 1) := by decide +kernel
theorem dX12_beside_23 : decode cX12_beside 23 = .ok (.iadd, 1) := by decide +kernel
theorem dX12_beside_24 : decode cX12_beside 24 = .ok (.istore_n 3, 1) := by decide +kernel
theorem dX12_beside_25 : decode cX12_beside 25 = .ok (.iload_n 1, 1) := by decide +kernel
theorem dX12_beside_26 : decode cX12_beside 26 = .ok (.bipush 40, 2) := by decide +kernel
theorem dX12_beside_28 : decode cX12_beside 28 = .ok (.idiv, 1) := by decide +kernel
theorem dX12_beside_29 : decode cX12_beside 29 = .ok (.iload_n 2, 1) := by decide +kernel
theorem dX12_beside_30 : decode cX12_beside 30 = .ok (.iconst 2, 1) := by decide +kernel
theorem dX12_beside_31 : decode cX12_beside 31 = .ok (.if_icmp .ne 7, 3) := by decide +kernel
theorem dX12_beside_34 : decode cX12_beside 34 = .ok (.iconst 1, 1) := by decide +kernel
theorem dX12_beside_35 : decode cX12_beside 35 = .ok (.goto 12, 3) := by decide +kernel
theorem dX12_beside_38 : decode cX12_beside 38 = .ok (.iload_n 2, 1) := by decide +kernel
theorem dX12_beside_39 : decode cX12_beside 39 = .ok (.ifCond .ne 7, 3) := by decide +kernel
theorem dX12_beside_42 : decode cX12_beside 42 = .ok (.iconst (-1), 1) := by decide +kernel
theorem dX12_beside_43 : decode cX12_beside 43 = .ok (.goto 4, 3) := by decide +kernel
theorem dX12_beside_46 : decode cX12_beside 46 = .ok (.iconst 0, 1) := by decide +kernel
theorem dX12_beside_47 : decode cX12_beside 47 = .ok (.iadd, 1) := by decide +kernel
theorem dX12_beside_48 : decode cX12_beside 48 = .ok (.istore 4, 2) := by decide +kernel
theorem dX12_beside_50 : decode cX12_beside 50 = .ok (.aload_n 0, 1) := by decide +kernel
theorem dX12_beside_51 : decode cX12_beside 51 = .ok (.iload_n 3, 1) := by decide +kernel
theorem dX12_beside_52 : decode cX12_beside 52 = .ok (.iload 4, 2) := by decide +kernel
theorem dX12_beside_54 : decode cX12_beside 54 = .ok (.invokevirtual 452, 3) := by decide +kernel
theorem dX12_beside_57 : decode cX12_beside 57 = .ok (.ifCond .eq 23, 3) := by decide +kernel
theorem dX12_beside_60 : decode cX12_beside 60 = .ok (.aload_n 0, 1) := by decide +kernel
theorem dX12_beside_61 : decode cX12_beside 61 = .ok (.iload_n 3, 1) := by decide +kernel
theorem dX12_beside_62 : decode cX12_beside 62 = .ok (.iload 4, 2) := by decide +kernel
theorem dX12_beside_64 : decode cX12_beside 64 = .ok (.invokevirtual 373, 3) := by decide +kernel
theorem dX12_beside_67 : decode cX12_beside 67 = .ok (.ifCond .ne 13, 3) := by decide +kernel
theorem dX12_beside_70 : decode cX12_beside 70 = .ok (.bipush 40, 2) := by decide +kernel
theorem dX12_beside_72 : decode cX12_beside 72 = .ok (.iload 4, 2) := by decide +kernel
theorem dX12_beside_74 : decode cX12_beside 74 = .ok (.imul, 1) := by decide +kernel
theorem dX12_beside_75 : decode cX12_beside 75 = .ok (.iload_n 3, 1) := by decide +kernel
theorem dX12_beside_76 : decode cX12_beside 76 = .ok (.iadd, 1) := by decide +kernel
theorem dX12_beside_77 : decode cX12_beside 77 = .ok (.goto 4, 3) := by decide +kernel
theorem dX12_beside_80 : decode cX12_beside 80 = .ok (.iconst (-1), 1) := by decide +kernel
theorem dX12_beside_81 : decode cX12_beside 81 = .ok (.ireturn, 1) := by decide +kernel
theorem dX12_tollOf_0 : decode cX12_tollOf 0 = .ok (.aload_n 0, 1) := by decide +kernel
theorem dX12_tollOf_1 : decode cX12_tollOf 1 = .ok (.iload_n 2, 1) := by decide +kernel
theorem dX12_tollOf_2 : decode cX12_tollOf 2 = .ok (.iload_n 3, 1) := by decide +kernel
theorem dX12_tollOf_3 : decode cX12_tollOf 3 = .ok (.invokevirtual 513, 3) := by decide +kernel
theorem dX12_tollOf_6 : decode cX12_tollOf 6 = .ok (.istore 5, 2) := by decide +kernel
theorem dX12_tollOf_8 : decode cX12_tollOf 8 = .ok (.iload 5, 2) := by decide +kernel
theorem dX12_tollOf_10 : decode cX12_tollOf 10 = .ok (.iconst (-1), 1) := by decide +kernel
theorem dX12_tollOf_11 : decode cX12_tollOf 11 = .ok (.if_icmp .ne 5, 3) := by decide +kernel
theorem dX12_tollOf_14 : decode cX12_tollOf 14 = .ok (.iconst 0, 1) := by decide +kernel
theorem dX12_tollOf_15 : decode cX12_tollOf 15 = .ok (.ireturn, 1) := by decide +kernel
theorem dX12_tollOf_16 : decode cX12_tollOf 16 = .ok (.aload_n 0, 1) := by decide +kernel
theorem dX12_tollOf_17 : decode cX12_tollOf 17 = .ok (.getfield 54, 3) := by decide +kernel
theorem dX12_tollOf_20 : decode cX12_tollOf 20 = .ok (.iload_n 2, 1) := by decide +kernel
theorem dX12_tollOf_21 : decode cX12_tollOf 21 = .ok (.iaload, 1) := by decide +kernel
theorem dX12_tollOf_22 : decode cX12_tollOf 22 = .ok (.iload 5, 2) := by decide +kernel
theorem dX12_tollOf_24 : decode cX12_tollOf 24 = .ok (.if_icmp .ne 7, 3) := by decide +kernel
theorem dX12_tollOf_27 : decode cX12_tollOf 27 = .ok (.iconst 1, 1) := by decide +kernel
theorem dX12_tollOf_28 : decode cX12_tollOf 28 = .ok (.goto 4, 3) := by decide +kernel
theorem dX12_tollOf_31 : decode cX12_tollOf 31 = .ok (.iconst 0, 1) := by decide +kernel
theorem dX12_tollOf_32 : decode cX12_tollOf 32 = .ok (.istore 6, 2) := by decide +kernel
theorem dX12_tollOf_34 : decode cX12_tollOf 34 = .ok (.iload 6, 2) := by decide +kernel
theorem dX12_tollOf_36 : decode cX12_tollOf 36 = .ok (.ifCond .eq 7, 3) := by decide +kernel
theorem dX12_tollOf_39 : decode cX12_tollOf 39 = .ok (.iload_n 2, 1) := by decide +kernel
theorem dX12_tollOf_40 : decode cX12_tollOf 40 = .ok (.goto 4, 3) := by decide +kernel
theorem dX12_tollOf_43 : decode cX12_tollOf 43 = .ok (.iload_n 3, 1) := by decide +kernel
theorem dX12_tollOf_44 : decode cX12_tollOf 44 = .ok (.istore 7, 2) := by decide +kernel
theorem dX12_tollOf_46 : decode cX12_tollOf 46 = .ok (.iload 6, 2) := by decide +kernel
theorem dX12_tollOf_48 : decode cX12_tollOf 48 = .ok (.ifCond .eq 8, 3) := by decide +kernel
theorem dX12_tollOf_51 : decode cX12_tollOf 51 = .ok (.iload 4, 2) := by decide +kernel
theorem dX12_tollOf_53 : decode cX12_tollOf 53 = .ok (.goto 9, 3) := by decide +kernel
theorem dX12_tollOf_56 : decode cX12_tollOf 56 = .ok (.iload 4, 2) := by decide +kernel
theorem dX12_tollOf_58 : decode cX12_tollOf 58 = .ok (.iconst 2, 1) := by decide +kernel
theorem dX12_tollOf_59 : decode cX12_tollOf 59 = .ok (.iadd, 1) := by decide +kernel
theorem dX12_tollOf_60 : decode cX12_tollOf 60 = .ok (.iconst 4, 1) := by decide +kernel
theorem dX12_tollOf_61 : decode cX12_tollOf 61 = .ok (.irem, 1) := by decide +kernel
theorem dX12_tollOf_62 : decode cX12_tollOf 62 = .ok (.istore 8, 2) := by decide +kernel
theorem dX12_tollOf_64 : decode cX12_tollOf 64 = .ok (.iload 8, 2) := by decide +kernel
theorem dX12_tollOf_66 : decode cX12_tollOf 66 = .ok (.invokestatic 429, 3) := by decide +kernel
theorem dX12_tollOf_69 : decode cX12_tollOf 69 = .ok (.ifCond .eq 19, 3) := by decide +kernel
theorem dX12_tollOf_72 : decode cX12_tollOf 72 = .ok (.iload 7, 2) := by decide +kernel
theorem dX12_tollOf_74 : decode cX12_tollOf 74 = .ok (.bipush 40, 2) := by decide +kernel
theorem dX12_tollOf_76 : decode cX12_tollOf 76 = .ok (.irem, 1) := by decide +kernel
theorem dX12_tollOf_77 : decode cX12_tollOf 77 = .ok (.aload_n 0, 1) := by decide +kernel
theorem dX12_tollOf_78 : decode cX12_tollOf 78 = .ok (.iload 5, 2) := by decide +kernel
theorem dX12_tollOf_80 : decode cX12_tollOf 80 = .ok (.iconst 1, 1) := by decide +kernel
theorem dX12_tollOf_81 : decode cX12_tollOf 81 = .ok (.invokevirtual 310, 3) := by decide +kernel
theorem dX12_tollOf_84 : decode cX12_tollOf 84 = .ok (.isub, 1) := by decide +kernel
theorem dX12_tollOf_85 : decode cX12_tollOf 85 = .ok (.goto 16, 3) := by decide +kernel
theorem dX12_tollOf_88 : decode cX12_tollOf 88 = .ok (.iload 7, 2) := by decide +kernel
theorem dX12_tollOf_90 : decode cX12_tollOf 90 = .ok (.bipush 40, 2) := by decide +kernel
theorem dX12_tollOf_92 : decode cX12_tollOf 92 = .ok (.idiv, 1) := by decide +kernel
theorem dX12_tollOf_93 : decode cX12_tollOf 93 = .ok (.aload_n 0, 1) := by decide +kernel
theorem dX12_tollOf_94 : decode cX12_tollOf 94 = .ok (.iload 5, 2) := by decide +kernel
theorem dX12_tollOf_96 : decode cX12_tollOf 96 = .ok (.iconst 2, 1) := by decide +kernel
theorem dX12_tollOf_97 : decode cX12_tollOf 97 = .ok (.invokevirtual 310, 3) := by decide +kernel
theorem dX12_tollOf_100 : decode cX12_tollOf 100 = .ok (.isub, 1) := by decide +kernel
theorem dX12_tollOf_101 : decode cX12_tollOf 101 = .ok (.istore 9, 2) := by decide +kernel
theorem dX12_tollOf_103 : decode cX12_tollOf 103 = .ok (.aload_n 0, 1) := by decide +kernel
theorem dX12_tollOf_104 : decode cX12_tollOf 104 = .ok (.iload 5, 2) := by decide +kernel
theorem dX12_tollOf_106 : decode cX12_tollOf 106 = .ok (.bipush 7, 2) := by decide +kernel
theorem dX12_tollOf_108 : decode cX12_tollOf 108 = .ok (.invokevirtual 310, 3) := by decide +kernel
theorem dX12_tollOf_111 : decode cX12_tollOf 111 = .ok (.iload 8, 2) := by decide +kernel
theorem dX12_tollOf_113 : decode cX12_tollOf 113 = .ok (.if_icmp .ne 16, 3) := by decide +kernel
theorem dX12_tollOf_116 : decode cX12_tollOf 116 = .ok (.aload_n 0, 1) := by decide +kernel
theorem dX12_tollOf_117 : decode cX12_tollOf 117 = .ok (.iload 5, 2) := by decide +kernel
theorem dX12_tollOf_119 : decode cX12_tollOf 119 = .ok (.bipush 8, 2) := by decide +kernel
theorem dX12_tollOf_121 : decode cX12_tollOf 121 = .ok (.invokevirtual 310, 3) := by decide +kernel
theorem dX12_tollOf_124 : decode cX12_tollOf 124 = .ok (.iload 9, 2) := by decide +kernel
theorem dX12_tollOf_126 : decode cX12_tollOf 126 = .ok (.if_icmp .eq 5, 3) := by decide +kernel
theorem dX12_tollOf_129 : decode cX12_tollOf 129 = .ok (.iconst (-1), 1) := by decide +kernel
theorem dX12_tollOf_130 : decode cX12_tollOf 130 = .ok (.ireturn, 1) := by decide +kernel
theorem dX12_tollOf_131 : decode cX12_tollOf 131 = .ok (.aload_n 0, 1) := by decide +kernel
theorem dX12_tollOf_132 : decode cX12_tollOf 132 = .ok (.iload 5, 2) := by decide +kernel
theorem dX12_tollOf_134 : decode cX12_tollOf 134 = .ok (.iconst 5, 1) := by decide +kernel
theorem dX12_tollOf_135 : decode cX12_tollOf 135 = .ok (.invokevirtual 310, 3) := by decide +kernel
theorem dX12_tollOf_138 : decode cX12_tollOf 138 = .ok (.iload_n 1, 1) := by decide +kernel
theorem dX12_tollOf_139 : decode cX12_tollOf 139 = .ok (.if_icmp .eq 19, 3) := by decide +kernel
theorem dX12_tollOf_142 : decode cX12_tollOf 142 = .ok (.aload_n 0, 1) := by decide +kernel
theorem dX12_tollOf_143 : decode cX12_tollOf 143 = .ok (.iload 5, 2) := by decide +kernel
theorem dX12_tollOf_145 : decode cX12_tollOf 145 = .ok (.bipush 10, 2) := by decide +kernel
theorem dX12_tollOf_147 : decode cX12_tollOf 147 = .ok (.invokevirtual 310, 3) := by decide +kernel
theorem dX12_tollOf_150 : decode cX12_tollOf 150 = .ok (.iload_n 1, 1) := by decide +kernel
theorem dX12_tollOf_151 : decode cX12_tollOf 151 = .ok (.ishr, 1) := by decide +kernel
theorem dX12_tollOf_152 : decode cX12_tollOf 152 = .ok (.iconst 1, 1) := by decide +kernel
theorem dX12_tollOf_153 : decode cX12_tollOf 153 = .ok (.iand, 1) := by decide +kernel
theorem dX12_tollOf_154 : decode cX12_tollOf 154 = .ok (.iconst 1, 1) := by decide +kernel
theorem dX12_tollOf_155 : decode cX12_tollOf 155 = .ok (.if_icmp .ne 7, 3) := by decide +kernel
theorem dX12_tollOf_158 : decode cX12_tollOf 158 = .ok (.iconst 0, 1) := by decide +kernel
theorem dX12_tollOf_159 : decode cX12_tollOf 159 = .ok (.goto 11, 3) := by decide +kernel
theorem dX12_tollOf_162 : decode cX12_tollOf 162 = .ok (.aload_n 0, 1) := by decide +kernel
theorem dX12_tollOf_163 : decode cX12_tollOf 163 = .ok (.iload 5, 2) := by decide +kernel
theorem dX12_tollOf_165 : decode cX12_tollOf 165 = .ok (.bipush 9, 2) := by decide +kernel
theorem dX12_tollOf_167 : decode cX12_tollOf 167 = .ok (.invokevirtual 310, 3) := by decide +kernel
theorem dX12_tollOf_170 : decode cX12_tollOf 170 = .ok (.ireturn, 1) := by decide +kernel
theorem dX12_wayOf_0 : decode cX12_wayOf 0 = .ok (.aload_n 0, 1) := by decide +kernel
theorem dX12_wayOf_1 : decode cX12_wayOf 1 = .ok (.iload_n 2, 1) := by decide +kernel
theorem dX12_wayOf_2 : decode cX12_wayOf 2 = .ok (.iload_n 3, 1) := by decide +kernel
theorem dX12_wayOf_3 : decode cX12_wayOf 3 = .ok (.invokevirtual 452, 3) := by decide +kernel
theorem dX12_wayOf_6 : decode cX12_wayOf 6 = .ok (.ifCond .eq 34, 3) := by decide +kernel
theorem dX12_wayOf_9 : decode cX12_wayOf 9 = .ok (.aload_n 0, 1) := by decide +kernel
theorem dX12_wayOf_10 : decode cX12_wayOf 10 = .ok (.iload 4, 2) := by decide +kernel
theorem dX12_wayOf_12 : decode cX12_wayOf 12 = .ok (.iload 5, 2) := by decide +kernel
theorem dX12_wayOf_14 : decode cX12_wayOf 14 = .ok (.invokevirtual 452, 3) := by decide +kernel
theorem dX12_wayOf_17 : decode cX12_wayOf 17 = .ok (.ifCond .eq 23, 3) := by decide +kernel
theorem dX12_wayOf_20 : decode cX12_wayOf 20 = .ok (.aload_n 0, 1) := by decide +kernel
theorem dX12_wayOf_21 : decode cX12_wayOf 21 = .ok (.iload_n 2, 1) := by decide +kernel
theorem dX12_wayOf_22 : decode cX12_wayOf 22 = .ok (.iload_n 3, 1) := by decide +kernel
theorem dX12_wayOf_23 : decode cX12_wayOf 23 = .ok (.invokevirtual 373, 3) := by decide +kernel
theorem dX12_wayOf_26 : decode cX12_wayOf 26 = .ok (.ifCond .ne 14, 3) := by decide +kernel
theorem dX12_wayOf_29 : decode cX12_wayOf 29 = .ok (.aload_n 0, 1) := by decide +kernel
theorem dX12_wayOf_30 : decode cX12_wayOf 30 = .ok (.iload 4, 2) := by decide +kernel
theorem dX12_wayOf_32 : decode cX12_wayOf 32 = .ok (.iload 5, 2) := by decide +kernel
theorem dX12_wayOf_34 : decode cX12_wayOf 34 = .ok (.invokevirtual 373, 3) := by decide +kernel
theorem dX12_wayOf_37 : decode cX12_wayOf 37 = .ok (.ifCond .eq 5, 3) := by decide +kernel
theorem dX12_wayOf_40 : decode cX12_wayOf 40 = .ok (.iconst (-1), 1) := by decide +kernel
theorem dX12_wayOf_41 : decode cX12_wayOf 41 = .ok (.ireturn, 1) := by decide +kernel
theorem dX12_wayOf_42 : decode cX12_wayOf 42 = .ok (.aload_n 0, 1) := by decide +kernel
theorem dX12_wayOf_43 : decode cX12_wayOf 43 = .ok (.iload_n 1, 1) := by decide +kernel
theorem dX12_wayOf_44 : decode cX12_wayOf 44 = .ok (.bipush 40, 2) := by decide +kernel
theorem dX12_wayOf_46 : decode cX12_wayOf 46 = .ok (.iload_n 3, 1) := by decide +kernel
theorem dX12_wayOf_47 : decode cX12_wayOf 47 = .ok (.imul, 1) := by decide +kernel
theorem dX12_wayOf_48 : decode cX12_wayOf 48 = .ok (.iload_n 2, 1) := by decide +kernel
theorem dX12_wayOf_49 : decode cX12_wayOf 49 = .ok (.iadd, 1) := by decide +kernel
theorem dX12_wayOf_50 : decode cX12_wayOf 50 = .ok (.invokevirtual 523, 3) := by decide +kernel
theorem dX12_wayOf_53 : decode cX12_wayOf 53 = .ok (.aload_n 0, 1) := by decide +kernel
theorem dX12_wayOf_54 : decode cX12_wayOf 54 = .ok (.getfield 57, 3) := by decide +kernel
theorem dX12_wayOf_57 : decode cX12_wayOf 57 = .ok (.bipush 40, 2) := by decide +kernel
theorem dX12_wayOf_59 : decode cX12_wayOf 59 = .ok (.iload 5, 2) := by decide +kernel
theorem dX12_wayOf_61 : decode cX12_wayOf 61 = .ok (.imul, 1) := by decide +kernel
theorem dX12_wayOf_62 : decode cX12_wayOf 62 = .ok (.iload 4, 2) := by decide +kernel
theorem dX12_wayOf_64 : decode cX12_wayOf 64 = .ok (.iadd, 1) := by decide +kernel
theorem dX12_wayOf_65 : decode cX12_wayOf 65 = .ok (.iaload, 1) := by decide +kernel
theorem dX12_wayOf_66 : decode cX12_wayOf 66 = .ok (.ireturn, 1) := by decide +kernel
theorem dX12_way_0 : decode cX12_way 0 = .ok (.iload_n 1, 1) := by decide +kernel
theorem dX12_way_1 : decode cX12_way 1 = .ok (.invokestatic 395, 3) := by decide +kernel
theorem dX12_way_4 : decode cX12_way 4 = .ok (.ifCond .eq 36, 3) := by decide +kernel
theorem dX12_way_7 : decode cX12_way 7 = .ok (.aload_n 0, 1) := by decide +kernel
theorem dX12_way_8 : decode cX12_way 8 = .ok (.iload_n 2, 1) := by decide +kernel
theorem dX12_way_9 : decode cX12_way 9 = .ok (.iload_n 3, 1) := by decide +kernel
theorem dX12_way_10 : decode cX12_way 10 = .ok (.invokevirtual 452, 3) := by decide +kernel
theorem dX12_way_13 : decode cX12_way 13 = .ok (.ifCond .eq 27, 3) := by decide +kernel
theorem dX12_way_16 : decode cX12_way 16 = .ok (.aload_n 0, 1) := by decide +kernel
theorem dX12_way_17 : decode cX12_way 17 = .ok (.iload 4, 2) := by decide +kernel
theorem dX12_way_19 : decode cX12_way 19 = .ok (.iload 5, 2) := by decide +kernel
theorem dX12_way_21 : decode cX12_way 21 = .ok (.invokevirtual 452, 3) := by decide +kernel
theorem dX12_way_24 : decode cX12_way 24 = .ok (.ifCond .eq 16, 3) := by decide +kernel
theorem dX12_way_27 : decode cX12_way 27 = .ok (.iload 6, 2) := by decide +kernel
theorem dX12_way_29 : decode cX12_way 29 = .ok (.i2l, 1) := by decide +kernel
theorem dX12_way_30 : decode cX12_way 30 = .ok (.lconst 0, 1) := by decide +kernel
theorem dX12_way_31 : decode cX12_way 31 = .ok (.ldc2_w 345, 3) := by decide +kernel
theorem dX12_way_34 : decode cX12_way 34 = .ok (.invokestatic 112, 3) := by decide +kernel
theorem dX12_way_37 : decode cX12_way 37 = .ok (.ifCond .ne 5, 3) := by decide +kernel
theorem dX12_way_40 : decode cX12_way 40 = .ok (.iconst (-1), 1) := by decide +kernel
theorem dX12_way_41 : decode cX12_way 41 = .ok (.ireturn, 1) := by decide +kernel
theorem dX12_way_42 : decode cX12_way 42 = .ok (.aload_n 0, 1) := by decide +kernel
theorem dX12_way_43 : decode cX12_way 43 = .ok (.invokevirtual 526, 3) := by decide +kernel
theorem dX12_way_46 : decode cX12_way 46 = .ok (.aload_n 0, 1) := by decide +kernel
theorem dX12_way_47 : decode cX12_way 47 = .ok (.iload_n 1, 1) := by decide +kernel
theorem dX12_way_48 : decode cX12_way 48 = .ok (.iload_n 2, 1) := by decide +kernel
theorem dX12_way_49 : decode cX12_way 49 = .ok (.iload_n 3, 1) := by decide +kernel
theorem dX12_way_50 : decode cX12_way 50 = .ok (.iload 4, 2) := by decide +kernel
theorem dX12_way_52 : decode cX12_way 52 = .ok (.iload 5, 2) := by decide +kernel
theorem dX12_way_54 : decode cX12_way 54 = .ok (.invokevirtual 529, 3) := by decide +kernel
theorem dX12_way_57 : decode cX12_way 57 = .ok (.istore 7, 2) := by decide +kernel
theorem dX12_way_59 : decode cX12_way 59 = .ok (.iload 7, 2) := by decide +kernel
theorem dX12_way_61 : decode cX12_way 61 = .ok (.ifCond .ge 6, 3) := by decide +kernel
theorem dX12_way_64 : decode cX12_way 64 = .ok (.bipush (-2), 2) := by decide +kernel
theorem dX12_way_66 : decode cX12_way 66 = .ok (.ireturn, 1) := by decide +kernel
theorem dX12_way_67 : decode cX12_way 67 = .ok (.iload 6, 2) := by decide +kernel
theorem dX12_way_69 : decode cX12_way 69 = .ok (.ifCond .ne 12, 3) := by decide +kernel
theorem dX12_way_72 : decode cX12_way 72 = .ok (.iload 7, 2) := by decide +kernel
theorem dX12_way_74 : decode cX12_way 74 = .ok (.sipush 10000, 3) := by decide +kernel
theorem dX12_way_77 : decode cX12_way 77 = .ok (.idiv, 1) := by decide +kernel
theorem dX12_way_78 : decode cX12_way 78 = .ok (.goto 37, 3) := by decide +kernel
theorem dX12_way_81 : decode cX12_way 81 = .ok (.iload 6, 2) := by decide +kernel
theorem dX12_way_83 : decode cX12_way 83 = .ok (.iconst 1, 1) := by decide +kernel
theorem dX12_way_84 : decode cX12_way 84 = .ok (.if_icmp .ne 12, 3) := by decide +kernel
theorem dX12_way_87 : decode cX12_way 87 = .ok (.iload 7, 2) := by decide +kernel
theorem dX12_way_89 : decode cX12_way 89 = .ok (.sipush 10000, 3) := by decide +kernel
theorem dX12_way_92 : decode cX12_way 92 = .ok (.irem, 1) := by decide +kernel
theorem dX12_way_93 : decode cX12_way 93 = .ok (.goto 22, 3) := by decide +kernel
theorem dX12_way_96 : decode cX12_way 96 = .ok (.aload_n 0, 1) := by decide +kernel
theorem dX12_way_97 : decode cX12_way 97 = .ok (.iload_n 1, 1) := by decide +kernel
theorem dX12_way_98 : decode cX12_way 98 = .ok (.bipush 40, 2) := by decide +kernel
theorem dX12_way_100 : decode cX12_way 100 = .ok (.iload_n 3, 1) := by decide +kernel
theorem dX12_way_101 : decode cX12_way 101 = .ok (.imul, 1) := by decide +kernel
theorem dX12_way_102 : decode cX12_way 102 = .ok (.iload_n 2, 1) := by decide +kernel
theorem dX12_way_103 : decode cX12_way 103 = .ok (.iadd, 1) := by decide +kernel
theorem dX12_way_104 : decode cX12_way 104 = .ok (.bipush 40, 2) := by decide +kernel
theorem dX12_way_106 : decode cX12_way 106 = .ok (.iload 5, 2) := by decide +kernel
theorem dX12_way_108 : decode cX12_way 108 = .ok (.imul, 1) := by decide +kernel
theorem dX12_way_109 : decode cX12_way 109 = .ok (.iload 4, 2) := by decide +kernel
theorem dX12_way_111 : decode cX12_way 111 = .ok (.iadd, 1) := by decide +kernel
theorem dX12_way_112 : decode cX12_way 112 = .ok (.invokevirtual 533, 3) := by decide +kernel
theorem dX12_way_115 : decode cX12_way 115 = .ok (.ireturn, 1) := by decide +kernel
theorem dX12_sums_0 : decode cX12_sums 0 = .ok (.aload_n 0, 1) := by decide +kernel
theorem dX12_sums_1 : decode cX12_sums 1 = .ok (.invokevirtual 526, 3) := by decide +kernel
theorem dX12_sums_4 : decode cX12_sums 4 = .ok (.aload_n 0, 1) := by decide +kernel
theorem dX12_sums_5 : decode cX12_sums 5 = .ok (.iconst 0, 1) := by decide +kernel
theorem dX12_sums_6 : decode cX12_sums 6 = .ok (.putfield 538, 3) := by decide +kernel
theorem dX12_sums_9 : decode cX12_sums 9 = .ok (.aload_n 0, 1) := by decide +kernel
theorem dX12_sums_10 : decode cX12_sums 10 = .ok (.iconst 0, 1) := by decide +kernel
theorem dX12_sums_11 : decode cX12_sums 11 = .ok (.putfield 541, 3) := by decide +kernel
theorem dX12_sums_14 : decode cX12_sums 14 = .ok (.iconst 0, 1) := by decide +kernel
theorem dX12_sums_15 : decode cX12_sums 15 = .ok (.istore_n 1, 1) := by decide +kernel
theorem dX12_sums_16 : decode cX12_sums 16 = .ok (.iload_n 1, 1) := by decide +kernel
theorem dX12_sums_17 : decode cX12_sums 17 = .ok (.bipush 6, 2) := by decide +kernel
theorem dX12_sums_19 : decode cX12_sums 19 = .ok (.if_icmp .ge 123, 3) := by decide +kernel
theorem dX12_sums_22 : decode cX12_sums 22 = .ok (.sipush 2400, 3) := by decide +kernel
theorem dX12_sums_25 : decode cX12_sums 25 = .ok (.bipush 6, 2) := by decide +kernel
theorem dX12_sums_27 : decode cX12_sums 27 = .ok (.iload_n 1, 1) := by decide +kernel
theorem dX12_sums_28 : decode cX12_sums 28 = .ok (.imul, 1) := by decide +kernel
theorem dX12_sums_29 : decode cX12_sums 29 = .ok (.iadd, 1) := by decide +kernel
theorem dX12_sums_30 : decode cX12_sums 30 = .ok (.istore_n 2, 1) := by decide +kernel
theorem dX12_sums_31 : decode cX12_sums 31 = .ok (.aload_n 0, 1) := by decide +kernel
theorem dX12_sums_32 : decode cX12_sums 32 = .ok (.getfield 48, 3) := by decide +kernel
theorem dX12_sums_35 : decode cX12_sums 35 = .ok (.iload_n 2, 1) := by decide +kernel
theorem dX12_sums_36 : decode cX12_sums 36 = .ok (.iaload, 1) := by decide +kernel
theorem dX12_sums_37 : decode cX12_sums 37 = .ok (.ifCond .ne 6, 3) := by decide +kernel
theorem dX12_sums_40 : decode cX12_sums 40 = .ok (.goto 96, 3) := by decide +kernel
theorem dX12_sums_43 : decode cX12_sums 43 = .ok (.aload_n 0, 1) := by decide +kernel
theorem dX12_sums_44 : decode cX12_sums 44 = .ok (.aload_n 0, 1) := by decide +kernel
theorem dX12_sums_45 : decode cX12_sums 45 = .ok (.getfield 48, 3) := by decide +kernel
theorem dX12_sums_48 : decode cX12_sums 48 = .ok (.iload_n 2, 1) := by decide +kernel
theorem dX12_sums_49 : decode cX12_sums 49 = .ok (.iconst 1, 1) := by decide +kernel
theorem dX12_sums_50 : decode cX12_sums 50 = .ok (.iadd, 1) := by decide +kernel
theorem dX12_sums_51 : decode cX12_sums 51 = .ok (.iaload, 1) := by decide +kernel
theorem dX12_sums_52 : decode cX12_sums 52 = .ok (.aload_n 0, 1) := by decide +kernel
theorem dX12_sums_53 : decode cX12_sums 53 = .ok (.getfield 48, 3) := by decide +kernel
theorem dX12_sums_56 : decode cX12_sums 56 = .ok (.iload_n 2, 1) := by decide +kernel
theorem dX12_sums_57 : decode cX12_sums 57 = .ok (.iconst 2, 1) := by decide +kernel
theorem dX12_sums_58 : decode cX12_sums 58 = .ok (.iadd, 1) := by decide +kernel
theorem dX12_sums_59 : decode cX12_sums 59 = .ok (.iaload, 1) := by decide +kernel
theorem dX12_sums_60 : decode cX12_sums 60 = .ok (.aload_n 0, 1) := by decide +kernel
theorem dX12_sums_61 : decode cX12_sums 61 = .ok (.getfield 48, 3) := by decide +kernel
theorem dX12_sums_64 : decode cX12_sums 64 = .ok (.iload_n 2, 1) := by decide +kernel
theorem dX12_sums_65 : decode cX12_sums 65 = .ok (.iconst 3, 1) := by decide +kernel
theorem dX12_sums_66 : decode cX12_sums 66 = .ok (.iadd, 1) := by decide +kernel
theorem dX12_sums_67 : decode cX12_sums 67 = .ok (.iaload, 1) := by decide +kernel
theorem dX12_sums_68 : decode cX12_sums 68 = .ok (.aload_n 0, 1) := by decide +kernel
theorem dX12_sums_69 : decode cX12_sums 69 = .ok (.getfield 48, 3) := by decide +kernel
theorem dX12_sums_72 : decode cX12_sums 72 = .ok (.iload_n 2, 1) := by decide +kernel
theorem dX12_sums_73 : decode cX12_sums 73 = .ok (.iconst 4, 1) := by decide +kernel
theorem dX12_sums_74 : decode cX12_sums 74 = .ok (.iadd, 1) := by decide +kernel
theorem dX12_sums_75 : decode cX12_sums 75 = .ok (.iaload, 1) := by decide +kernel
theorem dX12_sums_76 : decode cX12_sums 76 = .ok (.aload_n 0, 1) := by decide +kernel
theorem dX12_sums_77 : decode cX12_sums 77 = .ok (.getfield 48, 3) := by decide +kernel
theorem dX12_sums_80 : decode cX12_sums 80 = .ok (.iload_n 2, 1) := by decide +kernel
theorem dX12_sums_81 : decode cX12_sums 81 = .ok (.iconst 5, 1) := by decide +kernel
theorem dX12_sums_82 : decode cX12_sums 82 = .ok (.iadd, 1) := by decide +kernel
theorem dX12_sums_83 : decode cX12_sums 83 = .ok (.iaload, 1) := by decide +kernel
theorem dX12_sums_84 : decode cX12_sums 84 = .ok (.invokevirtual 529, 3) := by decide +kernel
theorem dX12_sums_87 : decode cX12_sums 87 = .ok (.istore_n 3, 1) := by decide +kernel
theorem dX12_sums_88 : decode cX12_sums 88 = .ok (.aload_n 0, 1) := by decide +kernel
theorem dX12_sums_89 : decode cX12_sums 89 = .ok (.dup, 1) := by decide +kernel
theorem dX12_sums_90 : decode cX12_sums 90 = .ok (.getfield 538, 3) := by decide +kernel
theorem dX12_sums_93 : decode cX12_sums 93 = .ok (.iload_n 3, 1) := by decide +kernel
theorem dX12_sums_94 : decode cX12_sums 94 = .ok (.ifCond .ge 9, 3) := by decide +kernel
theorem dX12_sums_97 : decode cX12_sums 97 = .ok (.sipush 999, 3) := by decide +kernel
theorem dX12_sums_100 : decode cX12_sums 100 = .ok (.goto 8, 3) := by decide +kernel
theorem dX12_sums_103 : decode cX12_sums 103 = .ok (.iload_n 3, 1) := by decide +kernel
theorem dX12_sums_104 : decode cX12_sums 104 = .ok (.sipush 10000, 3) := by decide +kernel
theorem dX12_sums_107 : decode cX12_sums 107 = .ok (.idiv, 1) := by decide +kernel
theorem dX12_sums_108 : decode cX12_sums 108 = .ok (.iadd, 1) := by decide +kernel
theorem dX12_sums_109 : decode cX12_sums 109 = .ok (.putfield 538, 3) := by decide +kernel
theorem dX12_sums_112 : decode cX12_sums 112 = .ok (.aload_n 0, 1) := by decide +kernel
theorem dX12_sums_113 : decode cX12_sums 113 = .ok (.dup, 1) := by decide +kernel
theorem dX12_sums_114 : decode cX12_sums 114 = .ok (.getfield 541, 3) := by decide +kernel
theorem dX12_sums_117 : decode cX12_sums 117 = .ok (.iload_n 3, 1) := by decide +kernel
theorem dX12_sums_118 : decode cX12_sums 118 = .ok (.ifCond .ge 9, 3) := by decide +kernel
theorem dX12_sums_121 : decode cX12_sums 121 = .ok (.sipush 9999, 3) := by decide +kernel
theorem dX12_sums_124 : decode cX12_sums 124 = .ok (.goto 8, 3) := by decide +kernel
theorem dX12_sums_127 : decode cX12_sums 127 = .ok (.iload_n 3, 1) := by decide +kernel
theorem dX12_sums_128 : decode cX12_sums 128 = .ok (.sipush 10000, 3) := by decide +kernel
theorem dX12_sums_131 : decode cX12_sums 131 = .ok (.irem, 1) := by decide +kernel
theorem dX12_sums_132 : decode cX12_sums 132 = .ok (.iadd, 1) := by decide +kernel
theorem dX12_sums_133 : decode cX12_sums 133 = .ok (.putfield 541, 3) := by decide +kernel
theorem dX12_sums_136 : decode cX12_sums 136 = .ok (.iinc 1 1, 3) := by decide +kernel
theorem dX12_sums_139 : decode cX12_sums 139 = .ok (.goto (-123), 3) := by decide +kernel
theorem dX12_sums_142 : decode cX12_sums 142 = .ok (.return_, 1) := by decide +kernel
theorem dX12_where_0 : decode cX12_where 0 = .ok (.aload_n 0, 1) := by decide +kernel
theorem dX12_where_1 : decode cX12_where 1 = .ok (.iload_n 1, 1) := by decide +kernel
theorem dX12_where_2 : decode cX12_where 2 = .ok (.invokevirtual 423, 3) := by decide +kernel
theorem dX12_where_5 : decode cX12_where 5 = .ok (.ifCond .eq 13, 3) := by decide +kernel
theorem dX12_where_8 : decode cX12_where 8 = .ok (.iload_n 2, 1) := by decide +kernel
theorem dX12_where_9 : decode cX12_where 9 = .ok (.i2l, 1) := by decide +kernel
theorem dX12_where_10 : decode cX12_where 10 = .ok (.lconst 0, 1) := by decide +kernel
theorem dX12_where_11 : decode cX12_where 11 = .ok (.lconst 1, 1) := by decide +kernel
theorem dX12_where_12 : decode cX12_where 12 = .ok (.invokestatic 112, 3) := by decide +kernel
theorem dX12_where_15 : decode cX12_where 15 = .ok (.ifCond .ne 5, 3) := by decide +kernel
theorem dX12_where_18 : decode cX12_where 18 = .ok (.iconst (-1), 1) := by decide +kernel
theorem dX12_where_19 : decode cX12_where 19 = .ok (.ireturn, 1) := by decide +kernel
theorem dX12_where_20 : decode cX12_where 20 = .ok (.aload_n 0, 1) := by decide +kernel
theorem dX12_where_21 : decode cX12_where 21 = .ok (.iload_n 1, 1) := by decide +kernel
theorem dX12_where_22 : decode cX12_where 22 = .ok (.bipush 7, 2) := by decide +kernel
theorem dX12_where_24 : decode cX12_where 24 = .ok (.invokevirtual 310, 3) := by decide +kernel
theorem dX12_where_27 : decode cX12_where 27 = .ok (.istore_n 3, 1) := by decide +kernel
theorem dX12_where_28 : decode cX12_where 28 = .ok (.aload_n 0, 1) := by decide +kernel
theorem dX12_where_29 : decode cX12_where 29 = .ok (.iload_n 1, 1) := by decide +kernel
theorem dX12_where_30 : decode cX12_where 30 = .ok (.bipush 8, 2) := by decide +kernel
theorem dX12_where_32 : decode cX12_where 32 = .ok (.invokevirtual 310, 3) := by decide +kernel
theorem dX12_where_35 : decode cX12_where 35 = .ok (.istore 4, 2) := by decide +kernel
theorem dX12_where_37 : decode cX12_where 37 = .ok (.aload_n 0, 1) := by decide +kernel
theorem dX12_where_38 : decode cX12_where 38 = .ok (.iload_n 1, 1) := by decide +kernel
theorem dX12_where_39 : decode cX12_where 39 = .ok (.bipush 9, 2) := by decide +kernel
theorem dX12_where_41 : decode cX12_where 41 = .ok (.invokevirtual 310, 3) := by decide +kernel
theorem dX12_where_44 : decode cX12_where 44 = .ok (.istore 5, 2) := by decide +kernel
theorem dX12_where_46 : decode cX12_where 46 = .ok (.iconst (-1), 1) := by decide +kernel
theorem dX12_where_47 : decode cX12_where 47 = .ok (.istore 6, 2) := by decide +kernel
theorem dX12_where_49 : decode cX12_where 49 = .ok (.iconst 0, 1) := by decide +kernel
theorem dX12_where_50 : decode cX12_where 50 = .ok (.istore 7, 2) := by decide +kernel
theorem dX12_where_52 : decode cX12_where 52 = .ok (.iconst 0, 1) := by decide +kernel
theorem dX12_where_53 : decode cX12_where 53 = .ok (.istore 8, 2) := by decide +kernel
theorem dX12_where_55 : decode cX12_where 55 = .ok (.iconst 0, 1) := by decide +kernel
theorem dX12_where_56 : decode cX12_where 56 = .ok (.istore 9, 2) := by decide +kernel
theorem dX12_where_58 : decode cX12_where 58 = .ok (.iconst 0, 1) := by decide +kernel
theorem dX12_where_59 : decode cX12_where 59 = .ok (.istore 10, 2) := by decide +kernel
theorem dX12_where_61 : decode cX12_where 61 = .ok (.iload 10, 2) := by decide +kernel
theorem dX12_where_63 : decode cX12_where 63 = .ok (.iconst 4, 1) := by decide +kernel
theorem dX12_where_64 : decode cX12_where 64 = .ok (.if_icmp .ge 110, 3) := by decide +kernel
theorem dX12_where_67 : decode cX12_where 67 = .ok (.iconst 0, 1) := by decide +kernel
theorem dX12_where_68 : decode cX12_where 68 = .ok (.istore 11, 2) := by decide +kernel
theorem dX12_where_70 : decode cX12_where 70 = .ok (.iload 11, 2) := by decide +kernel
theorem dX12_where_72 : decode cX12_where 72 = .ok (.aload_n 0, 1) := by decide +kernel
theorem dX12_where_73 : decode cX12_where 73 = .ok (.iload_n 1, 1) := by decide +kernel
theorem dX12_where_74 : decode cX12_where 74 = .ok (.iload 10, 2) := by decide +kernel
theorem dX12_where_76 : decode cX12_where 76 = .ok (.invokevirtual 434, 3) := by decide +kernel
theorem dX12_where_79 : decode cX12_where 79 = .ok (.if_icmp .ge 89, 3) := by decide +kernel
theorem dX12_where_82 : decode cX12_where 82 = .ok (.aload_n 0, 1) := by decide +kernel
theorem dX12_where_83 : decode cX12_where 83 = .ok (.iload_n 1, 1) := by decide +kernel
theorem dX12_where_84 : decode cX12_where 84 = .ok (.iload 10, 2) := by decide +kernel
theorem dX12_where_86 : decode cX12_where 86 = .ok (.iload 11, 2) := by decide +kernel
theorem dX12_where_88 : decode cX12_where 88 = .ok (.iload 5, 2) := by decide +kernel
theorem dX12_where_90 : decode cX12_where 90 = .ok (.iconst (-1), 1) := by decide +kernel
theorem dX12_where_91 : decode cX12_where 91 = .ok (.if_icmp .ne 7, 3) := by decide +kernel
theorem dX12_where_94 : decode cX12_where 94 = .ok (.iconst 0, 1) := by decide +kernel
theorem dX12_where_95 : decode cX12_where 95 = .ok (.goto 5, 3) := by decide +kernel
theorem dX12_where_98 : decode cX12_where 98 = .ok (.iload 5, 2) := by decide +kernel
theorem dX12_where_100 : decode cX12_where 100 = .ok (.invokevirtual 439, 3) := by decide +kernel
theorem dX12_where_103 : decode cX12_where 103 = .ok (.aload_n 0, 1) := by decide +kernel
theorem dX12_where_104 : decode cX12_where 104 = .ok (.invokevirtual 544, 3) := by decide +kernel
theorem dX12_where_107 : decode cX12_where 107 = .ok (.iload 6, 2) := by decide +kernel
theorem dX12_where_109 : decode cX12_where 109 = .ok (.ifCond .lt 33, 3) := by decide +kernel
theorem dX12_where_112 : decode cX12_where 112 = .ok (.aload_n 0, 1) := by decide +kernel
theorem dX12_where_113 : decode cX12_where 113 = .ok (.getfield 538, 3) := by decide +kernel
theorem dX12_where_116 : decode cX12_where 116 = .ok (.iload 8, 2) := by decide +kernel
theorem dX12_where_118 : decode cX12_where 118 = .ok (.if_icmp .gt 44, 3) := by decide +kernel
theorem dX12_where_121 : decode cX12_where 121 = .ok (.aload_n 0, 1) := by decide +kernel
theorem dX12_where_122 : decode cX12_where 122 = .ok (.getfield 538, 3) := by decide +kernel
theorem dX12_where_125 : decode cX12_where 125 = .ok (.iload 8, 2) := by decide +kernel
theorem dX12_where_127 : decode cX12_where 127 = .ok (.if_icmp .ne 15, 3) := by decide +kernel
theorem dX12_where_130 : decode cX12_where 130 = .ok (.aload_n 0, 1) := by decide +kernel
theorem dX12_where_131 : decode cX12_where 131 = .ok (.getfield 541, 3) := by decide +kernel
theorem dX12_where_134 : decode cX12_where 134 = .ok (.iload 9, 2) := by decide +kernel
theorem dX12_where_136 : decode cX12_where 136 = .ok (.if_icmp .lt 6, 3) := by decide +kernel
theorem dX12_where_139 : decode cX12_where 139 = .ok (.goto 23, 3) := by decide +kernel
theorem dX12_where_142 : decode cX12_where 142 = .ok (.iload 10, 2) := by decide +kernel
theorem dX12_where_144 : decode cX12_where 144 = .ok (.istore 6, 2) := by decide +kernel
theorem dX12_where_146 : decode cX12_where 146 = .ok (.iload 11, 2) := by decide +kernel
theorem dX12_where_148 : decode cX12_where 148 = .ok (.istore 7, 2) := by decide +kernel
theorem dX12_where_150 : decode cX12_where 150 = .ok (.aload_n 0, 1) := by decide +kernel
theorem dX12_where_151 : decode cX12_where 151 = .ok (.getfield 538, 3) := by decide +kernel
theorem dX12_where_154 : decode cX12_where 154 = .ok (.istore 8, 2) := by decide +kernel
theorem dX12_where_156 : decode cX12_where 156 = .ok (.aload_n 0, 1) := by decide +kernel
theorem dX12_where_157 : decode cX12_where 157 = .ok (.getfield 541, 3) := by decide +kernel
theorem dX12_where_160 : decode cX12_where 160 = .ok (.istore 9, 2) := by decide +kernel
theorem dX12_where_162 : decode cX12_where 162 = .ok (.iinc 11 1, 3) := by decide +kernel
theorem dX12_where_165 : decode cX12_where 165 = .ok (.goto (-95), 3) := by decide +kernel
theorem dX12_where_168 : decode cX12_where 168 = .ok (.iinc 10 1, 3) := by decide +kernel
theorem dX12_where_171 : decode cX12_where 171 = .ok (.goto (-110), 3) := by decide +kernel
theorem dX12_where_174 : decode cX12_where 174 = .ok (.aload_n 0, 1) := by decide +kernel
theorem dX12_where_175 : decode cX12_where 175 = .ok (.iload_n 1, 1) := by decide +kernel
theorem dX12_where_176 : decode cX12_where 176 = .ok (.iload_n 3, 1) := by decide +kernel
theorem dX12_where_177 : decode cX12_where 177 = .ok (.iload 4, 2) := by decide +kernel
theorem dX12_where_179 : decode cX12_where 179 = .ok (.iload 5, 2) := by decide +kernel
theorem dX12_where_181 : decode cX12_where 181 = .ok (.invokevirtual 439, 3) := by decide +kernel
theorem dX12_where_184 : decode cX12_where 184 = .ok (.iload_n 2, 1) := by decide +kernel
theorem dX12_where_185 : decode cX12_where 185 = .ok (.ifCond .ne 8, 3) := by decide +kernel
theorem dX12_where_188 : decode cX12_where 188 = .ok (.iload 6, 2) := by decide +kernel
theorem dX12_where_190 : decode cX12_where 190 = .ok (.goto 5, 3) := by decide +kernel
theorem dX12_where_193 : decode cX12_where 193 = .ok (.iload 7, 2) := by decide +kernel
theorem dX12_where_195 : decode cX12_where 195 = .ok (.ireturn, 1) := by decide +kernel
theorem dX12_putsBack_0 : decode cX12_putsBack 0 = .ok (.iconst 0, 1) := by decide +kernel
theorem dX12_putsBack_1 : decode cX12_putsBack 1 = .ok (.istore_n 1, 1) := by decide +kernel
theorem dX12_putsBack_2 : decode cX12_putsBack 2 = .ok (.iload_n 1, 1) := by decide +kernel
theorem dX12_putsBack_3 : decode cX12_putsBack 3 = .ok (.sipush 2440, 3) := by decide +kernel
theorem dX12_putsBack_6 : decode cX12_putsBack 6 = .ok (.if_icmp .ge 21, 3) := by decide +kernel
theorem dX12_putsBack_9 : decode cX12_putsBack 9 = .ok (.aload_n 0, 1) := by decide +kernel
theorem dX12_putsBack_10 : decode cX12_putsBack 10 = .ok (.getfield 48, 3) := by decide +kernel
theorem dX12_putsBack_13 : decode cX12_putsBack 13 = .ok (.iload_n 1, 1) := by decide +kernel
theorem dX12_putsBack_14 : decode cX12_putsBack 14 = .ok (.aload_n 0, 1) := by decide +kernel
theorem dX12_putsBack_15 : decode cX12_putsBack 15 = .ok (.getfield 51, 3) := by decide +kernel
theorem dX12_putsBack_18 : decode cX12_putsBack 18 = .ok (.iload_n 1, 1) := by decide +kernel
theorem dX12_putsBack_19 : decode cX12_putsBack 19 = .ok (.iaload, 1) := by decide +kernel
theorem dX12_putsBack_20 : decode cX12_putsBack 20 = .ok (.iastore, 1) := by decide +kernel
theorem dX12_putsBack_21 : decode cX12_putsBack 21 = .ok (.iinc 1 1, 3) := by decide +kernel
theorem dX12_putsBack_24 : decode cX12_putsBack 24 = .ok (.goto (-22), 3) := by decide +kernel
theorem dX12_putsBack_27 : decode cX12_putsBack 27 = .ok (.return_, 1) := by decide +kernel
theorem dX12_seed_0 : decode cX12_seed 0 = .ok (.iload_n 1, 1) := by decide +kernel
theorem dX12_seed_1 : decode cX12_seed 1 = .ok (.ifCond .ge 5, 3) := by decide +kernel
theorem dX12_seed_4 : decode cX12_seed 4 = .ok (.iconst (-1), 1) := by decide +kernel
theorem dX12_seed_5 : decode cX12_seed 5 = .ok (.ireturn, 1) := by decide +kernel
theorem dX12_seed_6 : decode cX12_seed 6 = .ok (.aload_n 0, 1) := by decide +kernel
theorem dX12_seed_7 : decode cX12_seed 7 = .ok (.getfield 48, 3) := by decide +kernel
theorem dX12_seed_10 : decode cX12_seed 10 = .ok (.iconst 4, 1) := by decide +kernel
theorem dX12_seed_11 : decode cX12_seed 11 = .ok (.iaload, 1) := by decide +kernel
theorem dX12_seed_12 : decode cX12_seed 12 = .ok (.istore_n 2, 1) := by decide +kernel
theorem dX12_seed_13 : decode cX12_seed 13 = .ok (.aload_n 0, 1) := by decide +kernel
theorem dX12_seed_14 : decode cX12_seed 14 = .ok (.getfield 48, 3) := by decide +kernel
theorem dX12_seed_17 : decode cX12_seed 17 = .ok (.iconst 4, 1) := by decide +kernel
theorem dX12_seed_18 : decode cX12_seed 18 = .ok (.iload_n 1, 1) := by decide +kernel
theorem dX12_seed_19 : decode cX12_seed 19 = .ok (.iastore, 1) := by decide +kernel
theorem dX12_seed_20 : decode cX12_seed 20 = .ok (.iload_n 2, 1) := by decide +kernel
theorem dX12_seed_21 : decode cX12_seed 21 = .ok (.ireturn, 1) := by decide +kernel
theorem dX12_year_0 : decode cX12_year 0 = .ok (.iconst 0, 1) := by decide +kernel
theorem dX12_year_1 : decode cX12_year 1 = .ok (.istore_n 2, 1) := by decide +kernel
theorem dX12_year_2 : decode cX12_year 2 = .ok (.aload_n 0, 1) := by decide +kernel
theorem dX12_year_3 : decode cX12_year 3 = .ok (.getfield 48, 3) := by decide +kernel
theorem dX12_year_6 : decode cX12_year 6 = .ok (.iconst 2, 1) := by decide +kernel
theorem dX12_year_7 : decode cX12_year 7 = .ok (.iaload, 1) := by decide +kernel
theorem dX12_year_8 : decode cX12_year 8 = .ok (.ifCond .le 196, 3) := by decide +kernel
theorem dX12_year_11 : decode cX12_year 11 = .ok (.aload_n 0, 1) := by decide +kernel
theorem dX12_year_12 : decode cX12_year 12 = .ok (.invokevirtual 562, 3) := by decide +kernel
theorem dX12_year_15 : decode cX12_year 15 = .ok (.bipush 12, 2) := by decide +kernel
theorem dX12_year_17 : decode cX12_year 17 = .ok (.irem, 1) := by decide +kernel
theorem dX12_year_18 : decode cX12_year 18 = .ok (.istore_n 3, 1) := by decide +kernel
theorem dX12_year_19 : decode cX12_year 19 = .ok (.aload_n 0, 1) := by decide +kernel
theorem dX12_year_20 : decode cX12_year 20 = .ok (.invokevirtual 562, 3) := by decide +kernel
theorem dX12_year_23 : decode cX12_year 23 = .ok (.aload_n 0, 1) := by decide +kernel
theorem dX12_year_24 : decode cX12_year 24 = .ok (.invokevirtual 504, 3) := by decide +kernel
theorem dX12_year_27 : decode cX12_year 27 = .ok (.irem, 1) := by decide +kernel
theorem dX12_year_28 : decode cX12_year 28 = .ok (.istore 4, 2) := by decide +kernel
theorem dX12_year_30 : decode cX12_year 30 = .ok (.iconst (-1), 1) := by decide +kernel
theorem dX12_year_31 : decode cX12_year 31 = .ok (.istore 5, 2) := by decide +kernel
theorem dX12_year_33 : decode cX12_year 33 = .ok (.iconst 0, 1) := by decide +kernel
theorem dX12_year_34 : decode cX12_year 34 = .ok (.istore 6, 2) := by decide +kernel
theorem dX12_year_36 : decode cX12_year 36 = .ok (.iload 6, 2) := by decide +kernel
theorem dX12_year_38 : decode cX12_year 38 = .ok (.bipush 30, 2) := by decide +kernel
theorem dX12_year_40 : decode cX12_year 40 = .ok (.if_icmp .ge 47, 3) := by decide +kernel
theorem dX12_year_43 : decode cX12_year 43 = .ok (.iload 5, 2) := by decide +kernel
theorem dX12_year_45 : decode cX12_year 45 = .ok (.ifCond .ge 42, 3) := by decide +kernel
theorem dX12_year_48 : decode cX12_year 48 = .ok (.aload_n 0, 1) := by decide +kernel
theorem dX12_year_49 : decode cX12_year 49 = .ok (.iload 6, 2) := by decide +kernel
theorem dX12_year_51 : decode cX12_year 51 = .ok (.invokevirtual 314, 3) := by decide +kernel
theorem dX12_year_54 : decode cX12_year 54 = .ok (.ifCond .eq 27, 3) := by decide +kernel
theorem dX12_year_57 : decode cX12_year 57 = .ok (.aload_n 0, 1) := by decide +kernel
theorem dX12_year_58 : decode cX12_year 58 = .ok (.iload 6, 2) := by decide +kernel
theorem dX12_year_60 : decode cX12_year 60 = .ok (.invokevirtual 338, 3) := by decide +kernel
theorem dX12_year_63 : decode cX12_year 63 = .ok (.ifCond .ne 6, 3) := by decide +kernel
theorem dX12_year_66 : decode cX12_year 66 = .ok (.goto 15, 3) := by decide +kernel
theorem dX12_year_69 : decode cX12_year 69 = .ok (.iload 4, 2) := by decide +kernel
theorem dX12_year_71 : decode cX12_year 71 = .ok (.ifCond .ne 7, 3) := by decide +kernel
theorem dX12_year_74 : decode cX12_year 74 = .ok (.iload 6, 2) := by decide +kernel
theorem dX12_year_76 : decode cX12_year 76 = .ok (.istore 5, 2) := by decide +kernel
theorem dX12_year_78 : decode cX12_year 78 = .ok (.iinc 4 (-1), 3) := by decide +kernel
theorem dX12_year_81 : decode cX12_year 81 = .ok (.iinc 6 1, 3) := by decide +kernel
theorem dX12_year_84 : decode cX12_year 84 = .ok (.goto (-48), 3) := by decide +kernel
theorem dX12_year_87 : decode cX12_year 87 = .ok (.iconst 1, 1) := by decide +kernel
theorem dX12_year_88 : decode cX12_year 88 = .ok (.aload_n 0, 1) := by decide +kernel
theorem dX12_year_89 : decode cX12_year 89 = .ok (.invokevirtual 562, 3) := by decide +kernel
theorem dX12_year_92 : decode cX12_year 92 = .ok (.iconst 3, 1) := by decide +kernel
theorem dX12_year_93 : decode cX12_year 93 = .ok (.irem, 1) := by decide +kernel
theorem dX12_year_94 : decode cX12_year 94 = .ok (.iadd, 1) := by decide +kernel
theorem dX12_year_95 : decode cX12_year 95 = .ok (.istore 6, 2) := by decide +kernel
theorem dX12_year_97 : decode cX12_year 97 = .ok (.iconst 1, 1) := by decide +kernel
theorem dX12_year_98 : decode cX12_year 98 = .ok (.aload_n 0, 1) := by decide +kernel
theorem dX12_year_99 : decode cX12_year 99 = .ok (.invokevirtual 562, 3) := by decide +kernel
theorem dX12_year_102 : decode cX12_year 102 = .ok (.iconst 3, 1) := by decide +kernel
theorem dX12_year_103 : decode cX12_year 103 = .ok (.irem, 1) := by decide +kernel
theorem dX12_year_104 : decode cX12_year 104 = .ok (.iadd, 1) := by decide +kernel
theorem dX12_year_105 : decode cX12_year 105 = .ok (.istore 7, 2) := by decide +kernel
theorem dX12_year_107 : decode cX12_year 107 = .ok (.iconst 1, 1) := by decide +kernel
theorem dX12_year_108 : decode cX12_year 108 = .ok (.aload_n 0, 1) := by decide +kernel
theorem dX12_year_109 : decode cX12_year 109 = .ok (.invokevirtual 562, 3) := by decide +kernel
theorem dX12_year_112 : decode cX12_year 112 = .ok (.iconst 3, 1) := by decide +kernel
theorem dX12_year_113 : decode cX12_year 113 = .ok (.irem, 1) := by decide +kernel
theorem dX12_year_114 : decode cX12_year 114 = .ok (.iadd, 1) := by decide +kernel
theorem dX12_year_115 : decode cX12_year 115 = .ok (.istore 8, 2) := by decide +kernel
theorem dX12_year_117 : decode cX12_year 117 = .ok (.iconst 1, 1) := by decide +kernel
theorem dX12_year_118 : decode cX12_year 118 = .ok (.aload_n 0, 1) := by decide +kernel
theorem dX12_year_119 : decode cX12_year 119 = .ok (.invokevirtual 562, 3) := by decide +kernel
theorem dX12_year_122 : decode cX12_year 122 = .ok (.iconst 3, 1) := by decide +kernel
theorem dX12_year_123 : decode cX12_year 123 = .ok (.irem, 1) := by decide +kernel
theorem dX12_year_124 : decode cX12_year 124 = .ok (.iadd, 1) := by decide +kernel
theorem dX12_year_125 : decode cX12_year 125 = .ok (.istore 9, 2) := by decide +kernel
theorem dX12_year_127 : decode cX12_year 127 = .ok (.aload_n 0, 1) := by decide +kernel
theorem dX12_year_128 : decode cX12_year 128 = .ok (.aload_n 0, 1) := by decide +kernel
theorem dX12_year_129 : decode cX12_year 129 = .ok (.iload 5, 2) := by decide +kernel
theorem dX12_year_131 : decode cX12_year 131 = .ok (.iconst 1, 1) := by decide +kernel
theorem dX12_year_132 : decode cX12_year 132 = .ok (.invokevirtual 310, 3) := by decide +kernel
theorem dX12_year_135 : decode cX12_year 135 = .ok (.iload 6, 2) := by decide +kernel
theorem dX12_year_137 : decode cX12_year 137 = .ok (.isub, 1) := by decide +kernel
theorem dX12_year_138 : decode cX12_year 138 = .ok (.aload_n 0, 1) := by decide +kernel
theorem dX12_year_139 : decode cX12_year 139 = .ok (.iload 5, 2) := by decide +kernel
theorem dX12_year_141 : decode cX12_year 141 = .ok (.iconst 2, 1) := by decide +kernel
theorem dX12_year_142 : decode cX12_year 142 = .ok (.invokevirtual 310, 3) := by decide +kernel
theorem dX12_year_145 : decode cX12_year 145 = .ok (.iload 7, 2) := by decide +kernel
theorem dX12_year_147 : decode cX12_year 147 = .ok (.isub, 1) := by decide +kernel
theorem dX12_year_148 : decode cX12_year 148 = .ok (.aload_n 0, 1) := by decide +kernel
theorem dX12_year_149 : decode cX12_year 149 = .ok (.iload 5, 2) := by decide +kernel
theorem dX12_year_151 : decode cX12_year 151 = .ok (.iconst 3, 1) := by decide +kernel
theorem dX12_year_152 : decode cX12_year 152 = .ok (.invokevirtual 310, 3) := by decide +kernel
theorem dX12_year_155 : decode cX12_year 155 = .ok (.iload 8, 2) := by decide +kernel
theorem dX12_year_157 : decode cX12_year 157 = .ok (.iadd, 1) := by decide +kernel
theorem dX12_year_158 : decode cX12_year 158 = .ok (.aload_n 0, 1) := by decide +kernel
theorem dX12_year_159 : decode cX12_year 159 = .ok (.iload 5, 2) := by decide +kernel
theorem dX12_year_161 : decode cX12_year 161 = .ok (.iconst 4, 1) := by decide +kernel
theorem dX12_year_162 : decode cX12_year 162 = .ok (.invokevirtual 310, 3) := by decide +kernel
theorem dX12_year_165 : decode cX12_year 165 = .ok (.iload 9, 2) := by decide +kernel
theorem dX12_year_167 : decode cX12_year 167 = .ok (.iadd, 1) := by decide +kernel
theorem dX12_year_168 : decode cX12_year 168 = .ok (.iload 5, 2) := by decide +kernel
theorem dX12_year_170 : decode cX12_year 170 = .ok (.iconst (-1), 1) := by decide +kernel
theorem dX12_year_171 : decode cX12_year 171 = .ok (.invokevirtual 408, 3) := by decide +kernel
theorem dX12_year_174 : decode cX12_year 174 = .ok (.aload_n 0, 1) := by decide +kernel
theorem dX12_year_175 : decode cX12_year 175 = .ok (.invokevirtual 414, 3) := by decide +kernel
theorem dX12_year_178 : decode cX12_year 178 = .ok (.istore 10, 2) := by decide +kernel
theorem dX12_year_180 : decode cX12_year 180 = .ok (.iload 10, 2) := by decide +kernel
theorem dX12_year_182 : decode cX12_year 182 = .ok (.iconst (-1), 1) := by decide +kernel
theorem dX12_year_183 : decode cX12_year 183 = .ok (.if_icmp .eq 21, 3) := by decide +kernel
theorem dX12_year_186 : decode cX12_year 186 = .ok (.aload_n 0, 1) := by decide +kernel
theorem dX12_year_187 : decode cX12_year 187 = .ok (.iload_n 1, 1) := by decide +kernel
theorem dX12_year_188 : decode cX12_year 188 = .ok (.iload_n 3, 1) := by decide +kernel
theorem dX12_year_189 : decode cX12_year 189 = .ok (.invokevirtual 411, 3) := by decide +kernel
theorem dX12_year_192 : decode cX12_year 192 = .ok (.ifCond .eq 12, 3) := by decide +kernel
theorem dX12_year_195 : decode cX12_year 195 = .ok (.aload_n 0, 1) := by decide +kernel
theorem dX12_year_196 : decode cX12_year 196 = .ok (.iload 10, 2) := by decide +kernel
theorem dX12_year_198 : decode cX12_year 198 = .ok (.iload_n 3, 1) := by decide +kernel
theorem dX12_year_199 : decode cX12_year 199 = .ok (.invokevirtual 417, 3) := by decide +kernel
theorem dX12_year_202 : decode cX12_year 202 = .ok (.iconst 1, 1) := by decide +kernel
theorem dX12_year_203 : decode cX12_year 203 = .ok (.istore_n 2, 1) := by decide +kernel
theorem dX12_year_204 : decode cX12_year 204 = .ok (.aload_n 0, 1) := by decide +kernel
theorem dX12_year_205 : decode cX12_year 205 = .ok (.getfield 48, 3) := by decide +kernel
theorem dX12_year_208 : decode cX12_year 208 = .ok (.iconst 3, 1) := by decide +kernel
theorem dX12_year_209 : decode cX12_year 209 = .ok (.dup2, 1) := by decide +kernel
theorem dX12_year_210 : decode cX12_year 210 = .ok (.iaload, 1) := by decide +kernel
theorem dX12_year_211 : decode cX12_year 211 = .ok (.iconst 1, 1) := by decide +kernel
theorem dX12_year_212 : decode cX12_year 212 = .ok (.iadd, 1) := by decide +kernel
theorem dX12_year_213 : decode cX12_year 213 = .ok (.iastore, 1) := by decide +kernel
theorem dX12_year_214 : decode cX12_year 214 = .ok (.iload_n 2, 1) := by decide +kernel
theorem dX12_year_215 : decode cX12_year 215 = .ok (.ireturn, 1) := by decide +kernel
theorem dX12_wallMany_0 : decode cX12_wallMany 0 = .ok (.iconst 0, 1) := by decide +kernel
theorem dX12_wallMany_1 : decode cX12_wallMany 1 = .ok (.istore_n 1, 1) := by decide +kernel
theorem dX12_wallMany_2 : decode cX12_wallMany 2 = .ok (.bipush 6, 2) := by decide +kernel
theorem dX12_wallMany_4 : decode cX12_wallMany 4 = .ok (.istore_n 2, 1) := by decide +kernel
theorem dX12_wallMany_5 : decode cX12_wallMany 5 = .ok (.iload_n 2, 1) := by decide +kernel
theorem dX12_wallMany_6 : decode cX12_wallMany 6 = .ok (.bipush 30, 2) := by decide +kernel
theorem dX12_wallMany_8 : decode cX12_wallMany 8 = .ok (.if_icmp .ge 25, 3) := by decide +kernel
theorem dX12_wallMany_11 : decode cX12_wallMany 11 = .ok (.iload_n 1, 1) := by decide +kernel
theorem dX12_wallMany_12 : decode cX12_wallMany 12 = .ok (.aload_n 0, 1) := by decide +kernel
theorem dX12_wallMany_13 : decode cX12_wallMany 13 = .ok (.iload_n 2, 1) := by decide +kernel
theorem dX12_wallMany_14 : decode cX12_wallMany 14 = .ok (.invokevirtual 314, 3) := by decide +kernel
theorem dX12_wallMany_17 : decode cX12_wallMany 17 = .ok (.ifCond .eq 7, 3) := by decide +kernel
theorem dX12_wallMany_20 : decode cX12_wallMany 20 = .ok (.iconst 1, 1) := by decide +kernel
theorem dX12_wallMany_21 : decode cX12_wallMany 21 = .ok (.goto 4, 3) := by decide +kernel
theorem dX12_wallMany_24 : decode cX12_wallMany 24 = .ok (.iconst 0, 1) := by decide +kernel
theorem dX12_wallMany_25 : decode cX12_wallMany 25 = .ok (.iadd, 1) := by decide +kernel
theorem dX12_wallMany_26 : decode cX12_wallMany 26 = .ok (.istore_n 1, 1) := by decide +kernel
theorem dX12_wallMany_27 : decode cX12_wallMany 27 = .ok (.iinc 2 1, 3) := by decide +kernel
theorem dX12_wallMany_30 : decode cX12_wallMany 30 = .ok (.goto (-25), 3) := by decide +kernel
theorem dX12_wallMany_33 : decode cX12_wallMany 33 = .ok (.iload_n 1, 1) := by decide +kernel
theorem dX12_wallMany_34 : decode cX12_wallMany 34 = .ok (.ireturn, 1) := by decide +kernel
theorem dX12_after_0 : decode cX12_after 0 = .ok (.aload_n 0, 1) := by decide +kernel
theorem dX12_after_1 : decode cX12_after 1 = .ok (.iconst 0, 1) := by decide +kernel
theorem dX12_after_2 : decode cX12_after 2 = .ok (.iload_n 1, 1) := by decide +kernel
theorem dX12_after_3 : decode cX12_after 3 = .ok (.invokevirtual 402, 3) := by decide +kernel
theorem dX12_after_6 : decode cX12_after 6 = .ok (.ifCond .eq 27, 3) := by decide +kernel
theorem dX12_after_9 : decode cX12_after 9 = .ok (.iload_n 2, 1) := by decide +kernel
theorem dX12_after_10 : decode cX12_after 10 = .ok (.i2l, 1) := by decide +kernel
theorem dX12_after_11 : decode cX12_after 11 = .ok (.lconst 0, 1) := by decide +kernel
theorem dX12_after_12 : decode cX12_after 12 = .ok (.ldc2_w 565, 3) := by decide +kernel
theorem dX12_after_15 : decode cX12_after 15 = .ok (.invokestatic 112, 3) := by decide +kernel
theorem dX12_after_18 : decode cX12_after 18 = .ok (.ifCond .eq 15, 3) := by decide +kernel
theorem dX12_after_21 : decode cX12_after 21 = .ok (.iload_n 3, 1) := by decide +kernel
theorem dX12_after_22 : decode cX12_after 22 = .ok (.i2l, 1) := by decide +kernel
theorem dX12_after_23 : decode cX12_after 23 = .ok (.lconst 0, 1) := by decide +kernel
theorem dX12_after_24 : decode cX12_after 24 = .ok (.ldc2_w 432, 3) := by decide +kernel
theorem dX12_after_27 : decode cX12_after 27 = .ok (.invokestatic 112, 3) := by decide +kernel
theorem dX12_after_30 : decode cX12_after 30 = .ok (.ifCond .ne 5, 3) := by decide +kernel
theorem dX12_after_33 : decode cX12_after 33 = .ok (.iconst (-1), 1) := by decide +kernel
theorem dX12_after_34 : decode cX12_after 34 = .ok (.ireturn, 1) := by decide +kernel
theorem dX12_after_35 : decode cX12_after 35 = .ok (.aload_n 0, 1) := by decide +kernel
theorem dX12_after_36 : decode cX12_after 36 = .ok (.invokevirtual 548, 3) := by decide +kernel
theorem dX12_after_39 : decode cX12_after 39 = .ok (.iconst 0, 1) := by decide +kernel
theorem dX12_after_40 : decode cX12_after 40 = .ok (.istore 4, 2) := by decide +kernel
theorem dX12_after_42 : decode cX12_after 42 = .ok (.iload 4, 2) := by decide +kernel
theorem dX12_after_44 : decode cX12_after 44 = .ok (.iload_n 2, 1) := by decide +kernel
theorem dX12_after_45 : decode cX12_after 45 = .ok (.if_icmp .ge 15, 3) := by decide +kernel
theorem dX12_after_48 : decode cX12_after 48 = .ok (.aload_n 0, 1) := by decide +kernel
theorem dX12_after_49 : decode cX12_after 49 = .ok (.iload_n 1, 1) := by decide +kernel
theorem dX12_after_50 : decode cX12_after 50 = .ok (.invokevirtual 567, 3) := by decide +kernel
theorem dX12_after_53 : decode cX12_after 53 = .ok (.pop, 1) := by decide +kernel
theorem dX12_after_54 : decode cX12_after 54 = .ok (.iinc 4 1, 3) := by decide +kernel
theorem dX12_after_57 : decode cX12_after 57 = .ok (.goto (-15), 3) := by decide +kernel
theorem dX12_after_60 : decode cX12_after 60 = .ok (.iload_n 3, 1) := by decide +kernel
theorem dX12_after_61 : decode cX12_after 61 = .ok (.ifCond .ne 10, 3) := by decide +kernel
theorem dX12_after_64 : decode cX12_after 64 = .ok (.aload_n 0, 1) := by decide +kernel
theorem dX12_after_65 : decode cX12_after 65 = .ok (.invokevirtual 570, 3) := by decide +kernel
theorem dX12_after_68 : decode cX12_after 68 = .ok (.goto 31, 3) := by decide +kernel
theorem dX12_after_71 : decode cX12_after 71 = .ok (.iload_n 3, 1) := by decide +kernel
theorem dX12_after_72 : decode cX12_after 72 = .ok (.iconst 1, 1) := by decide +kernel
theorem dX12_after_73 : decode cX12_after 73 = .ok (.if_icmp .ne 10, 3) := by decide +kernel
theorem dX12_after_76 : decode cX12_after 76 = .ok (.aload_n 0, 1) := by decide +kernel
theorem dX12_after_77 : decode cX12_after 77 = .ok (.invokevirtual 504, 3) := by decide +kernel
theorem dX12_after_80 : decode cX12_after 80 = .ok (.goto 19, 3) := by decide +kernel
theorem dX12_after_83 : decode cX12_after 83 = .ok (.iload_n 3, 1) := by decide +kernel
theorem dX12_after_84 : decode cX12_after 84 = .ok (.iconst 2, 1) := by decide +kernel
theorem dX12_after_85 : decode cX12_after 85 = .ok (.if_icmp .ne 10, 3) := by decide +kernel
theorem dX12_after_88 : decode cX12_after 88 = .ok (.aload_n 0, 1) := by decide +kernel
theorem dX12_after_89 : decode cX12_after 89 = .ok (.invokevirtual 573, 3) := by decide +kernel
theorem dX12_after_92 : decode cX12_after 92 = .ok (.goto 7, 3) := by decide +kernel
theorem dX12_after_95 : decode cX12_after 95 = .ok (.aload_n 0, 1) := by decide +kernel
theorem dX12_after_96 : decode cX12_after 96 = .ok (.invokevirtual 507, 3) := by decide +kernel
theorem dX12_after_99 : decode cX12_after 99 = .ok (.istore 4, 2) := by decide +kernel
theorem dX12_after_101 : decode cX12_after 101 = .ok (.aload_n 0, 1) := by decide +kernel
theorem dX12_after_102 : decode cX12_after 102 = .ok (.invokevirtual 551, 3) := by decide +kernel
theorem dX12_after_105 : decode cX12_after 105 = .ok (.iload 4, 2) := by decide +kernel
theorem dX12_after_107 : decode cX12_after 107 = .ok (.ireturn, 1) := by decide +kernel
theorem dX12_image_0 : decode cX12_image 0 = .ok (.iload_n 1, 1) := by decide +kernel
theorem dX12_image_1 : decode cX12_image 1 = .ok (.i2l, 1) := by decide +kernel
theorem dX12_image_2 : decode cX12_image 2 = .ok (.lconst 0, 1) := by decide +kernel
theorem dX12_image_3 : decode cX12_image 3 = .ok (.ldc2_w 432, 3) := by decide +kernel
theorem dX12_image_6 : decode cX12_image 6 = .ok (.invokestatic 112, 3) := by decide +kernel
theorem dX12_image_9 : decode cX12_image 9 = .ok (.ifCond .ne 5, 3) := by decide +kernel
theorem dX12_image_12 : decode cX12_image 12 = .ok (.iconst (-1), 1) := by decide +kernel
theorem dX12_image_13 : decode cX12_image 13 = .ok (.ireturn, 1) := by decide +kernel
theorem dX12_image_14 : decode cX12_image 14 = .ok (.aload_n 0, 1) := by decide +kernel
theorem dX12_image_15 : decode cX12_image 15 = .ok (.getfield 70, 3) := by decide +kernel
theorem dX12_image_18 : decode cX12_image 18 = .ok (.iload_n 1, 1) := by decide +kernel
theorem dX12_image_19 : decode cX12_image 19 = .ok (.iconst 1, 1) := by decide +kernel
theorem dX12_image_20 : decode cX12_image 20 = .ok (.bastore, 1) := by decide +kernel
theorem dX12_image_21 : decode cX12_image 21 = .ok (.iconst 0, 1) := by decide +kernel
theorem dX12_image_22 : decode cX12_image 22 = .ok (.istore_n 2, 1) := by decide +kernel
theorem dX12_image_23 : decode cX12_image 23 = .ok (.iload_n 2, 1) := by decide +kernel
theorem dX12_image_24 : decode cX12_image 24 = .ok (.sipush 2440, 3) := by decide +kernel
theorem dX12_image_27 : decode cX12_image 27 = .ok (.if_icmp .ge 27, 3) := by decide +kernel
theorem dX12_image_30 : decode cX12_image 30 = .ok (.aload_n 0, 1) := by decide +kernel
theorem dX12_image_31 : decode cX12_image 31 = .ok (.getfield 67, 3) := by decide +kernel
theorem dX12_image_34 : decode cX12_image 34 = .ok (.sipush 2440, 3) := by decide +kernel
theorem dX12_image_37 : decode cX12_image 37 = .ok (.iload_n 1, 1) := by decide +kernel
theorem dX12_image_38 : decode cX12_image 38 = .ok (.imul, 1) := by decide +kernel
theorem dX12_image_39 : decode cX12_image 39 = .ok (.iload_n 2, 1) := by decide +kernel
theorem dX12_image_40 : decode cX12_image 40 = .ok (.iadd, 1) := by decide +kernel
theorem dX12_image_41 : decode cX12_image 41 = .ok (.aload_n 0, 1) := by decide +kernel
theorem dX12_image_42 : decode cX12_image 42 = .ok (.getfield 48, 3) := by decide +kernel
theorem dX12_image_45 : decode cX12_image 45 = .ok (.iload_n 2, 1) := by decide +kernel
theorem dX12_image_46 : decode cX12_image 46 = .ok (.iaload, 1) := by decide +kernel
theorem dX12_image_47 : decode cX12_image 47 = .ok (.iastore, 1) := by decide +kernel
theorem dX12_image_48 : decode cX12_image 48 = .ok (.iinc 2 1, 3) := by decide +kernel
theorem dX12_image_51 : decode cX12_image 51 = .ok (.goto (-28), 3) := by decide +kernel
theorem dX12_image_54 : decode cX12_image 54 = .ok (.aload_n 0, 1) := by decide +kernel
theorem dX12_image_55 : decode cX12_image 55 = .ok (.invokevirtual 570, 3) := by decide +kernel
theorem dX12_image_58 : decode cX12_image 58 = .ok (.ireturn, 1) := by decide +kernel
