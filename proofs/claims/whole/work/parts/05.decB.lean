theorem dX11_init_0 : decode cX11_init 0 = .ok (.aload_n 0, 1) := by decide +kernel
theorem dX11_init_1 : decode cX11_init 1 = .ok (.invokespecial 3, 3) := by decide +kernel
theorem dX11_init_4 : decode cX11_init 4 = .ok (.aload_n 0, 1) := by decide +kernel
theorem dX11_init_5 : decode cX11_init 5 = .ok (.new 9, 3) := by decide +kernel
theorem dX11_init_8 : decode cX11_init 8 = .ok (.dup, 1) := by decide +kernel
theorem dX11_init_9 : decode cX11_init 9 = .ok (.invokespecial 11, 3) := by decide +kernel
theorem dX11_init_12 : decode cX11_init 12 = .ok (.putfield 12, 3) := by decide +kernel
theorem dX11_init_15 : decode cX11_init 15 = .ok (.aload_n 0, 1) := by decide +kernel
theorem dX11_init_16 : decode cX11_init 16 = .ok (.new 16, 3) := by decide +kernel
theorem dX11_init_19 : decode cX11_init 19 = .ok (.dup, 1) := by decide +kernel
theorem dX11_init_20 : decode cX11_init 20 = .ok (.invokespecial 18, 3) := by decide +kernel
theorem dX11_init_23 : decode cX11_init 23 = .ok (.putfield 19, 3) := by decide +kernel
theorem dX11_init_26 : decode cX11_init 26 = .ok (.aload_n 0, 1) := by decide +kernel
theorem dX11_init_27 : decode cX11_init 27 = .ok (.new 23, 3) := by decide +kernel
theorem dX11_init_30 : decode cX11_init 30 = .ok (.dup, 1) := by decide +kernel
theorem dX11_init_31 : decode cX11_init 31 = .ok (.invokespecial 25, 3) := by decide +kernel
theorem dX11_init_34 : decode cX11_init 34 = .ok (.putfield 26, 3) := by decide +kernel
theorem dX11_init_37 : decode cX11_init 37 = .ok (.aload_n 0, 1) := by decide +kernel
theorem dX11_init_38 : decode cX11_init 38 = .ok (.bipush 6, 2) := by decide +kernel
theorem dX11_init_40 : decode cX11_init 40 = .ok (.anewarray 30, 3) := by decide +kernel
theorem dX11_init_43 : decode cX11_init 43 = .ok (.putfield 32, 3) := by decide +kernel
theorem dX11_init_46 : decode cX11_init 46 = .ok (.aload_n 0, 1) := by decide +kernel
theorem dX11_init_47 : decode cX11_init 47 = .ok (.bipush 6, 2) := by decide +kernel
theorem dX11_init_49 : decode cX11_init 49 = .ok (.anewarray 30, 3) := by decide +kernel
theorem dX11_init_52 : decode cX11_init 52 = .ok (.putfield 36, 3) := by decide +kernel
theorem dX11_init_55 : decode cX11_init 55 = .ok (.aload_n 0, 1) := by decide +kernel
theorem dX11_init_56 : decode cX11_init 56 = .ok (.iconst 4, 1) := by decide +kernel
theorem dX11_init_57 : decode cX11_init 57 = .ok (.anewarray 39, 3) := by decide +kernel
theorem dX11_init_60 : decode cX11_init 60 = .ok (.putfield 41, 3) := by decide +kernel
theorem dX11_init_63 : decode cX11_init 63 = .ok (.aload_n 0, 1) := by decide +kernel
theorem dX11_init_64 : decode cX11_init 64 = .ok (.new 45, 3) := by decide +kernel
theorem dX11_init_67 : decode cX11_init 67 = .ok (.dup, 1) := by decide +kernel
theorem dX11_init_68 : decode cX11_init 68 = .ok (.invokespecial 47, 3) := by decide +kernel
theorem dX11_init_71 : decode cX11_init 71 = .ok (.putfield 48, 3) := by decide +kernel
theorem dX11_init_74 : decode cX11_init 74 = .ok (.aload_n 0, 1) := by decide +kernel
theorem dX11_init_75 : decode cX11_init 75 = .ok (.new 52, 3) := by decide +kernel
theorem dX11_init_78 : decode cX11_init 78 = .ok (.dup, 1) := by decide +kernel
theorem dX11_init_79 : decode cX11_init 79 = .ok (.invokespecial 54, 3) := by decide +kernel
theorem dX11_init_82 : decode cX11_init 82 = .ok (.putfield 55, 3) := by decide +kernel
theorem dX11_init_85 : decode cX11_init 85 = .ok (.aload_n 0, 1) := by decide +kernel
theorem dX11_init_86 : decode cX11_init 86 = .ok (.new 59, 3) := by decide +kernel
theorem dX11_init_89 : decode cX11_init 89 = .ok (.dup, 1) := by decide +kernel
theorem dX11_init_90 : decode cX11_init 90 = .ok (.invokespecial 61, 3) := by decide +kernel
theorem dX11_init_93 : decode cX11_init 93 = .ok (.putfield 62, 3) := by decide +kernel
theorem dX11_init_96 : decode cX11_init 96 = .ok (.aload_n 0, 1) := by decide +kernel
theorem dX11_init_97 : decode cX11_init 97 = .ok (.new 59, 3) := by decide +kernel
theorem dX11_init_100 : decode cX11_init 100 = .ok (.dup, 1) := by decide +kernel
theorem dX11_init_101 : decode cX11_init 101 = .ok (.invokespecial 61, 3) := by decide +kernel
theorem dX11_init_104 : decode cX11_init 104 = .ok (.putfield 66, 3) := by decide +kernel
theorem dX11_init_107 : decode cX11_init 107 = .ok (.aload_n 0, 1) := by decide +kernel
theorem dX11_init_108 : decode cX11_init 108 = .ok (.new 69, 3) := by decide +kernel
theorem dX11_init_111 : decode cX11_init 111 = .ok (.dup, 1) := by decide +kernel
theorem dX11_init_112 : decode cX11_init 112 = .ok (.invokespecial 71, 3) := by decide +kernel
theorem dX11_init_115 : decode cX11_init 115 = .ok (.putfield 72, 3) := by decide +kernel
theorem dX11_init_118 : decode cX11_init 118 = .ok (.aload_n 0, 1) := by decide +kernel
theorem dX11_init_119 : decode cX11_init 119 = .ok (.new 69, 3) := by decide +kernel
theorem dX11_init_122 : decode cX11_init 122 = .ok (.dup, 1) := by decide +kernel
theorem dX11_init_123 : decode cX11_init 123 = .ok (.invokespecial 71, 3) := by decide +kernel
theorem dX11_init_126 : decode cX11_init 126 = .ok (.putfield 76, 3) := by decide +kernel
theorem dX11_init_129 : decode cX11_init 129 = .ok (.aload_n 0, 1) := by decide +kernel
theorem dX11_init_130 : decode cX11_init 130 = .ok (.new 39, 3) := by decide +kernel
theorem dX11_init_133 : decode cX11_init 133 = .ok (.dup, 1) := by decide +kernel
theorem dX11_init_134 : decode cX11_init 134 = .ok (.invokespecial 79, 3) := by decide +kernel
theorem dX11_init_137 : decode cX11_init 137 = .ok (.putfield 80, 3) := by decide +kernel
theorem dX11_init_140 : decode cX11_init 140 = .ok (.aload_n 0, 1) := by decide +kernel
theorem dX11_init_141 : decode cX11_init 141 = .ok (.new 39, 3) := by decide +kernel
theorem dX11_init_144 : decode cX11_init 144 = .ok (.dup, 1) := by decide +kernel
theorem dX11_init_145 : decode cX11_init 145 = .ok (.invokespecial 79, 3) := by decide +kernel
theorem dX11_init_148 : decode cX11_init 148 = .ok (.putfield 84, 3) := by decide +kernel
theorem dX11_init_151 : decode cX11_init 151 = .ok (.return_, 1) := by decide +kernel
theorem dX11_feed_0 : decode cX11_feed 0 = .ok (.aload_n 0, 1) := by decide +kernel
theorem dX11_feed_1 : decode cX11_feed 1 = .ok (.getfield 12, 3) := by decide +kernel
theorem dX11_feed_4 : decode cX11_feed 4 = .ok (.invokevirtual 87, 3) := by decide +kernel
theorem dX11_feed_7 : decode cX11_feed 7 = .ok (.ifCond .ne 5, 3) := by decide +kernel
theorem dX11_feed_10 : decode cX11_feed 10 = .ok (.iconst (-1), 1) := by decide +kernel
theorem dX11_feed_11 : decode cX11_feed 11 = .ok (.ireturn, 1) := by decide +kernel
theorem dX11_feed_12 : decode cX11_feed 12 = .ok (.aload_n 0, 1) := by decide +kernel
theorem dX11_feed_13 : decode cX11_feed 13 = .ok (.getfield 12, 3) := by decide +kernel
theorem dX11_feed_16 : decode cX11_feed 16 = .ok (.iload_n 1, 1) := by decide +kernel
theorem dX11_feed_17 : decode cX11_feed 17 = .ok (.invokevirtual 91, 3) := by decide +kernel
theorem dX11_feed_20 : decode cX11_feed 20 = .ok (.aload_n 0, 1) := by decide +kernel
theorem dX11_feed_21 : decode cX11_feed 21 = .ok (.getfield 12, 3) := by decide +kernel
theorem dX11_feed_24 : decode cX11_feed 24 = .ok (.iload_n 2, 1) := by decide +kernel
theorem dX11_feed_25 : decode cX11_feed 25 = .ok (.invokevirtual 91, 3) := by decide +kernel
theorem dX11_feed_28 : decode cX11_feed 28 = .ok (.aload_n 0, 1) := by decide +kernel
theorem dX11_feed_29 : decode cX11_feed 29 = .ok (.getfield 12, 3) := by decide +kernel
theorem dX11_feed_32 : decode cX11_feed 32 = .ok (.iload_n 3, 1) := by decide +kernel
theorem dX11_feed_33 : decode cX11_feed 33 = .ok (.invokevirtual 91, 3) := by decide +kernel
theorem dX11_feed_36 : decode cX11_feed 36 = .ok (.aload_n 0, 1) := by decide +kernel
theorem dX11_feed_37 : decode cX11_feed 37 = .ok (.getfield 12, 3) := by decide +kernel
theorem dX11_feed_40 : decode cX11_feed 40 = .ok (.iload 4, 2) := by decide +kernel
theorem dX11_feed_42 : decode cX11_feed 42 = .ok (.invokevirtual 91, 3) := by decide +kernel
theorem dX11_feed_45 : decode cX11_feed 45 = .ok (.aload_n 0, 1) := by decide +kernel
theorem dX11_feed_46 : decode cX11_feed 46 = .ok (.getfield 12, 3) := by decide +kernel
theorem dX11_feed_49 : decode cX11_feed 49 = .ok (.iload 5, 2) := by decide +kernel
theorem dX11_feed_51 : decode cX11_feed 51 = .ok (.invokevirtual 91, 3) := by decide +kernel
theorem dX11_feed_54 : decode cX11_feed 54 = .ok (.aload_n 0, 1) := by decide +kernel
theorem dX11_feed_55 : decode cX11_feed 55 = .ok (.getfield 12, 3) := by decide +kernel
theorem dX11_feed_58 : decode cX11_feed 58 = .ok (.getfield 95, 3) := by decide +kernel
theorem dX11_feed_61 : decode cX11_feed 61 = .ok (.ireturn, 1) := by decide +kernel
theorem dX11_end_0 : decode cX11_end 0 = .ok (.iload_n 1, 1) := by decide +kernel
theorem dX11_end_1 : decode cX11_end 1 = .ok (.ifCond .lt 14, 3) := by decide +kernel
theorem dX11_end_4 : decode cX11_end 4 = .ok (.iload_n 1, 1) := by decide +kernel
theorem dX11_end_5 : decode cX11_end 5 = .ok (.aload_n 0, 1) := by decide +kernel
theorem dX11_end_6 : decode cX11_end 6 = .ok (.getfield 12, 3) := by decide +kernel
theorem dX11_end_9 : decode cX11_end 9 = .ok (.getfield 95, 3) := by decide +kernel
theorem dX11_end_12 : decode cX11_end 12 = .ok (.if_icmp .le 5, 3) := by decide +kernel
theorem dX11_end_15 : decode cX11_end 15 = .ok (.iconst (-1), 1) := by decide +kernel
theorem dX11_end_16 : decode cX11_end 16 = .ok (.ireturn, 1) := by decide +kernel
theorem dX11_end_17 : decode cX11_end 17 = .ok (.aload_n 0, 1) := by decide +kernel
theorem dX11_end_18 : decode cX11_end 18 = .ok (.getfield 12, 3) := by decide +kernel
theorem dX11_end_21 : decode cX11_end 21 = .ok (.iload_n 1, 1) := by decide +kernel
theorem dX11_end_22 : decode cX11_end 22 = .ok (.putfield 95, 3) := by decide +kernel
theorem dX11_end_25 : decode cX11_end 25 = .ok (.iload_n 1, 1) := by decide +kernel
theorem dX11_end_26 : decode cX11_end 26 = .ok (.ireturn, 1) := by decide +kernel
theorem dX11_land_0 : decode cX11_land 0 = .ok (.aload_n 0, 1) := by decide +kernel
theorem dX11_land_1 : decode cX11_land 1 = .ok (.getfield 19, 3) := by decide +kernel
theorem dX11_land_4 : decode cX11_land 4 = .ok (.aload_n 0, 1) := by decide +kernel
theorem dX11_land_5 : decode cX11_land 5 = .ok (.getfield 12, 3) := by decide +kernel
theorem dX11_land_8 : decode cX11_land 8 = .ok (.aload_n 0, 1) := by decide +kernel
theorem dX11_land_9 : decode cX11_land 9 = .ok (.getfield 84, 3) := by decide +kernel
theorem dX11_land_12 : decode cX11_land 12 = .ok (.invokevirtual 99, 3) := by decide +kernel
theorem dX11_land_15 : decode cX11_land 15 = .ok (.istore_n 1, 1) := by decide +kernel
theorem dX11_land_16 : decode cX11_land 16 = .ok (.aload_n 0, 1) := by decide +kernel
theorem dX11_land_17 : decode cX11_land 17 = .ok (.getfield 12, 3) := by decide +kernel
theorem dX11_land_20 : decode cX11_land 20 = .ok (.iconst 0, 1) := by decide +kernel
theorem dX11_land_21 : decode cX11_land 21 = .ok (.putfield 95, 3) := by decide +kernel
theorem dX11_land_24 : decode cX11_land 24 = .ok (.iload_n 1, 1) := by decide +kernel
theorem dX11_land_25 : decode cX11_land 25 = .ok (.ifCond .ne 14, 3) := by decide +kernel
theorem dX11_land_28 : decode cX11_land 28 = .ok (.bipush (-2), 2) := by decide +kernel
theorem dX11_land_30 : decode cX11_land 30 = .ok (.aload_n 0, 1) := by decide +kernel
theorem dX11_land_31 : decode cX11_land 31 = .ok (.getfield 12, 3) := by decide +kernel
theorem dX11_land_34 : decode cX11_land 34 = .ok (.getfield 103, 3) := by decide +kernel
theorem dX11_land_37 : decode cX11_land 37 = .ok (.isub, 1) := by decide +kernel
theorem dX11_land_38 : decode cX11_land 38 = .ok (.ireturn, 1) := by decide +kernel
theorem dX11_land_39 : decode cX11_land 39 = .ok (.aload_n 0, 1) := by decide +kernel
theorem dX11_land_40 : decode cX11_land 40 = .ok (.getfield 84, 3) := by decide +kernel
theorem dX11_land_43 : decode cX11_land 43 = .ok (.aload_n 0, 1) := by decide +kernel
theorem dX11_land_44 : decode cX11_land 44 = .ok (.getfield 80, 3) := by decide +kernel
theorem dX11_land_47 : decode cX11_land 47 = .ok (.invokevirtual 106, 3) := by decide +kernel
theorem dX11_land_50 : decode cX11_land 50 = .ok (.aload_n 0, 1) := by decide +kernel
theorem dX11_land_51 : decode cX11_land 51 = .ok (.getfield 80, 3) := by decide +kernel
theorem dX11_land_54 : decode cX11_land 54 = .ok (.astore_n 2, 1) := by decide +kernel
theorem dX11_land_55 : decode cX11_land 55 = .ok (.aload_n 0, 1) := by decide +kernel
theorem dX11_land_56 : decode cX11_land 56 = .ok (.aload_n 0, 1) := by decide +kernel
theorem dX11_land_57 : decode cX11_land 57 = .ok (.getfield 84, 3) := by decide +kernel
theorem dX11_land_60 : decode cX11_land 60 = .ok (.putfield 80, 3) := by decide +kernel
theorem dX11_land_63 : decode cX11_land 63 = .ok (.aload_n 0, 1) := by decide +kernel
theorem dX11_land_64 : decode cX11_land 64 = .ok (.aload_n 2, 1) := by decide +kernel
theorem dX11_land_65 : decode cX11_land 65 = .ok (.putfield 84, 3) := by decide +kernel
theorem dX11_land_68 : decode cX11_land 68 = .ok (.aload_n 0, 1) := by decide +kernel
theorem dX11_land_69 : decode cX11_land 69 = .ok (.getfield 48, 3) := by decide +kernel
theorem dX11_land_72 : decode cX11_land 72 = .ok (.aload_n 0, 1) := by decide +kernel
theorem dX11_land_73 : decode cX11_land 73 = .ok (.getfield 80, 3) := by decide +kernel
theorem dX11_land_76 : decode cX11_land 76 = .ok (.invokevirtual 110, 3) := by decide +kernel
theorem dX11_land_79 : decode cX11_land 79 = .ok (.aload_n 0, 1) := by decide +kernel
theorem dX11_land_80 : decode cX11_land 80 = .ok (.getfield 80, 3) := by decide +kernel
theorem dX11_land_83 : decode cX11_land 83 = .ok (.getfield 113, 3) := by decide +kernel
theorem dX11_land_86 : decode cX11_land 86 = .ok (.ireturn, 1) := by decide +kernel
theorem dX11_text_0 : decode cX11_text 0 = .ok (.iload_n 1, 1) := by decide +kernel
theorem dX11_text_1 : decode cX11_text 1 = .ok (.ifCond .ne 70, 3) := by decide +kernel
theorem dX11_text_4 : decode cX11_text 4 = .ok (.aload_n 0, 1) := by decide +kernel
theorem dX11_text_5 : decode cX11_text 5 = .ok (.getfield 116, 3) := by decide +kernel
theorem dX11_text_8 : decode cX11_text 8 = .ok (.bipush 6, 2) := by decide +kernel
theorem dX11_text_10 : decode cX11_text 10 = .ok (.if_icmp .ge 61, 3) := by decide +kernel
theorem dX11_text_13 : decode cX11_text 13 = .ok (.aload_n 0, 1) := by decide +kernel
theorem dX11_text_14 : decode cX11_text 14 = .ok (.getfield 26, 3) := by decide +kernel
theorem dX11_text_17 : decode cX11_text 17 = .ok (.aload_n 0, 1) := by decide +kernel
theorem dX11_text_18 : decode cX11_text 18 = .ok (.getfield 12, 3) := by decide +kernel
theorem dX11_text_21 : decode cX11_text 21 = .ok (.iconst 0, 1) := by decide +kernel
theorem dX11_text_22 : decode cX11_text 22 = .ok (.invokevirtual 119, 3) := by decide +kernel
theorem dX11_text_25 : decode cX11_text 25 = .ok (.astore_n 2, 1) := by decide +kernel
theorem dX11_text_26 : decode cX11_text 26 = .ok (.aload_n 0, 1) := by decide +kernel
theorem dX11_text_27 : decode cX11_text 27 = .ok (.getfield 12, 3) := by decide +kernel
theorem dX11_text_30 : decode cX11_text 30 = .ok (.iconst 0, 1) := by decide +kernel
theorem dX11_text_31 : decode cX11_text 31 = .ok (.putfield 95, 3) := by decide +kernel
theorem dX11_text_34 : decode cX11_text 34 = .ok (.aload_n 2, 1) := by decide +kernel
theorem dX11_text_35 : decode cX11_text 35 = .ok (.ifnonnull 14, 3) := by decide +kernel
theorem dX11_text_38 : decode cX11_text 38 = .ok (.bipush (-2), 2) := by decide +kernel
theorem dX11_text_40 : decode cX11_text 40 = .ok (.aload_n 0, 1) := by decide +kernel
theorem dX11_text_41 : decode cX11_text 41 = .ok (.getfield 12, 3) := by decide +kernel
theorem dX11_text_44 : decode cX11_text 44 = .ok (.getfield 103, 3) := by decide +kernel
theorem dX11_text_47 : decode cX11_text 47 = .ok (.isub, 1) := by decide +kernel
theorem dX11_text_48 : decode cX11_text 48 = .ok (.ireturn, 1) := by decide +kernel
theorem dX11_text_49 : decode cX11_text 49 = .ok (.aload_n 0, 1) := by decide +kernel
theorem dX11_text_50 : decode cX11_text 50 = .ok (.getfield 32, 3) := by decide +kernel
theorem dX11_text_53 : decode cX11_text 53 = .ok (.aload_n 0, 1) := by decide +kernel
theorem dX11_text_54 : decode cX11_text 54 = .ok (.getfield 116, 3) := by decide +kernel
theorem dX11_text_57 : decode cX11_text 57 = .ok (.aload_n 2, 1) := by decide +kernel
theorem dX11_text_58 : decode cX11_text 58 = .ok (.aastore, 1) := by decide +kernel
theorem dX11_text_59 : decode cX11_text 59 = .ok (.aload_n 0, 1) := by decide +kernel
theorem dX11_text_60 : decode cX11_text 60 = .ok (.dup, 1) := by decide +kernel
theorem dX11_text_61 : decode cX11_text 61 = .ok (.getfield 116, 3) := by decide +kernel
theorem dX11_text_64 : decode cX11_text 64 = .ok (.dup_x1, 1) := by decide +kernel
theorem dX11_text_65 : decode cX11_text 65 = .ok (.iconst 1, 1) := by decide +kernel
theorem dX11_text_66 : decode cX11_text 66 = .ok (.iadd, 1) := by decide +kernel
theorem dX11_text_67 : decode cX11_text 67 = .ok (.putfield 116, 3) := by decide +kernel
theorem dX11_text_70 : decode cX11_text 70 = .ok (.ireturn, 1) := by decide +kernel
theorem dX11_text_71 : decode cX11_text 71 = .ok (.iload_n 1, 1) := by decide +kernel
theorem dX11_text_72 : decode cX11_text 72 = .ok (.iconst 1, 1) := by decide +kernel
theorem dX11_text_73 : decode cX11_text 73 = .ok (.if_icmp .ne 70, 3) := by decide +kernel
theorem dX11_text_76 : decode cX11_text 76 = .ok (.aload_n 0, 1) := by decide +kernel
theorem dX11_text_77 : decode cX11_text 77 = .ok (.getfield 122, 3) := by decide +kernel
theorem dX11_text_80 : decode cX11_text 80 = .ok (.bipush 6, 2) := by decide +kernel
theorem dX11_text_82 : decode cX11_text 82 = .ok (.if_icmp .ge 61, 3) := by decide +kernel
theorem dX11_text_85 : decode cX11_text 85 = .ok (.aload_n 0, 1) := by decide +kernel
theorem dX11_text_86 : decode cX11_text 86 = .ok (.getfield 26, 3) := by decide +kernel
theorem dX11_text_89 : decode cX11_text 89 = .ok (.aload_n 0, 1) := by decide +kernel
theorem dX11_text_90 : decode cX11_text 90 = .ok (.getfield 12, 3) := by decide +kernel
theorem dX11_text_93 : decode cX11_text 93 = .ok (.iconst 1, 1) := by decide +kernel
theorem dX11_text_94 : decode cX11_text 94 = .ok (.invokevirtual 119, 3) := by decide +kernel
theorem dX11_text_97 : decode cX11_text 97 = .ok (.astore_n 2, 1) := by decide +kernel
theorem dX11_text_98 : decode cX11_text 98 = .ok (.aload_n 0, 1) := by decide +kernel
theorem dX11_text_99 : decode cX11_text 99 = .ok (.getfield 12, 3) := by decide +kernel
theorem dX11_text_102 : decode cX11_text 102 = .ok (.iconst 0, 1) := by decide +kernel
theorem dX11_text_103 : decode cX11_text 103 = .ok (.putfield 95, 3) := by decide +kernel
theorem dX11_text_106 : decode cX11_text 106 = .ok (.aload_n 2, 1) := by decide +kernel
theorem dX11_text_107 : decode cX11_text 107 = .ok (.ifnonnull 14, 3) := by decide +kernel
theorem dX11_text_110 : decode cX11_text 110 = .ok (.bipush (-2), 2) := by decide +kernel
theorem dX11_text_112 : decode cX11_text 112 = .ok (.aload_n 0, 1) := by decide +kernel
theorem dX11_text_113 : decode cX11_text 113 = .ok (.getfield 12, 3) := by decide +kernel
theorem dX11_text_116 : decode cX11_text 116 = .ok (.getfield 103, 3) := by decide +kernel
theorem dX11_text_119 : decode cX11_text 119 = .ok (.isub, 1) := by decide +kernel
theorem dX11_text_120 : decode cX11_text 120 = .ok (.ireturn, 1) := by decide +kernel
theorem dX11_text_121 : decode cX11_text 121 = .ok (.aload_n 0, 1) := by decide +kernel
theorem dX11_text_122 : decode cX11_text 122 = .ok (.getfield 36, 3) := by decide +kernel
theorem dX11_text_125 : decode cX11_text 125 = .ok (.aload_n 0, 1) := by decide +kernel
theorem dX11_text_126 : decode cX11_text 126 = .ok (.getfield 122, 3) := by decide +kernel
theorem dX11_text_129 : decode cX11_text 129 = .ok (.aload_n 2, 1) := by decide +kernel
theorem dX11_text_130 : decode cX11_text 130 = .ok (.aastore, 1) := by decide +kernel
theorem dX11_text_131 : decode cX11_text 131 = .ok (.aload_n 0, 1) := by decide +kernel
theorem dX11_text_132 : decode cX11_text 132 = .ok (.dup, 1) := by decide +kernel
theorem dX11_text_133 : decode cX11_text 133 = .ok (.getfield 122, 3) := by decide +kernel
theorem dX11_text_136 : decode cX11_text 136 = .ok (.dup_x1, 1) := by decide +kernel
theorem dX11_text_137 : decode cX11_text 137 = .ok (.iconst 1, 1) := by decide +kernel
theorem dX11_text_138 : decode cX11_text 138 = .ok (.iadd, 1) := by decide +kernel
theorem dX11_text_139 : decode cX11_text 139 = .ok (.putfield 122, 3) := by decide +kernel
theorem dX11_text_142 : decode cX11_text 142 = .ok (.ireturn, 1) := by decide +kernel
theorem dX11_text_143 : decode cX11_text 143 = .ok (.iconst (-1), 1) := by decide +kernel
theorem dX11_text_144 : decode cX11_text 144 = .ok (.ireturn, 1) := by decide +kernel
theorem dX11_lawAt_0 : decode cX11_lawAt 0 = .ok (.iload_n 1, 1) := by decide +kernel
theorem dX11_lawAt_1 : decode cX11_lawAt 1 = .ok (.ifCond .lt 20, 3) := by decide +kernel
theorem dX11_lawAt_4 : decode cX11_lawAt 4 = .ok (.iload_n 1, 1) := by decide +kernel
theorem dX11_lawAt_5 : decode cX11_lawAt 5 = .ok (.aload_n 0, 1) := by decide +kernel
theorem dX11_lawAt_6 : decode cX11_lawAt 6 = .ok (.getfield 116, 3) := by decide +kernel
theorem dX11_lawAt_9 : decode cX11_lawAt 9 = .ok (.if_icmp .ge 12, 3) := by decide +kernel
theorem dX11_lawAt_12 : decode cX11_lawAt 12 = .ok (.aload_n 0, 1) := by decide +kernel
theorem dX11_lawAt_13 : decode cX11_lawAt 13 = .ok (.getfield 32, 3) := by decide +kernel
theorem dX11_lawAt_16 : decode cX11_lawAt 16 = .ok (.iload_n 1, 1) := by decide +kernel
theorem dX11_lawAt_17 : decode cX11_lawAt 17 = .ok (.aaload, 1) := by decide +kernel
theorem dX11_lawAt_18 : decode cX11_lawAt 18 = .ok (.goto 4, 3) := by decide +kernel
theorem dX11_lawAt_21 : decode cX11_lawAt 21 = .ok (.aconst_null, 1) := by decide +kernel
theorem dX11_lawAt_22 : decode cX11_lawAt 22 = .ok (.areturn, 1) := by decide +kernel
theorem dX11_wishAt_0 : decode cX11_wishAt 0 = .ok (.iload_n 1, 1) := by decide +kernel
theorem dX11_wishAt_1 : decode cX11_wishAt 1 = .ok (.ifCond .lt 20, 3) := by decide +kernel
theorem dX11_wishAt_4 : decode cX11_wishAt 4 = .ok (.iload_n 1, 1) := by decide +kernel
theorem dX11_wishAt_5 : decode cX11_wishAt 5 = .ok (.aload_n 0, 1) := by decide +kernel
theorem dX11_wishAt_6 : decode cX11_wishAt 6 = .ok (.getfield 122, 3) := by decide +kernel
theorem dX11_wishAt_9 : decode cX11_wishAt 9 = .ok (.if_icmp .ge 12, 3) := by decide +kernel
theorem dX11_wishAt_12 : decode cX11_wishAt 12 = .ok (.aload_n 0, 1) := by decide +kernel
theorem dX11_wishAt_13 : decode cX11_wishAt 13 = .ok (.getfield 36, 3) := by decide +kernel
theorem dX11_wishAt_16 : decode cX11_wishAt 16 = .ok (.iload_n 1, 1) := by decide +kernel
theorem dX11_wishAt_17 : decode cX11_wishAt 17 = .ok (.aaload, 1) := by decide +kernel
theorem dX11_wishAt_18 : decode cX11_wishAt 18 = .ok (.goto 4, 3) := by decide +kernel
theorem dX11_wishAt_21 : decode cX11_wishAt 21 = .ok (.aconst_null, 1) := by decide +kernel
theorem dX11_wishAt_22 : decode cX11_wishAt 22 = .ok (.areturn, 1) := by decide +kernel
theorem dX11_like_0 : decode cX11_like 0 = .ok (.iload_n 1, 1) := by decide +kernel
theorem dX11_like_1 : decode cX11_like 1 = .ok (.invokestatic 125, 3) := by decide +kernel
theorem dX11_like_4 : decode cX11_like 4 = .ok (.ifCond .eq 27, 3) := by decide +kernel
theorem dX11_like_7 : decode cX11_like 7 = .ok (.iload_n 2, 1) := by decide +kernel
theorem dX11_like_8 : decode cX11_like 8 = .ok (.invokestatic 125, 3) := by decide +kernel
theorem dX11_like_11 : decode cX11_like 11 = .ok (.ifCond .eq 20, 3) := by decide +kernel
theorem dX11_like_14 : decode cX11_like 14 = .ok (.iload_n 1, 1) := by decide +kernel
theorem dX11_like_15 : decode cX11_like 15 = .ok (.iload_n 2, 1) := by decide +kernel
theorem dX11_like_16 : decode cX11_like 16 = .ok (.if_icmp .eq 15, 3) := by decide +kernel
theorem dX11_like_19 : decode cX11_like 19 = .ok (.iload_n 3, 1) := by decide +kernel
theorem dX11_like_20 : decode cX11_like 20 = .ok (.bipush (-9), 2) := by decide +kernel
theorem dX11_like_22 : decode cX11_like 22 = .ok (.if_icmp .lt 9, 3) := by decide +kernel
theorem dX11_like_25 : decode cX11_like 25 = .ok (.iload_n 3, 1) := by decide +kernel
theorem dX11_like_26 : decode cX11_like 26 = .ok (.bipush 9, 2) := by decide +kernel
theorem dX11_like_28 : decode cX11_like 28 = .ok (.if_icmp .le 6, 3) := by decide +kernel
theorem dX11_like_31 : decode cX11_like 31 = .ok (.bipush (-100), 2) := by decide +kernel
theorem dX11_like_33 : decode cX11_like 33 = .ok (.ireturn, 1) := by decide +kernel
theorem dX11_like_34 : decode cX11_like 34 = .ok (.iload_n 1, 1) := by decide +kernel
theorem dX11_like_35 : decode cX11_like 35 = .ok (.bipush 12, 2) := by decide +kernel
theorem dX11_like_37 : decode cX11_like 37 = .ok (.imul, 1) := by decide +kernel
theorem dX11_like_38 : decode cX11_like 38 = .ok (.iload_n 2, 1) := by decide +kernel
theorem dX11_like_39 : decode cX11_like 39 = .ok (.iadd, 1) := by decide +kernel
theorem dX11_like_40 : decode cX11_like 40 = .ok (.istore 4, 2) := by decide +kernel
theorem dX11_like_42 : decode cX11_like 42 = .ok (.aload_n 0, 1) := by decide +kernel
theorem dX11_like_43 : decode cX11_like 43 = .ok (.getfield 80, 3) := by decide +kernel
theorem dX11_like_46 : decode cX11_like 46 = .ok (.getfield 129, 3) := by decide +kernel
theorem dX11_like_49 : decode cX11_like 49 = .ok (.iload 4, 2) := by decide +kernel
theorem dX11_like_51 : decode cX11_like 51 = .ok (.iaload, 1) := by decide +kernel
theorem dX11_like_52 : decode cX11_like 52 = .ok (.istore 5, 2) := by decide +kernel
theorem dX11_like_54 : decode cX11_like 54 = .ok (.aload_n 0, 1) := by decide +kernel
theorem dX11_like_55 : decode cX11_like 55 = .ok (.getfield 80, 3) := by decide +kernel
theorem dX11_like_58 : decode cX11_like 58 = .ok (.getfield 129, 3) := by decide +kernel
theorem dX11_like_61 : decode cX11_like 61 = .ok (.iload 4, 2) := by decide +kernel
theorem dX11_like_63 : decode cX11_like 63 = .ok (.iload_n 3, 1) := by decide +kernel
theorem dX11_like_64 : decode cX11_like 64 = .ok (.iastore, 1) := by decide +kernel
theorem dX11_like_65 : decode cX11_like 65 = .ok (.iload 5, 2) := by decide +kernel
theorem dX11_like_67 : decode cX11_like 67 = .ok (.ireturn, 1) := by decide +kernel
theorem dX11_can_0 : decode cX11_can 0 = .ok (.aload_n 0, 1) := by decide +kernel
theorem dX11_can_1 : decode cX11_can 1 = .ok (.iload_n 1, 1) := by decide +kernel
theorem dX11_can_2 : decode cX11_can 2 = .ok (.invokevirtual 133, 3) := by decide +kernel
theorem dX11_can_5 : decode cX11_can 5 = .ok (.astore 9, 2) := by decide +kernel
theorem dX11_can_7 : decode cX11_can 7 = .ok (.aload 9, 2) := by decide +kernel
theorem dX11_can_9 : decode cX11_can 9 = .ok (.ifnull 15, 3) := by decide +kernel
theorem dX11_can_12 : decode cX11_can 12 = .ok (.aload_n 0, 1) := by decide +kernel
theorem dX11_can_13 : decode cX11_can 13 = .ok (.iload_n 2, 1) := by decide +kernel
theorem dX11_can_14 : decode cX11_can 14 = .ok (.iload 7, 2) := by decide +kernel
theorem dX11_can_16 : decode cX11_can 16 = .ok (.iload 8, 2) := by decide +kernel
theorem dX11_can_18 : decode cX11_can 18 = .ok (.invokevirtual 137, 3) := by decide +kernel
theorem dX11_can_21 : decode cX11_can 21 = .ok (.ifCond .ne 5, 3) := by decide +kernel
theorem dX11_can_24 : decode cX11_can 24 = .ok (.iconst (-1), 1) := by decide +kernel
theorem dX11_can_25 : decode cX11_can 25 = .ok (.ireturn, 1) := by decide +kernel
theorem dX11_can_26 : decode cX11_can 26 = .ok (.aload_n 0, 1) := by decide +kernel
theorem dX11_can_27 : decode cX11_can 27 = .ok (.getfield 62, 3) := by decide +kernel
theorem dX11_can_30 : decode cX11_can 30 = .ok (.iload_n 2, 1) := by decide +kernel
theorem dX11_can_31 : decode cX11_can 31 = .ok (.iload_n 3, 1) := by decide +kernel
theorem dX11_can_32 : decode cX11_can 32 = .ok (.iload 4, 2) := by decide +kernel
theorem dX11_can_34 : decode cX11_can 34 = .ok (.iload 5, 2) := by decide +kernel
theorem dX11_can_36 : decode cX11_can 36 = .ok (.iload 6, 2) := by decide +kernel
theorem dX11_can_38 : decode cX11_can 38 = .ok (.iload 7, 2) := by decide +kernel
theorem dX11_can_40 : decode cX11_can 40 = .ok (.iload 8, 2) := by decide +kernel
theorem dX11_can_42 : decode cX11_can 42 = .ok (.invokevirtual 141, 3) := by decide +kernel
theorem dX11_can_45 : decode cX11_can 45 = .ok (.aload_n 0, 1) := by decide +kernel
theorem dX11_can_46 : decode cX11_can 46 = .ok (.aload 9, 2) := by decide +kernel
theorem dX11_can_48 : decode cX11_can 48 = .ok (.aload_n 0, 1) := by decide +kernel
theorem dX11_can_49 : decode cX11_can 49 = .ok (.getfield 62, 3) := by decide +kernel
theorem dX11_can_52 : decode cX11_can 52 = .ok (.invokevirtual 145, 3) := by decide +kernel
theorem dX11_can_55 : decode cX11_can 55 = .ok (.ifCond .eq 7, 3) := by decide +kernel
theorem dX11_can_58 : decode cX11_can 58 = .ok (.iconst 1, 1) := by decide +kernel
theorem dX11_can_59 : decode cX11_can 59 = .ok (.goto 4, 3) := by decide +kernel
theorem dX11_can_62 : decode cX11_can 62 = .ok (.iconst 0, 1) := by decide +kernel
theorem dX11_can_63 : decode cX11_can 63 = .ok (.ireturn, 1) := by decide +kernel
theorem dX11_build_0 : decode cX11_build 0 = .ok (.aload_n 0, 1) := by decide +kernel
theorem dX11_build_1 : decode cX11_build 1 = .ok (.iload_n 1, 1) := by decide +kernel
theorem dX11_build_2 : decode cX11_build 2 = .ok (.invokevirtual 133, 3) := by decide +kernel
theorem dX11_build_5 : decode cX11_build 5 = .ok (.astore 9, 2) := by decide +kernel
theorem dX11_build_7 : decode cX11_build 7 = .ok (.aload 9, 2) := by decide +kernel
theorem dX11_build_9 : decode cX11_build 9 = .ok (.ifnull 15, 3) := by decide +kernel
theorem dX11_build_12 : decode cX11_build 12 = .ok (.aload_n 0, 1) := by decide +kernel
theorem dX11_build_13 : decode cX11_build 13 = .ok (.iload_n 2, 1) := by decide +kernel
theorem dX11_build_14 : decode cX11_build 14 = .ok (.iload 7, 2) := by decide +kernel
theorem dX11_build_16 : decode cX11_build 16 = .ok (.iload 8, 2) := by decide +kernel
theorem dX11_build_18 : decode cX11_build 18 = .ok (.invokevirtual 137, 3) := by decide +kernel
theorem dX11_build_21 : decode cX11_build 21 = .ok (.ifCond .ne 5, 3) := by decide +kernel
theorem dX11_build_24 : decode cX11_build 24 = .ok (.iconst (-1), 1) := by decide +kernel
theorem dX11_build_25 : decode cX11_build 25 = .ok (.ireturn, 1) := by decide +kernel
theorem dX11_build_26 : decode cX11_build 26 = .ok (.aload_n 0, 1) := by decide +kernel
theorem dX11_build_27 : decode cX11_build 27 = .ok (.getfield 62, 3) := by decide +kernel
theorem dX11_build_30 : decode cX11_build 30 = .ok (.iload_n 2, 1) := by decide +kernel
theorem dX11_build_31 : decode cX11_build 31 = .ok (.iload_n 3, 1) := by decide +kernel
theorem dX11_build_32 : decode cX11_build 32 = .ok (.iload 4, 2) := by decide +kernel
theorem dX11_build_34 : decode cX11_build 34 = .ok (.iload 5, 2) := by decide +kernel
theorem dX11_build_36 : decode cX11_build 36 = .ok (.iload 6, 2) := by decide +kernel
theorem dX11_build_38 : decode cX11_build 38 = .ok (.iload 7, 2) := by decide +kernel
theorem dX11_build_40 : decode cX11_build 40 = .ok (.iload 8, 2) := by decide +kernel
theorem dX11_build_42 : decode cX11_build 42 = .ok (.invokevirtual 141, 3) := by decide +kernel
theorem dX11_build_45 : decode cX11_build 45 = .ok (.aload_n 0, 1) := by decide +kernel
theorem dX11_build_46 : decode cX11_build 46 = .ok (.getfield 80, 3) := by decide +kernel
theorem dX11_build_49 : decode cX11_build 49 = .ok (.invokevirtual 149, 3) := by decide +kernel
theorem dX11_build_52 : decode cX11_build 52 = .ok (.istore 10, 2) := by decide +kernel
theorem dX11_build_54 : decode cX11_build 54 = .ok (.iload 10, 2) := by decide +kernel
theorem dX11_build_56 : decode cX11_build 56 = .ok (.iconst (-1), 1) := by decide +kernel
theorem dX11_build_57 : decode cX11_build 57 = .ok (.if_icmp .eq 16, 3) := by decide +kernel
theorem dX11_build_60 : decode cX11_build 60 = .ok (.aload_n 0, 1) := by decide +kernel
theorem dX11_build_61 : decode cX11_build 61 = .ok (.aload 9, 2) := by decide +kernel
theorem dX11_build_63 : decode cX11_build 63 = .ok (.aload_n 0, 1) := by decide +kernel
theorem dX11_build_64 : decode cX11_build 64 = .ok (.getfield 62, 3) := by decide +kernel
theorem dX11_build_67 : decode cX11_build 67 = .ok (.invokevirtual 145, 3) := by decide +kernel
theorem dX11_build_70 : decode cX11_build 70 = .ok (.ifCond .ne 6, 3) := by decide +kernel
theorem dX11_build_73 : decode cX11_build 73 = .ok (.bipush (-2), 2) := by decide +kernel
theorem dX11_build_75 : decode cX11_build 75 = .ok (.ireturn, 1) := by decide +kernel
theorem dX11_build_76 : decode cX11_build 76 = .ok (.aload_n 0, 1) := by decide +kernel
theorem dX11_build_77 : decode cX11_build 77 = .ok (.getfield 80, 3) := by decide +kernel
theorem dX11_build_80 : decode cX11_build 80 = .ok (.iload 10, 2) := by decide +kernel
theorem dX11_build_82 : decode cX11_build 82 = .ok (.aload_n 0, 1) := by decide +kernel
theorem dX11_build_83 : decode cX11_build 83 = .ok (.getfield 62, 3) := by decide +kernel
theorem dX11_build_86 : decode cX11_build 86 = .ok (.invokevirtual 153, 3) := by decide +kernel
theorem dX11_build_89 : decode cX11_build 89 = .ok (.iload 10, 2) := by decide +kernel
theorem dX11_build_91 : decode cX11_build 91 = .ok (.ireturn, 1) := by decide +kernel
theorem dX11_wish_0 : decode cX11_wish 0 = .ok (.aload_n 0, 1) := by decide +kernel
theorem dX11_wish_1 : decode cX11_wish 1 = .ok (.iload_n 1, 1) := by decide +kernel
theorem dX11_wish_2 : decode cX11_wish 2 = .ok (.invokevirtual 157, 3) := by decide +kernel
theorem dX11_wish_5 : decode cX11_wish 5 = .ok (.astore 9, 2) := by decide +kernel
theorem dX11_wish_7 : decode cX11_wish 7 = .ok (.aload 9, 2) := by decide +kernel
theorem dX11_wish_9 : decode cX11_wish 9 = .ok (.ifnull 15, 3) := by decide +kernel
theorem dX11_wish_12 : decode cX11_wish 12 = .ok (.aload_n 0, 1) := by decide +kernel
theorem dX11_wish_13 : decode cX11_wish 13 = .ok (.iload_n 2, 1) := by decide +kernel
theorem dX11_wish_14 : decode cX11_wish 14 = .ok (.iload 7, 2) := by decide +kernel
theorem dX11_wish_16 : decode cX11_wish 16 = .ok (.iload 8, 2) := by decide +kernel
theorem dX11_wish_18 : decode cX11_wish 18 = .ok (.invokevirtual 137, 3) := by decide +kernel
theorem dX11_wish_21 : decode cX11_wish 21 = .ok (.ifCond .ne 5, 3) := by decide +kernel
theorem dX11_wish_24 : decode cX11_wish 24 = .ok (.lconst 0, 1) := by decide +kernel
theorem dX11_wish_25 : decode cX11_wish 25 = .ok (.lreturn, 1) := by decide +kernel
theorem dX11_wish_26 : decode cX11_wish 26 = .ok (.aload_n 0, 1) := by decide +kernel
theorem dX11_wish_27 : decode cX11_wish 27 = .ok (.getfield 62, 3) := by decide +kernel
theorem dX11_wish_30 : decode cX11_wish 30 = .ok (.iload_n 2, 1) := by decide +kernel
theorem dX11_wish_31 : decode cX11_wish 31 = .ok (.iload_n 3, 1) := by decide +kernel
theorem dX11_wish_32 : decode cX11_wish 32 = .ok (.iload 4, 2) := by decide +kernel
theorem dX11_wish_34 : decode cX11_wish 34 = .ok (.iload 5, 2) := by decide +kernel
theorem dX11_wish_36 : decode cX11_wish 36 = .ok (.iload 6, 2) := by decide +kernel
theorem dX11_wish_38 : decode cX11_wish 38 = .ok (.iload 7, 2) := by decide +kernel
theorem dX11_wish_40 : decode cX11_wish 40 = .ok (.iload 8, 2) := by decide +kernel
theorem dX11_wish_42 : decode cX11_wish 42 = .ok (.invokevirtual 141, 3) := by decide +kernel
theorem dX11_wish_45 : decode cX11_wish 45 = .ok (.aload_n 0, 1) := by decide +kernel
theorem dX11_wish_46 : decode cX11_wish 46 = .ok (.aload_n 0, 1) := by decide +kernel
theorem dX11_wish_47 : decode cX11_wish 47 = .ok (.getfield 62, 3) := by decide +kernel
theorem dX11_wish_50 : decode cX11_wish 50 = .ok (.invokevirtual 160, 3) := by decide +kernel
theorem dX11_wish_53 : decode cX11_wish 53 = .ok (.ifCond .ne 5, 3) := by decide +kernel
theorem dX11_wish_56 : decode cX11_wish 56 = .ok (.lconst 0, 1) := by decide +kernel
theorem dX11_wish_57 : decode cX11_wish 57 = .ok (.lreturn, 1) := by decide +kernel
theorem dX11_wish_58 : decode cX11_wish 58 = .ok (.aload_n 0, 1) := by decide +kernel
theorem dX11_wish_59 : decode cX11_wish 59 = .ok (.aload_n 0, 1) := by decide +kernel
theorem dX11_wish_60 : decode cX11_wish 60 = .ok (.getfield 62, 3) := by decide +kernel
theorem dX11_wish_63 : decode cX11_wish 63 = .ok (.invokevirtual 164, 3) := by decide +kernel
theorem dX11_wish_66 : decode cX11_wish 66 = .ok (.aload 9, 2) := by decide +kernel
theorem dX11_wish_68 : decode cX11_wish 68 = .ok (.aload_n 0, 1) := by decide +kernel
theorem dX11_wish_69 : decode cX11_wish 69 = .ok (.getfield 62, 3) := by decide +kernel
theorem dX11_wish_72 : decode cX11_wish 72 = .ok (.getfield 168, 3) := by decide +kernel
theorem dX11_wish_75 : decode cX11_wish 75 = .ok (.invokevirtual 172, 3) := by decide +kernel
theorem dX11_wish_78 : decode cX11_wish 78 = .ok (.lreturn, 1) := by decide +kernel
theorem dX11_pull_0 : decode cX11_pull 0 = .ok (.aload_n 0, 1) := by decide +kernel
theorem dX11_pull_1 : decode cX11_pull 1 = .ok (.getfield 80, 3) := by decide +kernel
theorem dX11_pull_4 : decode cX11_pull 4 = .ok (.iload_n 1, 1) := by decide +kernel
theorem dX11_pull_5 : decode cX11_pull 5 = .ok (.invokevirtual 176, 3) := by decide +kernel
theorem dX11_pull_8 : decode cX11_pull 8 = .ok (.ifCond .ne 5, 3) := by decide +kernel
theorem dX11_pull_11 : decode cX11_pull 11 = .ok (.iconst 0, 1) := by decide +kernel
theorem dX11_pull_12 : decode cX11_pull 12 = .ok (.ireturn, 1) := by decide +kernel
theorem dX11_pull_13 : decode cX11_pull 13 = .ok (.aload_n 0, 1) := by decide +kernel
theorem dX11_pull_14 : decode cX11_pull 14 = .ok (.getfield 80, 3) := by decide +kernel
theorem dX11_pull_17 : decode cX11_pull 17 = .ok (.iload_n 1, 1) := by decide +kernel
theorem dX11_pull_18 : decode cX11_pull 18 = .ok (.invokevirtual 179, 3) := by decide +kernel
theorem dX11_pull_21 : decode cX11_pull 21 = .ok (.iconst 1, 1) := by decide +kernel
theorem dX11_pull_22 : decode cX11_pull 22 = .ok (.ireturn, 1) := by decide +kernel
theorem dX11_gate_0 : decode cX11_gate 0 = .ok (.aload_n 0, 1) := by decide +kernel
theorem dX11_gate_1 : decode cX11_gate 1 = .ok (.getfield 80, 3) := by decide +kernel
theorem dX11_gate_4 : decode cX11_gate 4 = .ok (.iload_n 1, 1) := by decide +kernel
theorem dX11_gate_5 : decode cX11_gate 5 = .ok (.invokevirtual 176, 3) := by decide +kernel
theorem dX11_gate_8 : decode cX11_gate 8 = .ok (.ifCond .eq 25, 3) := by decide +kernel
theorem dX11_gate_11 : decode cX11_gate 11 = .ok (.iload_n 2, 1) := by decide +kernel
theorem dX11_gate_12 : decode cX11_gate 12 = .ok (.ifCond .lt 21, 3) := by decide +kernel
theorem dX11_gate_15 : decode cX11_gate 15 = .ok (.iload_n 2, 1) := by decide +kernel
theorem dX11_gate_16 : decode cX11_gate 16 = .ok (.iconst 3, 1) := by decide +kernel
theorem dX11_gate_17 : decode cX11_gate 17 = .ok (.if_icmp .gt 16, 3) := by decide +kernel
theorem dX11_gate_20 : decode cX11_gate 20 = .ok (.iload 4, 2) := by decide +kernel
theorem dX11_gate_22 : decode cX11_gate 22 = .ok (.ifCond .lt 11, 3) := by decide +kernel
theorem dX11_gate_25 : decode cX11_gate 25 = .ok (.iload 4, 2) := by decide +kernel
theorem dX11_gate_27 : decode cX11_gate 27 = .ok (.sipush 999, 3) := by decide +kernel
theorem dX11_gate_30 : decode cX11_gate 30 = .ok (.if_icmp .le 5, 3) := by decide +kernel
theorem dX11_gate_33 : decode cX11_gate 33 = .ok (.iconst 0, 1) := by decide +kernel
theorem dX11_gate_34 : decode cX11_gate 34 = .ok (.ireturn, 1) := by decide +kernel
theorem dX11_gate_35 : decode cX11_gate 35 = .ok (.aload_n 0, 1) := by decide +kernel
theorem dX11_gate_36 : decode cX11_gate 36 = .ok (.getfield 80, 3) := by decide +kernel
theorem dX11_gate_39 : decode cX11_gate 39 = .ok (.getfield 182, 3) := by decide +kernel
theorem dX11_gate_42 : decode cX11_gate 42 = .ok (.iload_n 1, 1) := by decide +kernel
theorem dX11_gate_43 : decode cX11_gate 43 = .ok (.aaload, 1) := by decide +kernel
theorem dX11_gate_44 : decode cX11_gate 44 = .ok (.astore 5, 2) := by decide +kernel
theorem dX11_gate_46 : decode cX11_gate 46 = .ok (.iload_n 3, 1) := by decide +kernel
theorem dX11_gate_47 : decode cX11_gate 47 = .ok (.ifCond .lt 13, 3) := by decide +kernel
theorem dX11_gate_50 : decode cX11_gate 50 = .ok (.iload_n 3, 1) := by decide +kernel
theorem dX11_gate_51 : decode cX11_gate 51 = .ok (.aload 5, 2) := by decide +kernel
theorem dX11_gate_53 : decode cX11_gate 53 = .ok (.iload_n 2, 1) := by decide +kernel
theorem dX11_gate_54 : decode cX11_gate 54 = .ok (.invokevirtual 186, 3) := by decide +kernel
theorem dX11_gate_57 : decode cX11_gate 57 = .ok (.if_icmp .lt 5, 3) := by decide +kernel
theorem dX11_gate_60 : decode cX11_gate 60 = .ok (.iconst 0, 1) := by decide +kernel
theorem dX11_gate_61 : decode cX11_gate 61 = .ok (.ireturn, 1) := by decide +kernel
theorem dX11_gate_62 : decode cX11_gate 62 = .ok (.aload 5, 2) := by decide +kernel
theorem dX11_gate_64 : decode cX11_gate 64 = .ok (.iload_n 2, 1) := by decide +kernel
theorem dX11_gate_65 : decode cX11_gate 65 = .ok (.putfield 192, 3) := by decide +kernel
theorem dX11_gate_68 : decode cX11_gate 68 = .ok (.aload 5, 2) := by decide +kernel
theorem dX11_gate_70 : decode cX11_gate 70 = .ok (.iload_n 3, 1) := by decide +kernel
theorem dX11_gate_71 : decode cX11_gate 71 = .ok (.putfield 195, 3) := by decide +kernel
theorem dX11_gate_74 : decode cX11_gate 74 = .ok (.aload 5, 2) := by decide +kernel
theorem dX11_gate_76 : decode cX11_gate 76 = .ok (.iload 4, 2) := by decide +kernel
theorem dX11_gate_78 : decode cX11_gate 78 = .ok (.putfield 198, 3) := by decide +kernel
theorem dX11_gate_81 : decode cX11_gate 81 = .ok (.iconst 1, 1) := by decide +kernel
theorem dX11_gate_82 : decode cX11_gate 82 = .ok (.ireturn, 1) := by decide +kernel
theorem dX11_key_0 : decode cX11_key 0 = .ok (.aload_n 0, 1) := by decide +kernel
theorem dX11_key_1 : decode cX11_key 1 = .ok (.getfield 80, 3) := by decide +kernel
theorem dX11_key_4 : decode cX11_key 4 = .ok (.iload_n 1, 1) := by decide +kernel
theorem dX11_key_5 : decode cX11_key 5 = .ok (.invokevirtual 176, 3) := by decide +kernel
theorem dX11_key_8 : decode cX11_key 8 = .ok (.ifCond .eq 10, 3) := by decide +kernel
theorem dX11_key_11 : decode cX11_key 11 = .ok (.iload_n 2, 1) := by decide +kernel
theorem dX11_key_12 : decode cX11_key 12 = .ok (.invokestatic 125, 3) := by decide +kernel
theorem dX11_key_15 : decode cX11_key 15 = .ok (.ifCond .ne 5, 3) := by decide +kernel
theorem dX11_key_18 : decode cX11_key 18 = .ok (.iconst 0, 1) := by decide +kernel
theorem dX11_key_19 : decode cX11_key 19 = .ok (.ireturn, 1) := by decide +kernel
theorem dX11_key_20 : decode cX11_key 20 = .ok (.aload_n 0, 1) := by decide +kernel
theorem dX11_key_21 : decode cX11_key 21 = .ok (.getfield 80, 3) := by decide +kernel
theorem dX11_key_24 : decode cX11_key 24 = .ok (.getfield 182, 3) := by decide +kernel
theorem dX11_key_27 : decode cX11_key 27 = .ok (.iload_n 1, 1) := by decide +kernel
theorem dX11_key_28 : decode cX11_key 28 = .ok (.aaload, 1) := by decide +kernel
theorem dX11_key_29 : decode cX11_key 29 = .ok (.astore 4, 2) := by decide +kernel
theorem dX11_key_31 : decode cX11_key 31 = .ok (.aload 4, 2) := by decide +kernel
theorem dX11_key_33 : decode cX11_key 33 = .ok (.getfield 201, 3) := by decide +kernel
theorem dX11_key_36 : decode cX11_key 36 = .ok (.iload_n 2, 1) := by decide +kernel
theorem dX11_key_37 : decode cX11_key 37 = .ok (.ishr, 1) := by decide +kernel
theorem dX11_key_38 : decode cX11_key 38 = .ok (.iconst 1, 1) := by decide +kernel
theorem dX11_key_39 : decode cX11_key 39 = .ok (.iand, 1) := by decide +kernel
theorem dX11_key_40 : decode cX11_key 40 = .ok (.iconst 1, 1) := by decide +kernel
theorem dX11_key_41 : decode cX11_key 41 = .ok (.if_icmp .ne 7, 3) := by decide +kernel
theorem dX11_key_44 : decode cX11_key 44 = .ok (.iconst 1, 1) := by decide +kernel
theorem dX11_key_45 : decode cX11_key 45 = .ok (.goto 4, 3) := by decide +kernel
theorem dX11_key_48 : decode cX11_key 48 = .ok (.iconst 0, 1) := by decide +kernel
theorem dX11_key_49 : decode cX11_key 49 = .ok (.istore 5, 2) := by decide +kernel
theorem dX11_key_51 : decode cX11_key 51 = .ok (.iload 5, 2) := by decide +kernel
theorem dX11_key_53 : decode cX11_key 53 = .ok (.iload_n 3, 1) := by decide +kernel
theorem dX11_key_54 : decode cX11_key 54 = .ok (.if_icmp .ne 5, 3) := by decide +kernel
theorem dX11_key_57 : decode cX11_key 57 = .ok (.iconst 0, 1) := by decide +kernel
theorem dX11_key_58 : decode cX11_key 58 = .ok (.ireturn, 1) := by decide +kernel
theorem dX11_key_59 : decode cX11_key 59 = .ok (.aload 4, 2) := by decide +kernel
theorem dX11_key_61 : decode cX11_key 61 = .ok (.dup, 1) := by decide +kernel
theorem dX11_key_62 : decode cX11_key 62 = .ok (.getfield 201, 3) := by decide +kernel
theorem dX11_key_65 : decode cX11_key 65 = .ok (.iconst 1, 1) := by decide +kernel
theorem dX11_key_66 : decode cX11_key 66 = .ok (.iload_n 2, 1) := by decide +kernel
theorem dX11_key_67 : decode cX11_key 67 = .ok (.ishl, 1) := by decide +kernel
theorem dX11_key_68 : decode cX11_key 68 = .ok (.ixor, 1) := by decide +kernel
theorem dX11_key_69 : decode cX11_key 69 = .ok (.putfield 201, 3) := by decide +kernel
theorem dX11_key_72 : decode cX11_key 72 = .ok (.iconst 1, 1) := by decide +kernel
theorem dX11_key_73 : decode cX11_key 73 = .ok (.ireturn, 1) := by decide +kernel
theorem dX11_isFamily_0 : decode cX11_isFamily 0 = .ok (.iload_n 0, 1) := by decide +kernel
theorem dX11_isFamily_1 : decode cX11_isFamily 1 = .ok (.ifCond .lt 13, 3) := by decide +kernel
theorem dX11_isFamily_4 : decode cX11_isFamily 4 = .ok (.iload_n 0, 1) := by decide +kernel
theorem dX11_isFamily_5 : decode cX11_isFamily 5 = .ok (.bipush 12, 2) := by decide +kernel
theorem dX11_isFamily_7 : decode cX11_isFamily 7 = .ok (.if_icmp .ge 7, 3) := by decide +kernel
theorem dX11_isFamily_10 : decode cX11_isFamily 10 = .ok (.iconst 1, 1) := by decide +kernel
theorem dX11_isFamily_11 : decode cX11_isFamily 11 = .ok (.goto 4, 3) := by decide +kernel
theorem dX11_isFamily_14 : decode cX11_isFamily 14 = .ok (.iconst 0, 1) := by decide +kernel
theorem dX11_isFamily_15 : decode cX11_isFamily 15 = .ok (.ireturn, 1) := by decide +kernel
theorem dX11_areThere_0 : decode cX11_areThere 0 = .ok (.iload_n 1, 1) := by decide +kernel
theorem dX11_areThere_1 : decode cX11_areThere 1 = .ok (.invokestatic 125, 3) := by decide +kernel
theorem dX11_areThere_4 : decode cX11_areThere 4 = .ok (.ifCond .eq 34, 3) := by decide +kernel
theorem dX11_areThere_7 : decode cX11_areThere 7 = .ok (.aload_n 0, 1) := by decide +kernel
theorem dX11_areThere_8 : decode cX11_areThere 8 = .ok (.getfield 80, 3) := by decide +kernel
theorem dX11_areThere_11 : decode cX11_areThere 11 = .ok (.iload_n 2, 1) := by decide +kernel
theorem dX11_areThere_12 : decode cX11_areThere 12 = .ok (.invokevirtual 204, 3) := by decide +kernel
theorem dX11_areThere_15 : decode cX11_areThere 15 = .ok (.ifCond .eq 23, 3) := by decide +kernel
theorem dX11_areThere_18 : decode cX11_areThere 18 = .ok (.iload_n 3, 1) := by decide +kernel
theorem dX11_areThere_19 : decode cX11_areThere 19 = .ok (.iconst (-1), 1) := by decide +kernel
theorem dX11_areThere_20 : decode cX11_areThere 20 = .ok (.if_icmp .eq 14, 3) := by decide +kernel
theorem dX11_areThere_23 : decode cX11_areThere 23 = .ok (.aload_n 0, 1) := by decide +kernel
theorem dX11_areThere_24 : decode cX11_areThere 24 = .ok (.getfield 80, 3) := by decide +kernel
theorem dX11_areThere_27 : decode cX11_areThere 27 = .ok (.iload_n 3, 1) := by decide +kernel
theorem dX11_areThere_28 : decode cX11_areThere 28 = .ok (.invokevirtual 204, 3) := by decide +kernel
theorem dX11_areThere_31 : decode cX11_areThere 31 = .ok (.ifCond .eq 7, 3) := by decide +kernel
theorem dX11_areThere_34 : decode cX11_areThere 34 = .ok (.iconst 1, 1) := by decide +kernel
theorem dX11_areThere_35 : decode cX11_areThere 35 = .ok (.goto 4, 3) := by decide +kernel
theorem dX11_areThere_38 : decode cX11_areThere 38 = .ok (.iconst 0, 1) := by decide +kernel
theorem dX11_areThere_39 : decode cX11_areThere 39 = .ok (.ireturn, 1) := by decide +kernel
theorem dX11_thing_0 : decode cX11_thing 0 = .ok (.aload_n 0, 1) := by decide +kernel
theorem dX11_thing_1 : decode cX11_thing 1 = .ok (.getfield 80, 3) := by decide +kernel
theorem dX11_thing_4 : decode cX11_thing 4 = .ok (.iload_n 1, 1) := by decide +kernel
theorem dX11_thing_5 : decode cX11_thing 5 = .ok (.invokevirtual 204, 3) := by decide +kernel
theorem dX11_thing_8 : decode cX11_thing 8 = .ok (.ifCond .ne 6, 3) := by decide +kernel
theorem dX11_thing_11 : decode cX11_thing 11 = .ok (.bipush (-2), 2) := by decide +kernel
theorem dX11_thing_13 : decode cX11_thing 13 = .ok (.ireturn, 1) := by decide +kernel
theorem dX11_thing_14 : decode cX11_thing 14 = .ok (.aload_n 0, 1) := by decide +kernel
theorem dX11_thing_15 : decode cX11_thing 15 = .ok (.getfield 80, 3) := by decide +kernel
theorem dX11_thing_18 : decode cX11_thing 18 = .ok (.getfield 182, 3) := by decide +kernel
theorem dX11_thing_21 : decode cX11_thing 21 = .ok (.iload_n 1, 1) := by decide +kernel
theorem dX11_thing_22 : decode cX11_thing 22 = .ok (.aaload, 1) := by decide +kernel
theorem dX11_thing_23 : decode cX11_thing 23 = .ok (.astore_n 3, 1) := by decide +kernel
theorem dX11_thing_24 : decode cX11_thing 24 = .ok (.aload_n 3, 1) := by decide +kernel
theorem dX11_thing_25 : decode cX11_thing 25 = .ok (.getfield 192, 3) := by decide +kernel
theorem dX11_thing_28 : decode cX11_thing 28 = .ok (.iconst (-1), 1) := by decide +kernel
theorem dX11_thing_29 : decode cX11_thing 29 = .ok (.if_icmp .eq 7, 3) := by decide +kernel
theorem dX11_thing_32 : decode cX11_thing 32 = .ok (.iconst 1, 1) := by decide +kernel
theorem dX11_thing_33 : decode cX11_thing 33 = .ok (.goto 4, 3) := by decide +kernel
theorem dX11_thing_36 : decode cX11_thing 36 = .ok (.iconst 0, 1) := by decide +kernel
theorem dX11_thing_37 : decode cX11_thing 37 = .ok (.istore 4, 2) := by decide +kernel
theorem dX11_thing_39 : decode cX11_thing 39 = .ok (.iload_n 2, 1) := by decide +kernel
theorem dX11_thing_40 : decode cX11_thing 40 = .ok (.tableswitch 144 0 11 #[64, 69, 74, 79, 84, 89, 94, 99, 105, 111, 116, 130], 64) := by decide +kernel
theorem dX11_thing_104 : decode cX11_thing 104 = .ok (.aload_n 3, 1) := by decide +kernel
theorem dX11_thing_105 : decode cX11_thing 105 = .ok (.getfield 207, 3) := by decide +kernel
theorem dX11_thing_108 : decode cX11_thing 108 = .ok (.ireturn, 1) := by decide +kernel
theorem dX11_thing_109 : decode cX11_thing 109 = .ok (.aload_n 3, 1) := by decide +kernel
theorem dX11_thing_110 : decode cX11_thing 110 = .ok (.getfield 210, 3) := by decide +kernel
theorem dX11_thing_113 : decode cX11_thing 113 = .ok (.ireturn, 1) := by decide +kernel
theorem dX11_thing_114 : decode cX11_thing 114 = .ok (.aload_n 3, 1) := by decide +kernel
theorem dX11_thing_115 : decode cX11_thing 115 = .ok (.getfield 213, 3) := by decide +kernel
theorem dX11_thing_118 : decode cX11_thing 118 = .ok (.ireturn, 1) := by decide +kernel
theorem dX11_thing_119 : decode cX11_thing 119 = .ok (.aload_n 3, 1) := by decide +kernel
theorem dX11_thing_120 : decode cX11_thing 120 = .ok (.getfield 216, 3) := by decide +kernel
theorem dX11_thing_123 : decode cX11_thing 123 = .ok (.ireturn, 1) := by decide +kernel
theorem dX11_thing_124 : decode cX11_thing 124 = .ok (.aload_n 3, 1) := by decide +kernel
theorem dX11_thing_125 : decode cX11_thing 125 = .ok (.getfield 219, 3) := by decide +kernel
theorem dX11_thing_128 : decode cX11_thing 128 = .ok (.ireturn, 1) := by decide +kernel
theorem dX11_thing_129 : decode cX11_thing 129 = .ok (.aload_n 3, 1) := by decide +kernel
theorem dX11_thing_130 : decode cX11_thing 130 = .ok (.getfield 222, 3) := by decide +kernel
theorem dX11_thing_133 : decode cX11_thing 133 = .ok (.ireturn, 1) := by decide +kernel
theorem dX11_thing_134 : decode cX11_thing 134 = .ok (.aload_n 3, 1) := by decide +kernel
theorem dX11_thing_135 : decode cX11_thing 135 = .ok (.getfield 225, 3) := by decide +kernel
theorem dX11_thing_138 : decode cX11_thing 138 = .ok (.ireturn, 1) := by decide +kernel
theorem dX11_thing_139 : decode cX11_thing 139 = .ok (.aload_n 0, 1) := by decide +kernel
theorem dX11_thing_140 : decode cX11_thing 140 = .ok (.iload_n 1, 1) := by decide +kernel
theorem dX11_thing_141 : decode cX11_thing 141 = .ok (.invokevirtual 228, 3) := by decide +kernel
theorem dX11_thing_144 : decode cX11_thing 144 = .ok (.ireturn, 1) := by decide +kernel
theorem dX11_thing_145 : decode cX11_thing 145 = .ok (.aload_n 0, 1) := by decide +kernel
theorem dX11_thing_146 : decode cX11_thing 146 = .ok (.iload_n 1, 1) := by decide +kernel
theorem dX11_thing_147 : decode cX11_thing 147 = .ok (.invokevirtual 231, 3) := by decide +kernel
theorem dX11_thing_150 : decode cX11_thing 150 = .ok (.ireturn, 1) := by decide +kernel
theorem dX11_thing_151 : decode cX11_thing 151 = .ok (.aload_n 3, 1) := by decide +kernel
theorem dX11_thing_152 : decode cX11_thing 152 = .ok (.getfield 192, 3) := by decide +kernel
theorem dX11_thing_155 : decode cX11_thing 155 = .ok (.ireturn, 1) := by decide +kernel
theorem dX11_thing_156 : decode cX11_thing 156 = .ok (.iload 4, 2) := by decide +kernel
theorem dX11_thing_158 : decode cX11_thing 158 = .ok (.ifCond .eq 10, 3) := by decide +kernel
theorem dX11_thing_161 : decode cX11_thing 161 = .ok (.aload_n 3, 1) := by decide +kernel
theorem dX11_thing_162 : decode cX11_thing 162 = .ok (.getfield 195, 3) := by decide +kernel
theorem dX11_thing_165 : decode cX11_thing 165 = .ok (.goto 4, 3) := by decide +kernel
theorem dX11_thing_168 : decode cX11_thing 168 = .ok (.iconst (-1), 1) := by decide +kernel
theorem dX11_thing_169 : decode cX11_thing 169 = .ok (.ireturn, 1) := by decide +kernel
theorem dX11_thing_170 : decode cX11_thing 170 = .ok (.iload 4, 2) := by decide +kernel
theorem dX11_thing_172 : decode cX11_thing 172 = .ok (.ifCond .eq 10, 3) := by decide +kernel
theorem dX11_thing_175 : decode cX11_thing 175 = .ok (.aload_n 3, 1) := by decide +kernel
theorem dX11_thing_176 : decode cX11_thing 176 = .ok (.getfield 198, 3) := by decide +kernel
theorem dX11_thing_179 : decode cX11_thing 179 = .ok (.goto 4, 3) := by decide +kernel
theorem dX11_thing_182 : decode cX11_thing 182 = .ok (.iconst (-1), 1) := by decide +kernel
theorem dX11_thing_183 : decode cX11_thing 183 = .ok (.ireturn, 1) := by decide +kernel
theorem dX11_thing_184 : decode cX11_thing 184 = .ok (.bipush (-2), 2) := by decide +kernel
theorem dX11_thing_186 : decode cX11_thing 186 = .ok (.ireturn, 1) := by decide +kernel
theorem dX11_groundOf_0 : decode cX11_groundOf 0 = .ok (.aload_n 0, 1) := by decide +kernel
theorem dX11_groundOf_1 : decode cX11_groundOf 1 = .ok (.getfield 80, 3) := by decide +kernel
theorem dX11_groundOf_4 : decode cX11_groundOf 4 = .ok (.getfield 182, 3) := by decide +kernel
theorem dX11_groundOf_7 : decode cX11_groundOf 7 = .ok (.iload_n 1, 1) := by decide +kernel
theorem dX11_groundOf_8 : decode cX11_groundOf 8 = .ok (.aaload, 1) := by decide +kernel
theorem dX11_groundOf_9 : decode cX11_groundOf 9 = .ok (.invokevirtual 234, 3) := by decide +kernel
theorem dX11_groundOf_12 : decode cX11_groundOf 12 = .ok (.istore_n 2, 1) := by decide +kernel
theorem dX11_groundOf_13 : decode cX11_groundOf 13 = .ok (.iconst 0, 1) := by decide +kernel
theorem dX11_groundOf_14 : decode cX11_groundOf 14 = .ok (.istore_n 3, 1) := by decide +kernel
theorem dX11_groundOf_15 : decode cX11_groundOf 15 = .ok (.iload_n 3, 1) := by decide +kernel
theorem dX11_groundOf_16 : decode cX11_groundOf 16 = .ok (.bipush 30, 2) := by decide +kernel
theorem dX11_groundOf_18 : decode cX11_groundOf 18 = .ok (.if_icmp .ge 55, 3) := by decide +kernel
theorem dX11_groundOf_21 : decode cX11_groundOf 21 = .ok (.aload_n 0, 1) := by decide +kernel
theorem dX11_groundOf_22 : decode cX11_groundOf 22 = .ok (.getfield 80, 3) := by decide +kernel
theorem dX11_groundOf_25 : decode cX11_groundOf 25 = .ok (.getfield 182, 3) := by decide +kernel
theorem dX11_groundOf_28 : decode cX11_groundOf 28 = .ok (.iload_n 3, 1) := by decide +kernel
theorem dX11_groundOf_29 : decode cX11_groundOf 29 = .ok (.aaload, 1) := by decide +kernel
theorem dX11_groundOf_30 : decode cX11_groundOf 30 = .ok (.getfield 237, 3) := by decide +kernel
theorem dX11_groundOf_33 : decode cX11_groundOf 33 = .ok (.ifCond .eq 34, 3) := by decide +kernel
theorem dX11_groundOf_36 : decode cX11_groundOf 36 = .ok (.aload_n 0, 1) := by decide +kernel
theorem dX11_groundOf_37 : decode cX11_groundOf 37 = .ok (.getfield 80, 3) := by decide +kernel
theorem dX11_groundOf_40 : decode cX11_groundOf 40 = .ok (.getfield 182, 3) := by decide +kernel
theorem dX11_groundOf_43 : decode cX11_groundOf 43 = .ok (.iload_n 3, 1) := by decide +kernel
theorem dX11_groundOf_44 : decode cX11_groundOf 44 = .ok (.aaload, 1) := by decide +kernel
theorem dX11_groundOf_45 : decode cX11_groundOf 45 = .ok (.getfield 222, 3) := by decide +kernel
theorem dX11_groundOf_48 : decode cX11_groundOf 48 = .ok (.iload_n 1, 1) := by decide +kernel
theorem dX11_groundOf_49 : decode cX11_groundOf 49 = .ok (.if_icmp .ne 18, 3) := by decide +kernel
theorem dX11_groundOf_52 : decode cX11_groundOf 52 = .ok (.iload_n 2, 1) := by decide +kernel
theorem dX11_groundOf_53 : decode cX11_groundOf 53 = .ok (.aload_n 0, 1) := by decide +kernel
theorem dX11_groundOf_54 : decode cX11_groundOf 54 = .ok (.getfield 80, 3) := by decide +kernel
theorem dX11_groundOf_57 : decode cX11_groundOf 57 = .ok (.getfield 182, 3) := by decide +kernel
theorem dX11_groundOf_60 : decode cX11_groundOf 60 = .ok (.iload_n 3, 1) := by decide +kernel
theorem dX11_groundOf_61 : decode cX11_groundOf 61 = .ok (.aaload, 1) := by decide +kernel
theorem dX11_groundOf_62 : decode cX11_groundOf 62 = .ok (.invokevirtual 234, 3) := by decide +kernel
theorem dX11_groundOf_65 : decode cX11_groundOf 65 = .ok (.isub, 1) := by decide +kernel
theorem dX11_groundOf_66 : decode cX11_groundOf 66 = .ok (.istore_n 2, 1) := by decide +kernel
theorem dX11_groundOf_67 : decode cX11_groundOf 67 = .ok (.iinc 3 1, 3) := by decide +kernel
theorem dX11_groundOf_70 : decode cX11_groundOf 70 = .ok (.goto (-55), 3) := by decide +kernel
theorem dX11_groundOf_73 : decode cX11_groundOf 73 = .ok (.iload_n 2, 1) := by decide +kernel
theorem dX11_groundOf_74 : decode cX11_groundOf 74 = .ok (.ireturn, 1) := by decide +kernel
theorem dX11_worthOf_0 : decode cX11_worthOf 0 = .ok (.aload_n 0, 1) := by decide +kernel
theorem dX11_worthOf_1 : decode cX11_worthOf 1 = .ok (.getfield 48, 3) := by decide +kernel
theorem dX11_worthOf_4 : decode cX11_worthOf 4 = .ok (.aload_n 0, 1) := by decide +kernel
theorem dX11_worthOf_5 : decode cX11_worthOf 5 = .ok (.getfield 48, 3) := by decide +kernel
theorem dX11_worthOf_8 : decode cX11_worthOf 8 = .ok (.getfield 241, 3) := by decide +kernel
theorem dX11_worthOf_11 : decode cX11_worthOf 11 = .ok (.aload_n 0, 1) := by decide +kernel
theorem dX11_worthOf_12 : decode cX11_worthOf 12 = .ok (.getfield 80, 3) := by decide +kernel
theorem dX11_worthOf_15 : decode cX11_worthOf 15 = .ok (.getfield 182, 3) := by decide +kernel
theorem dX11_worthOf_18 : decode cX11_worthOf 18 = .ok (.iload_n 1, 1) := by decide +kernel
theorem dX11_worthOf_19 : decode cX11_worthOf 19 = .ok (.aaload, 1) := by decide +kernel
theorem dX11_worthOf_20 : decode cX11_worthOf 20 = .ok (.invokevirtual 244, 3) := by decide +kernel
theorem dX11_worthOf_23 : decode cX11_worthOf 23 = .ok (.istore_n 2, 1) := by decide +kernel
theorem dX11_worthOf_24 : decode cX11_worthOf 24 = .ok (.iconst 0, 1) := by decide +kernel
theorem dX11_worthOf_25 : decode cX11_worthOf 25 = .ok (.istore_n 3, 1) := by decide +kernel
theorem dX11_worthOf_26 : decode cX11_worthOf 26 = .ok (.iload_n 3, 1) := by decide +kernel
theorem dX11_worthOf_27 : decode cX11_worthOf 27 = .ok (.bipush 30, 2) := by decide +kernel
theorem dX11_worthOf_29 : decode cX11_worthOf 29 = .ok (.if_icmp .ge 66, 3) := by decide +kernel
theorem dX11_worthOf_32 : decode cX11_worthOf 32 = .ok (.aload_n 0, 1) := by decide +kernel
theorem dX11_worthOf_33 : decode cX11_worthOf 33 = .ok (.getfield 80, 3) := by decide +kernel
theorem dX11_worthOf_36 : decode cX11_worthOf 36 = .ok (.getfield 182, 3) := by decide +kernel
theorem dX11_worthOf_39 : decode cX11_worthOf 39 = .ok (.iload_n 3, 1) := by decide +kernel
theorem dX11_worthOf_40 : decode cX11_worthOf 40 = .ok (.aaload, 1) := by decide +kernel
theorem dX11_worthOf_41 : decode cX11_worthOf 41 = .ok (.getfield 237, 3) := by decide +kernel
theorem dX11_worthOf_44 : decode cX11_worthOf 44 = .ok (.ifCond .eq 45, 3) := by decide +kernel
theorem dX11_worthOf_47 : decode cX11_worthOf 47 = .ok (.aload_n 0, 1) := by decide +kernel
theorem dX11_worthOf_48 : decode cX11_worthOf 48 = .ok (.getfield 80, 3) := by decide +kernel
theorem dX11_worthOf_51 : decode cX11_worthOf 51 = .ok (.getfield 182, 3) := by decide +kernel
theorem dX11_worthOf_54 : decode cX11_worthOf 54 = .ok (.iload_n 3, 1) := by decide +kernel
theorem dX11_worthOf_55 : decode cX11_worthOf 55 = .ok (.aaload, 1) := by decide +kernel
theorem dX11_worthOf_56 : decode cX11_worthOf 56 = .ok (.getfield 222, 3) := by decide +kernel
theorem dX11_worthOf_59 : decode cX11_worthOf 59 = .ok (.iload_n 1, 1) := by decide +kernel
theorem dX11_worthOf_60 : decode cX11_worthOf 60 = .ok (.if_icmp .ne 29, 3) := by decide +kernel
theorem dX11_worthOf_63 : decode cX11_worthOf 63 = .ok (.iload_n 2, 1) := by decide +kernel
theorem dX11_worthOf_64 : decode cX11_worthOf 64 = .ok (.aload_n 0, 1) := by decide +kernel
theorem dX11_worthOf_65 : decode cX11_worthOf 65 = .ok (.getfield 48, 3) := by decide +kernel
theorem dX11_worthOf_68 : decode cX11_worthOf 68 = .ok (.aload_n 0, 1) := by decide +kernel
theorem dX11_worthOf_69 : decode cX11_worthOf 69 = .ok (.getfield 48, 3) := by decide +kernel
theorem dX11_worthOf_72 : decode cX11_worthOf 72 = .ok (.getfield 241, 3) := by decide +kernel
theorem dX11_worthOf_75 : decode cX11_worthOf 75 = .ok (.aload_n 0, 1) := by decide +kernel
theorem dX11_worthOf_76 : decode cX11_worthOf 76 = .ok (.getfield 80, 3) := by decide +kernel
theorem dX11_worthOf_79 : decode cX11_worthOf 79 = .ok (.getfield 182, 3) := by decide +kernel
theorem dX11_worthOf_82 : decode cX11_worthOf 82 = .ok (.iload_n 3, 1) := by decide +kernel
theorem dX11_worthOf_83 : decode cX11_worthOf 83 = .ok (.aaload, 1) := by decide +kernel
theorem dX11_worthOf_84 : decode cX11_worthOf 84 = .ok (.invokevirtual 244, 3) := by decide +kernel
theorem dX11_worthOf_87 : decode cX11_worthOf 87 = .ok (.isub, 1) := by decide +kernel
theorem dX11_worthOf_88 : decode cX11_worthOf 88 = .ok (.istore_n 2, 1) := by decide +kernel
theorem dX11_worthOf_89 : decode cX11_worthOf 89 = .ok (.iinc 3 1, 3) := by decide +kernel
theorem dX11_worthOf_92 : decode cX11_worthOf 92 = .ok (.goto (-66), 3) := by decide +kernel
theorem dX11_worthOf_95 : decode cX11_worthOf 95 = .ok (.iload_n 2, 1) := by decide +kernel
theorem dX11_worthOf_96 : decode cX11_worthOf 96 = .ok (.ireturn, 1) := by decide +kernel
theorem dX11_cell_0 : decode cX11_cell 0 = .ok (.aload_n 0, 1) := by decide +kernel
theorem dX11_cell_1 : decode cX11_cell 1 = .ok (.getfield 80, 3) := by decide +kernel
theorem dX11_cell_4 : decode cX11_cell 4 = .ok (.iload_n 1, 1) := by decide +kernel
theorem dX11_cell_5 : decode cX11_cell 5 = .ok (.iload_n 2, 1) := by decide +kernel
theorem dX11_cell_6 : decode cX11_cell 6 = .ok (.invokevirtual 248, 3) := by decide +kernel
theorem dX11_cell_9 : decode cX11_cell 9 = .ok (.ifCond .ne 6, 3) := by decide +kernel
theorem dX11_cell_12 : decode cX11_cell 12 = .ok (.bipush (-2), 2) := by decide +kernel
theorem dX11_cell_14 : decode cX11_cell 14 = .ok (.ireturn, 1) := by decide +kernel
theorem dX11_cell_15 : decode cX11_cell 15 = .ok (.aload_n 0, 1) := by decide +kernel
theorem dX11_cell_16 : decode cX11_cell 16 = .ok (.getfield 80, 3) := by decide +kernel
theorem dX11_cell_19 : decode cX11_cell 19 = .ok (.getfield 252, 3) := by decide +kernel
theorem dX11_cell_22 : decode cX11_cell 22 = .ok (.iload_n 2, 1) := by decide +kernel
theorem dX11_cell_23 : decode cX11_cell 23 = .ok (.bipush 40, 2) := by decide +kernel
theorem dX11_cell_25 : decode cX11_cell 25 = .ok (.imul, 1) := by decide +kernel
theorem dX11_cell_26 : decode cX11_cell 26 = .ok (.iload_n 1, 1) := by decide +kernel
theorem dX11_cell_27 : decode cX11_cell 27 = .ok (.iadd, 1) := by decide +kernel
theorem dX11_cell_28 : decode cX11_cell 28 = .ok (.iaload, 1) := by decide +kernel
theorem dX11_cell_29 : decode cX11_cell 29 = .ok (.istore 4, 2) := by decide +kernel
theorem dX11_cell_31 : decode cX11_cell 31 = .ok (.iload_n 3, 1) := by decide +kernel
theorem dX11_cell_32 : decode cX11_cell 32 = .ok (.tableswitch 78 0 3 #[32, 38, 53, 68], 32) := by decide +kernel
theorem dX11_cell_64 : decode cX11_cell 64 = .ok (.iload 4, 2) := by decide +kernel
theorem dX11_cell_66 : decode cX11_cell 66 = .ok (.bipush 127, 2) := by decide +kernel
theorem dX11_cell_68 : decode cX11_cell 68 = .ok (.iand, 1) := by decide +kernel
theorem dX11_cell_69 : decode cX11_cell 69 = .ok (.ireturn, 1) := by decide +kernel
theorem dX11_cell_70 : decode cX11_cell 70 = .ok (.iload 4, 2) := by decide +kernel
theorem dX11_cell_72 : decode cX11_cell 72 = .ok (.sipush 128, 3) := by decide +kernel
theorem dX11_cell_75 : decode cX11_cell 75 = .ok (.iand, 1) := by decide +kernel
theorem dX11_cell_76 : decode cX11_cell 76 = .ok (.ifCond .eq 7, 3) := by decide +kernel
theorem dX11_cell_79 : decode cX11_cell 79 = .ok (.iconst 1, 1) := by decide +kernel
theorem dX11_cell_80 : decode cX11_cell 80 = .ok (.goto 4, 3) := by decide +kernel
theorem dX11_cell_83 : decode cX11_cell 83 = .ok (.iconst 0, 1) := by decide +kernel
theorem dX11_cell_84 : decode cX11_cell 84 = .ok (.ireturn, 1) := by decide +kernel
theorem dX11_cell_85 : decode cX11_cell 85 = .ok (.iload 4, 2) := by decide +kernel
theorem dX11_cell_87 : decode cX11_cell 87 = .ok (.sipush 256, 3) := by decide +kernel
theorem dX11_cell_90 : decode cX11_cell 90 = .ok (.iand, 1) := by decide +kernel
theorem dX11_cell_91 : decode cX11_cell 91 = .ok (.ifCond .eq 7, 3) := by decide +kernel
theorem dX11_cell_94 : decode cX11_cell 94 = .ok (.iconst 1, 1) := by decide +kernel
theorem dX11_cell_95 : decode cX11_cell 95 = .ok (.goto 4, 3) := by decide +kernel
theorem dX11_cell_98 : decode cX11_cell 98 = .ok (.iconst 0, 1) := by decide +kernel
theorem dX11_cell_99 : decode cX11_cell 99 = .ok (.ireturn, 1) := by decide +kernel
theorem dX11_cell_100 : decode cX11_cell 100 = .ok (.aload_n 0, 1) := by decide +kernel
theorem dX11_cell_101 : decode cX11_cell 101 = .ok (.getfield 80, 3) := by decide +kernel
theorem dX11_cell_104 : decode cX11_cell 104 = .ok (.iload_n 1, 1) := by decide +kernel
theorem dX11_cell_105 : decode cX11_cell 105 = .ok (.iload_n 2, 1) := by decide +kernel
theorem dX11_cell_106 : decode cX11_cell 106 = .ok (.invokevirtual 255, 3) := by decide +kernel
theorem dX11_cell_109 : decode cX11_cell 109 = .ok (.ireturn, 1) := by decide +kernel
theorem dX11_cell_110 : decode cX11_cell 110 = .ok (.bipush (-2), 2) := by decide +kernel
theorem dX11_cell_112 : decode cX11_cell 112 = .ok (.ireturn, 1) := by decide +kernel
theorem dX11_inside_0 : decode cX11_inside 0 = .ok (.aload_n 0, 1) := by decide +kernel
theorem dX11_inside_1 : decode cX11_inside 1 = .ok (.getfield 80, 3) := by decide +kernel
theorem dX11_inside_4 : decode cX11_inside 4 = .ok (.iload_n 1, 1) := by decide +kernel
theorem dX11_inside_5 : decode cX11_inside 5 = .ok (.invokevirtual 204, 3) := by decide +kernel
theorem dX11_inside_8 : decode cX11_inside 8 = .ok (.ifCond .eq 14, 3) := by decide +kernel
theorem dX11_inside_11 : decode cX11_inside 11 = .ok (.aload_n 0, 1) := by decide +kernel
theorem dX11_inside_12 : decode cX11_inside 12 = .ok (.getfield 80, 3) := by decide +kernel
theorem dX11_inside_15 : decode cX11_inside 15 = .ok (.iload_n 2, 1) := by decide +kernel
theorem dX11_inside_16 : decode cX11_inside 16 = .ok (.invokevirtual 204, 3) := by decide +kernel
theorem dX11_inside_19 : decode cX11_inside 19 = .ok (.ifCond .ne 5, 3) := by decide +kernel
theorem dX11_inside_22 : decode cX11_inside 22 = .ok (.iconst (-1), 1) := by decide +kernel
theorem dX11_inside_23 : decode cX11_inside 23 = .ok (.ireturn, 1) := by decide +kernel
theorem dX11_inside_24 : decode cX11_inside 24 = .ok (.aload_n 0, 1) := by decide +kernel
theorem dX11_inside_25 : decode cX11_inside 25 = .ok (.getfield 80, 3) := by decide +kernel
theorem dX11_inside_28 : decode cX11_inside 28 = .ok (.iload_n 1, 1) := by decide +kernel
theorem dX11_inside_29 : decode cX11_inside 29 = .ok (.iload_n 2, 1) := by decide +kernel
theorem dX11_inside_30 : decode cX11_inside 30 = .ok (.invokevirtual 259, 3) := by decide +kernel
theorem dX11_inside_33 : decode cX11_inside 33 = .ok (.ifCond .eq 7, 3) := by decide +kernel
theorem dX11_inside_36 : decode cX11_inside 36 = .ok (.iconst 1, 1) := by decide +kernel
theorem dX11_inside_37 : decode cX11_inside 37 = .ok (.goto 4, 3) := by decide +kernel
theorem dX11_inside_40 : decode cX11_inside 40 = .ok (.iconst 0, 1) := by decide +kernel
theorem dX11_inside_41 : decode cX11_inside 41 = .ok (.ireturn, 1) := by decide +kernel
theorem dX11_nests_0 : decode cX11_nests 0 = .ok (.iload_n 1, 1) := by decide +kernel
theorem dX11_nests_1 : decode cX11_nests 1 = .ok (.tableswitch 96 0 4 #[35, 43, 51, 59, 88], 35) := by decide +kernel
theorem dX11_nests_36 : decode cX11_nests 36 = .ok (.aload_n 0, 1) := by decide +kernel
theorem dX11_nests_37 : decode cX11_nests 37 = .ok (.getfield 80, 3) := by decide +kernel
theorem dX11_nests_40 : decode cX11_nests 40 = .ok (.invokevirtual 262, 3) := by decide +kernel
theorem dX11_nests_43 : decode cX11_nests 43 = .ok (.ireturn, 1) := by decide +kernel
theorem dX11_nests_44 : decode cX11_nests 44 = .ok (.aload_n 0, 1) := by decide +kernel
theorem dX11_nests_45 : decode cX11_nests 45 = .ok (.getfield 80, 3) := by decide +kernel
theorem dX11_nests_48 : decode cX11_nests 48 = .ok (.invokevirtual 265, 3) := by decide +kernel
theorem dX11_nests_51 : decode cX11_nests 51 = .ok (.ireturn, 1) := by decide +kernel
theorem dX11_nests_52 : decode cX11_nests 52 = .ok (.aload_n 0, 1) := by decide +kernel
theorem dX11_nests_53 : decode cX11_nests 53 = .ok (.getfield 80, 3) := by decide +kernel
theorem dX11_nests_56 : decode cX11_nests 56 = .ok (.invokevirtual 268, 3) := by decide +kernel
theorem dX11_nests_59 : decode cX11_nests 59 = .ok (.ireturn, 1) := by decide +kernel
theorem dX11_nests_60 : decode cX11_nests 60 = .ok (.aload_n 0, 1) := by decide +kernel
theorem dX11_nests_61 : decode cX11_nests 61 = .ok (.getfield 80, 3) := by decide +kernel
theorem dX11_nests_64 : decode cX11_nests 64 = .ok (.getfield 113, 3) := by decide +kernel
theorem dX11_nests_67 : decode cX11_nests 67 = .ok (.ifCond .ne 7, 3) := by decide +kernel
theorem dX11_nests_70 : decode cX11_nests 70 = .ok (.iconst (-1), 1) := by decide +kernel
theorem dX11_nests_71 : decode cX11_nests 71 = .ok (.goto 17, 3) := by decide +kernel
theorem dX11_nests_74 : decode cX11_nests 74 = .ok (.aload_n 0, 1) := by decide +kernel
theorem dX11_nests_75 : decode cX11_nests 75 = .ok (.getfield 80, 3) := by decide +kernel
theorem dX11_nests_78 : decode cX11_nests 78 = .ok (.aload_n 0, 1) := by decide +kernel
theorem dX11_nests_79 : decode cX11_nests 79 = .ok (.getfield 80, 3) := by decide +kernel
theorem dX11_nests_82 : decode cX11_nests 82 = .ok (.invokevirtual 268, 3) := by decide +kernel
theorem dX11_nests_85 : decode cX11_nests 85 = .ok (.invokevirtual 271, 3) := by decide +kernel
theorem dX11_nests_88 : decode cX11_nests 88 = .ok (.ireturn, 1) := by decide +kernel
theorem dX11_nests_89 : decode cX11_nests 89 = .ok (.aload_n 0, 1) := by decide +kernel
theorem dX11_nests_90 : decode cX11_nests 90 = .ok (.getfield 80, 3) := by decide +kernel
theorem dX11_nests_93 : decode cX11_nests 93 = .ok (.invokevirtual 274, 3) := by decide +kernel
theorem dX11_nests_96 : decode cX11_nests 96 = .ok (.ireturn, 1) := by decide +kernel
theorem dX11_nests_97 : decode cX11_nests 97 = .ok (.iconst (-1), 1) := by decide +kernel
theorem dX11_nests_98 : decode cX11_nests 98 = .ok (.ireturn, 1) := by decide +kernel
theorem dX11_between_0 : decode cX11_between 0 = .ok (.iload_n 1, 1) := by decide +kernel
theorem dX11_between_1 : decode cX11_between 1 = .ok (.iload_n 2, 1) := by decide +kernel
theorem dX11_between_2 : decode cX11_between 2 = .ok (.if_icmp .eq 47, 3) := by decide +kernel
theorem dX11_between_5 : decode cX11_between 5 = .ok (.aload_n 0, 1) := by decide +kernel
theorem dX11_between_6 : decode cX11_between 6 = .ok (.getfield 80, 3) := by decide +kernel
theorem dX11_between_9 : decode cX11_between 9 = .ok (.iload_n 1, 1) := by decide +kernel
theorem dX11_between_10 : decode cX11_between 10 = .ok (.invokevirtual 204, 3) := by decide +kernel
theorem dX11_between_13 : decode cX11_between 13 = .ok (.ifCond .eq 36, 3) := by decide +kernel
theorem dX11_between_16 : decode cX11_between 16 = .ok (.aload_n 0, 1) := by decide +kernel
theorem dX11_between_17 : decode cX11_between 17 = .ok (.getfield 80, 3) := by decide +kernel
theorem dX11_between_20 : decode cX11_between 20 = .ok (.iload_n 2, 1) := by decide +kernel
theorem dX11_between_21 : decode cX11_between 21 = .ok (.invokevirtual 204, 3) := by decide +kernel
theorem dX11_between_24 : decode cX11_between 24 = .ok (.ifCond .eq 25, 3) := by decide +kernel
theorem dX11_between_27 : decode cX11_between 27 = .ok (.aload_n 0, 1) := by decide +kernel
theorem dX11_between_28 : decode cX11_between 28 = .ok (.getfield 80, 3) := by decide +kernel
theorem dX11_between_31 : decode cX11_between 31 = .ok (.iload_n 1, 1) := by decide +kernel
theorem dX11_between_32 : decode cX11_between 32 = .ok (.invokevirtual 277, 3) := by decide +kernel
theorem dX11_between_35 : decode cX11_between 35 = .ok (.ifCond .eq 14, 3) := by decide +kernel
theorem dX11_between_38 : decode cX11_between 38 = .ok (.aload_n 0, 1) := by decide +kernel
theorem dX11_between_39 : decode cX11_between 39 = .ok (.getfield 80, 3) := by decide +kernel
theorem dX11_between_42 : decode cX11_between 42 = .ok (.iload_n 2, 1) := by decide +kernel
theorem dX11_between_43 : decode cX11_between 43 = .ok (.invokevirtual 277, 3) := by decide +kernel
theorem dX11_between_46 : decode cX11_between 46 = .ok (.ifCond .ne 5, 3) := by decide +kernel
theorem dX11_between_49 : decode cX11_between 49 = .ok (.iconst (-1), 1) := by decide +kernel
theorem dX11_between_50 : decode cX11_between 50 = .ok (.ireturn, 1) := by decide +kernel
theorem dX11_between_51 : decode cX11_between 51 = .ok (.aload_n 0, 1) := by decide +kernel
theorem dX11_between_52 : decode cX11_between 52 = .ok (.getfield 80, 3) := by decide +kernel
theorem dX11_between_55 : decode cX11_between 55 = .ok (.getfield 182, 3) := by decide +kernel
theorem dX11_between_58 : decode cX11_between 58 = .ok (.iload_n 1, 1) := by decide +kernel
theorem dX11_between_59 : decode cX11_between 59 = .ok (.aaload, 1) := by decide +kernel
theorem dX11_between_60 : decode cX11_between 60 = .ok (.astore_n 3, 1) := by decide +kernel
theorem dX11_between_61 : decode cX11_between 61 = .ok (.aload_n 0, 1) := by decide +kernel
theorem dX11_between_62 : decode cX11_between 62 = .ok (.getfield 80, 3) := by decide +kernel
theorem dX11_between_65 : decode cX11_between 65 = .ok (.getfield 182, 3) := by decide +kernel
theorem dX11_between_68 : decode cX11_between 68 = .ok (.iload_n 2, 1) := by decide +kernel
theorem dX11_between_69 : decode cX11_between 69 = .ok (.aaload, 1) := by decide +kernel
theorem dX11_between_70 : decode cX11_between 70 = .ok (.astore 4, 2) := by decide +kernel
theorem dX11_between_72 : decode cX11_between 72 = .ok (.aload_n 0, 1) := by decide +kernel
theorem dX11_between_73 : decode cX11_between 73 = .ok (.getfield 62, 3) := by decide +kernel
theorem dX11_between_76 : decode cX11_between 76 = .ok (.aload_n 3, 1) := by decide +kernel
theorem dX11_between_77 : decode cX11_between 77 = .ok (.aload 4, 2) := by decide +kernel
theorem dX11_between_79 : decode cX11_between 79 = .ok (.invokevirtual 280, 3) := by decide +kernel
theorem dX11_between_82 : decode cX11_between 82 = .ok (.aload_n 0, 1) := by decide +kernel
theorem dX11_between_83 : decode cX11_between 83 = .ok (.getfield 62, 3) := by decide +kernel
theorem dX11_between_86 : decode cX11_between 86 = .ok (.iconst 1, 1) := by decide +kernel
theorem dX11_between_87 : decode cX11_between 87 = .ok (.iconst 1, 1) := by decide +kernel
theorem dX11_between_88 : decode cX11_between 88 = .ok (.iconst 1, 1) := by decide +kernel
theorem dX11_between_89 : decode cX11_between 89 = .ok (.iconst 1, 1) := by decide +kernel
theorem dX11_between_90 : decode cX11_between 90 = .ok (.invokevirtual 284, 3) := by decide +kernel
theorem dX11_between_93 : decode cX11_between 93 = .ok (.aload_n 0, 1) := by decide +kernel
theorem dX11_between_94 : decode cX11_between 94 = .ok (.getfield 80, 3) := by decide +kernel
theorem dX11_between_97 : decode cX11_between 97 = .ok (.aload_n 0, 1) := by decide +kernel
theorem dX11_between_98 : decode cX11_between 98 = .ok (.getfield 62, 3) := by decide +kernel
theorem dX11_between_101 : decode cX11_between 101 = .ok (.invokevirtual 288, 3) := by decide +kernel
theorem dX11_between_104 : decode cX11_between 104 = .ok (.ifCond .ne 6, 3) := by decide +kernel
theorem dX11_between_107 : decode cX11_between 107 = .ok (.bipush (-2), 2) := by decide +kernel
theorem dX11_between_109 : decode cX11_between 109 = .ok (.ireturn, 1) := by decide +kernel
theorem dX11_between_110 : decode cX11_between 110 = .ok (.aload_n 0, 1) := by decide +kernel
theorem dX11_between_111 : decode cX11_between 111 = .ok (.getfield 62, 3) := by decide +kernel
theorem dX11_between_114 : decode cX11_between 114 = .ok (.invokevirtual 291, 3) := by decide +kernel
theorem dX11_between_117 : decode cX11_between 117 = .ok (.aload_n 3, 1) := by decide +kernel
theorem dX11_between_118 : decode cX11_between 118 = .ok (.invokevirtual 234, 3) := by decide +kernel
theorem dX11_between_121 : decode cX11_between 121 = .ok (.isub, 1) := by decide +kernel
theorem dX11_between_122 : decode cX11_between 122 = .ok (.aload 4, 2) := by decide +kernel
theorem dX11_between_124 : decode cX11_between 124 = .ok (.invokevirtual 234, 3) := by decide +kernel
theorem dX11_between_127 : decode cX11_between 127 = .ok (.isub, 1) := by decide +kernel
theorem dX11_between_128 : decode cX11_between 128 = .ok (.ireturn, 1) := by decide +kernel
theorem dX11_count_0 : decode cX11_count 0 = .ok (.iload_n 1, 1) := by decide +kernel
theorem dX11_count_1 : decode cX11_count 1 = .ok (.tableswitch 117 0 8 #[51, 59, 67, 75, 83, 91, 99, 104, 109], 51) := by decide +kernel
theorem dX11_count_52 : decode cX11_count 52 = .ok (.aload_n 0, 1) := by decide +kernel
theorem dX11_count_53 : decode cX11_count 53 = .ok (.getfield 80, 3) := by decide +kernel
theorem dX11_count_56 : decode cX11_count 56 = .ok (.getfield 292, 3) := by decide +kernel
theorem dX11_count_59 : decode cX11_count 59 = .ok (.ireturn, 1) := by decide +kernel
theorem dX11_count_60 : decode cX11_count 60 = .ok (.aload_n 0, 1) := by decide +kernel
theorem dX11_count_61 : decode cX11_count 61 = .ok (.getfield 80, 3) := by decide +kernel
theorem dX11_count_64 : decode cX11_count 64 = .ok (.getfield 295, 3) := by decide +kernel
theorem dX11_count_67 : decode cX11_count 67 = .ok (.ireturn, 1) := by decide +kernel
theorem dX11_count_68 : decode cX11_count 68 = .ok (.aload_n 0, 1) := by decide +kernel
theorem dX11_count_69 : decode cX11_count 69 = .ok (.getfield 80, 3) := by decide +kernel
theorem dX11_count_72 : decode cX11_count 72 = .ok (.getfield 113, 3) := by decide +kernel
theorem dX11_count_75 : decode cX11_count 75 = .ok (.ireturn, 1) := by decide +kernel
theorem dX11_count_76 : decode cX11_count 76 = .ok (.aload_n 0, 1) := by decide +kernel
theorem dX11_count_77 : decode cX11_count 77 = .ok (.getfield 80, 3) := by decide +kernel
theorem dX11_count_80 : decode cX11_count 80 = .ok (.invokevirtual 298, 3) := by decide +kernel
theorem dX11_count_83 : decode cX11_count 83 = .ok (.ireturn, 1) := by decide +kernel
theorem dX11_count_84 : decode cX11_count 84 = .ok (.aload_n 0, 1) := by decide +kernel
theorem dX11_count_85 : decode cX11_count 85 = .ok (.getfield 80, 3) := by decide +kernel
theorem dX11_count_88 : decode cX11_count 88 = .ok (.getfield 301, 3) := by decide +kernel
theorem dX11_count_91 : decode cX11_count 91 = .ok (.ireturn, 1) := by decide +kernel
theorem dX11_count_92 : decode cX11_count 92 = .ok (.aload_n 0, 1) := by decide +kernel
theorem dX11_count_93 : decode cX11_count 93 = .ok (.getfield 80, 3) := by decide +kernel
theorem dX11_count_96 : decode cX11_count 96 = .ok (.getfield 304, 3) := by decide +kernel
theorem dX11_count_99 : decode cX11_count 99 = .ok (.ireturn, 1) := by decide +kernel
theorem dX11_count_100 : decode cX11_count 100 = .ok (.aload_n 0, 1) := by decide +kernel
theorem dX11_count_101 : decode cX11_count 101 = .ok (.getfield 116, 3) := by decide +kernel
theorem dX11_count_104 : decode cX11_count 104 = .ok (.ireturn, 1) := by decide +kernel
theorem dX11_count_105 : decode cX11_count 105 = .ok (.aload_n 0, 1) := by decide +kernel
theorem dX11_count_106 : decode cX11_count 106 = .ok (.getfield 122, 3) := by decide +kernel
theorem dX11_count_109 : decode cX11_count 109 = .ok (.ireturn, 1) := by decide +kernel
theorem dX11_count_110 : decode cX11_count 110 = .ok (.aload_n 0, 1) := by decide +kernel
theorem dX11_count_111 : decode cX11_count 111 = .ok (.getfield 12, 3) := by decide +kernel
theorem dX11_count_114 : decode cX11_count 114 = .ok (.getfield 95, 3) := by decide +kernel
theorem dX11_count_117 : decode cX11_count 117 = .ok (.ireturn, 1) := by decide +kernel
theorem dX11_count_118 : decode cX11_count 118 = .ok (.iconst (-1), 1) := by decide +kernel
theorem dX11_count_119 : decode cX11_count 119 = .ok (.ireturn, 1) := by decide +kernel
theorem dX11_fits_0 : decode cX11_fits 0 = .ok (.aload_n 0, 1) := by decide +kernel
theorem dX11_fits_1 : decode cX11_fits 1 = .ok (.getfield 80, 3) := by decide +kernel
theorem dX11_fits_4 : decode cX11_fits 4 = .ok (.aload_n 1, 1) := by decide +kernel
theorem dX11_fits_5 : decode cX11_fits 5 = .ok (.invokevirtual 288, 3) := by decide +kernel
theorem dX11_fits_8 : decode cX11_fits 8 = .ok (.ifCond .eq 17, 3) := by decide +kernel
theorem dX11_fits_11 : decode cX11_fits 11 = .ok (.aload_n 0, 1) := by decide +kernel
theorem dX11_fits_12 : decode cX11_fits 12 = .ok (.getfield 80, 3) := by decide +kernel
theorem dX11_fits_15 : decode cX11_fits 15 = .ok (.aload_n 1, 1) := by decide +kernel
theorem dX11_fits_16 : decode cX11_fits 16 = .ok (.getfield 307, 3) := by decide +kernel
theorem dX11_fits_19 : decode cX11_fits 19 = .ok (.invokevirtual 277, 3) := by decide +kernel
theorem dX11_fits_22 : decode cX11_fits 22 = .ok (.ifCond .ne 5, 3) := by decide +kernel
theorem dX11_fits_25 : decode cX11_fits 25 = .ok (.iconst 0, 1) := by decide +kernel
theorem dX11_fits_26 : decode cX11_fits 26 = .ok (.ireturn, 1) := by decide +kernel
theorem dX11_fits_27 : decode cX11_fits 27 = .ok (.aload_n 1, 1) := by decide +kernel
theorem dX11_fits_28 : decode cX11_fits 28 = .ok (.aload_n 1, 1) := by decide +kernel
theorem dX11_fits_29 : decode cX11_fits 29 = .ok (.aload_n 0, 1) := by decide +kernel
theorem dX11_fits_30 : decode cX11_fits 30 = .ok (.getfield 80, 3) := by decide +kernel
theorem dX11_fits_33 : decode cX11_fits 33 = .ok (.getfield 182, 3) := by decide +kernel
theorem dX11_fits_36 : decode cX11_fits 36 = .ok (.aload_n 1, 1) := by decide +kernel
theorem dX11_fits_37 : decode cX11_fits 37 = .ok (.getfield 307, 3) := by decide +kernel
theorem dX11_fits_40 : decode cX11_fits 40 = .ok (.aaload, 1) := by decide +kernel
theorem dX11_fits_41 : decode cX11_fits 41 = .ok (.invokevirtual 310, 3) := by decide +kernel
theorem dX11_fits_44 : decode cX11_fits 44 = .ok (.putfield 314, 3) := by decide +kernel
theorem dX11_fits_47 : decode cX11_fits 47 = .ok (.aload_n 1, 1) := by decide +kernel
theorem dX11_fits_48 : decode cX11_fits 48 = .ok (.getfield 317, 3) := by decide +kernel
theorem dX11_fits_51 : decode cX11_fits 51 = .ok (.iconst (-1), 1) := by decide +kernel
theorem dX11_fits_52 : decode cX11_fits 52 = .ok (.if_icmp .eq 57, 3) := by decide +kernel
theorem dX11_fits_55 : decode cX11_fits 55 = .ok (.aload_n 1, 1) := by decide +kernel
theorem dX11_fits_56 : decode cX11_fits 56 = .ok (.getfield 317, 3) := by decide +kernel
theorem dX11_fits_59 : decode cX11_fits 59 = .ok (.aload_n 1, 1) := by decide +kernel
theorem dX11_fits_60 : decode cX11_fits 60 = .ok (.getfield 307, 3) := by decide +kernel
theorem dX11_fits_63 : decode cX11_fits 63 = .ok (.if_icmp .eq 17, 3) := by decide +kernel
theorem dX11_fits_66 : decode cX11_fits 66 = .ok (.aload_n 0, 1) := by decide +kernel
theorem dX11_fits_67 : decode cX11_fits 67 = .ok (.getfield 80, 3) := by decide +kernel
theorem dX11_fits_70 : decode cX11_fits 70 = .ok (.aload_n 1, 1) := by decide +kernel
theorem dX11_fits_71 : decode cX11_fits 71 = .ok (.getfield 317, 3) := by decide +kernel
theorem dX11_fits_74 : decode cX11_fits 74 = .ok (.invokevirtual 277, 3) := by decide +kernel
theorem dX11_fits_77 : decode cX11_fits 77 = .ok (.ifCond .ne 5, 3) := by decide +kernel
theorem dX11_fits_80 : decode cX11_fits 80 = .ok (.iconst 0, 1) := by decide +kernel
theorem dX11_fits_81 : decode cX11_fits 81 = .ok (.ireturn, 1) := by decide +kernel
theorem dX11_fits_82 : decode cX11_fits 82 = .ok (.aload_n 1, 1) := by decide +kernel
theorem dX11_fits_83 : decode cX11_fits 83 = .ok (.aload_n 1, 1) := by decide +kernel
theorem dX11_fits_84 : decode cX11_fits 84 = .ok (.getfield 314, 3) := by decide +kernel
theorem dX11_fits_87 : decode cX11_fits 87 = .ok (.aload_n 1, 1) := by decide +kernel
theorem dX11_fits_88 : decode cX11_fits 88 = .ok (.aload_n 0, 1) := by decide +kernel
theorem dX11_fits_89 : decode cX11_fits 89 = .ok (.getfield 80, 3) := by decide +kernel
theorem dX11_fits_92 : decode cX11_fits 92 = .ok (.getfield 182, 3) := by decide +kernel
theorem dX11_fits_95 : decode cX11_fits 95 = .ok (.aload_n 1, 1) := by decide +kernel
theorem dX11_fits_96 : decode cX11_fits 96 = .ok (.getfield 317, 3) := by decide +kernel
theorem dX11_fits_99 : decode cX11_fits 99 = .ok (.aaload, 1) := by decide +kernel
theorem dX11_fits_100 : decode cX11_fits 100 = .ok (.invokevirtual 310, 3) := by decide +kernel
theorem dX11_fits_103 : decode cX11_fits 103 = .ok (.invokestatic 320, 3) := by decide +kernel
theorem dX11_fits_106 : decode cX11_fits 106 = .ok (.putfield 314, 3) := by decide +kernel
theorem dX11_fits_109 : decode cX11_fits 109 = .ok (.aload_n 1, 1) := by decide +kernel
theorem dX11_fits_110 : decode cX11_fits 110 = .ok (.getfield 314, 3) := by decide +kernel
theorem dX11_fits_113 : decode cX11_fits 113 = .ok (.ifCond .lt 7, 3) := by decide +kernel
theorem dX11_fits_116 : decode cX11_fits 116 = .ok (.iconst 1, 1) := by decide +kernel
theorem dX11_fits_117 : decode cX11_fits 117 = .ok (.goto 4, 3) := by decide +kernel
theorem dX11_fits_120 : decode cX11_fits 120 = .ok (.iconst 0, 1) := by decide +kernel
theorem dX11_fits_121 : decode cX11_fits 121 = .ok (.ireturn, 1) := by decide +kernel
theorem dX11_mayCome_0 : decode cX11_mayCome 0 = .ok (.aload_n 0, 1) := by decide +kernel
theorem dX11_mayCome_1 : decode cX11_mayCome 1 = .ok (.aload_n 2, 1) := by decide +kernel
theorem dX11_mayCome_2 : decode cX11_mayCome 2 = .ok (.invokevirtual 160, 3) := by decide +kernel
theorem dX11_mayCome_5 : decode cX11_mayCome 5 = .ok (.ifCond .eq 26, 3) := by decide +kernel
theorem dX11_mayCome_8 : decode cX11_mayCome 8 = .ok (.aload_n 2, 1) := by decide +kernel
theorem dX11_mayCome_9 : decode cX11_mayCome 9 = .ok (.getfield 314, 3) := by decide +kernel
theorem dX11_mayCome_12 : decode cX11_mayCome 12 = .ok (.iconst 1, 1) := by decide +kernel
theorem dX11_mayCome_13 : decode cX11_mayCome 13 = .ok (.if_icmp .lt 18, 3) := by decide +kernel
theorem dX11_mayCome_16 : decode cX11_mayCome 16 = .ok (.aload_n 2, 1) := by decide +kernel
theorem dX11_mayCome_17 : decode cX11_mayCome 17 = .ok (.getfield 317, 3) := by decide +kernel
theorem dX11_mayCome_20 : decode cX11_mayCome 20 = .ok (.iconst (-1), 1) := by decide +kernel
theorem dX11_mayCome_21 : decode cX11_mayCome 21 = .ok (.if_icmp .eq 12, 3) := by decide +kernel
theorem dX11_mayCome_24 : decode cX11_mayCome 24 = .ok (.aload_n 1, 1) := by decide +kernel
theorem dX11_mayCome_25 : decode cX11_mayCome 25 = .ok (.getfield 325, 3) := by decide +kernel
theorem dX11_mayCome_28 : decode cX11_mayCome 28 = .ok (.ifCond .ne 5, 3) := by decide +kernel
theorem dX11_mayCome_31 : decode cX11_mayCome 31 = .ok (.iconst 0, 1) := by decide +kernel
theorem dX11_mayCome_32 : decode cX11_mayCome 32 = .ok (.ireturn, 1) := by decide +kernel
theorem dX11_mayCome_33 : decode cX11_mayCome 33 = .ok (.aload_n 0, 1) := by decide +kernel
theorem dX11_mayCome_34 : decode cX11_mayCome 34 = .ok (.aload_n 2, 1) := by decide +kernel
theorem dX11_mayCome_35 : decode cX11_mayCome 35 = .ok (.invokevirtual 328, 3) := by decide +kernel
theorem dX11_mayCome_38 : decode cX11_mayCome 38 = .ok (.ifCond .eq 14, 3) := by decide +kernel
theorem dX11_mayCome_41 : decode cX11_mayCome 41 = .ok (.aload_n 0, 1) := by decide +kernel
theorem dX11_mayCome_42 : decode cX11_mayCome 42 = .ok (.getfield 48, 3) := by decide +kernel
theorem dX11_mayCome_45 : decode cX11_mayCome 45 = .ok (.aload_n 2, 1) := by decide +kernel
theorem dX11_mayCome_46 : decode cX11_mayCome 46 = .ok (.invokevirtual 331, 3) := by decide +kernel
theorem dX11_mayCome_49 : decode cX11_mayCome 49 = .ok (.ifCond .eq 5, 3) := by decide +kernel
theorem dX11_mayCome_52 : decode cX11_mayCome 52 = .ok (.iconst 0, 1) := by decide +kernel
theorem dX11_mayCome_53 : decode cX11_mayCome 53 = .ok (.ireturn, 1) := by decide +kernel
theorem dX11_mayCome_54 : decode cX11_mayCome 54 = .ok (.aload_n 0, 1) := by decide +kernel
theorem dX11_mayCome_55 : decode cX11_mayCome 55 = .ok (.aload_n 2, 1) := by decide +kernel
theorem dX11_mayCome_56 : decode cX11_mayCome 56 = .ok (.invokevirtual 164, 3) := by decide +kernel
theorem dX11_mayCome_59 : decode cX11_mayCome 59 = .ok (.aload_n 2, 1) := by decide +kernel
theorem dX11_mayCome_60 : decode cX11_mayCome 60 = .ok (.getfield 314, 3) := by decide +kernel
theorem dX11_mayCome_63 : decode cX11_mayCome 63 = .ok (.aload_n 1, 1) := by decide +kernel
theorem dX11_mayCome_64 : decode cX11_mayCome 64 = .ok (.aload_n 2, 1) := by decide +kernel
theorem dX11_mayCome_65 : decode cX11_mayCome 65 = .ok (.getfield 168, 3) := by decide +kernel
theorem dX11_mayCome_68 : decode cX11_mayCome 68 = .ok (.invokevirtual 334, 3) := by decide +kernel
theorem dX11_mayCome_71 : decode cX11_mayCome 71 = .ok (.if_icmp .lt 18, 3) := by decide +kernel
theorem dX11_mayCome_74 : decode cX11_mayCome 74 = .ok (.aload_n 1, 1) := by decide +kernel
theorem dX11_mayCome_75 : decode cX11_mayCome 75 = .ok (.aload_n 2, 1) := by decide +kernel
theorem dX11_mayCome_76 : decode cX11_mayCome 76 = .ok (.getfield 168, 3) := by decide +kernel
theorem dX11_mayCome_79 : decode cX11_mayCome 79 = .ok (.invokevirtual 338, 3) := by decide +kernel
theorem dX11_mayCome_82 : decode cX11_mayCome 82 = .ok (.ifCond .eq 7, 3) := by decide +kernel
theorem dX11_mayCome_85 : decode cX11_mayCome 85 = .ok (.iconst 1, 1) := by decide +kernel
theorem dX11_mayCome_86 : decode cX11_mayCome 86 = .ok (.goto 4, 3) := by decide +kernel
theorem dX11_mayCome_89 : decode cX11_mayCome 89 = .ok (.iconst 0, 1) := by decide +kernel
theorem dX11_mayCome_90 : decode cX11_mayCome 90 = .ok (.ireturn, 1) := by decide +kernel
theorem dX11_isClearOfOthers_0 : decode cX11_isClearOfOthers 0 = .ok (.iconst 0, 1) := by decide +kernel
theorem dX11_isClearOfOthers_1 : decode cX11_isClearOfOthers 1 = .ok (.istore_n 2, 1) := by decide +kernel
theorem dX11_isClearOfOthers_2 : decode cX11_isClearOfOthers 2 = .ok (.iload_n 2, 1) := by decide +kernel
theorem dX11_isClearOfOthers_3 : decode cX11_isClearOfOthers 3 = .ok (.bipush 31, 2) := by decide +kernel
theorem dX11_isClearOfOthers_5 : decode cX11_isClearOfOthers 5 = .ok (.if_icmp .ge 54, 3) := by decide +kernel
theorem dX11_isClearOfOthers_8 : decode cX11_isClearOfOthers 8 = .ok (.iload_n 2, 1) := by decide +kernel
theorem dX11_isClearOfOthers_9 : decode cX11_isClearOfOthers 9 = .ok (.aload_n 1, 1) := by decide +kernel
theorem dX11_isClearOfOthers_10 : decode cX11_isClearOfOthers 10 = .ok (.getfield 307, 3) := by decide +kernel
theorem dX11_isClearOfOthers_13 : decode cX11_isClearOfOthers 13 = .ok (.if_icmp .eq 40, 3) := by decide +kernel
theorem dX11_isClearOfOthers_16 : decode cX11_isClearOfOthers 16 = .ok (.iload_n 2, 1) := by decide +kernel
theorem dX11_isClearOfOthers_17 : decode cX11_isClearOfOthers 17 = .ok (.aload_n 1, 1) := by decide +kernel
theorem dX11_isClearOfOthers_18 : decode cX11_isClearOfOthers 18 = .ok (.getfield 317, 3) := by decide +kernel
theorem dX11_isClearOfOthers_21 : decode cX11_isClearOfOthers 21 = .ok (.if_icmp .eq 32, 3) := by decide +kernel
theorem dX11_isClearOfOthers_24 : decode cX11_isClearOfOthers 24 = .ok (.aload_n 0, 1) := by decide +kernel
theorem dX11_isClearOfOthers_25 : decode cX11_isClearOfOthers 25 = .ok (.getfield 80, 3) := by decide +kernel
theorem dX11_isClearOfOthers_28 : decode cX11_isClearOfOthers 28 = .ok (.iload_n 2, 1) := by decide +kernel
theorem dX11_isClearOfOthers_29 : decode cX11_isClearOfOthers 29 = .ok (.invokevirtual 277, 3) := by decide +kernel
theorem dX11_isClearOfOthers_32 : decode cX11_isClearOfOthers 32 = .ok (.ifCond .eq 21, 3) := by decide +kernel
theorem dX11_isClearOfOthers_35 : decode cX11_isClearOfOthers 35 = .ok (.aload_n 1, 1) := by decide +kernel
theorem dX11_isClearOfOthers_36 : decode cX11_isClearOfOthers 36 = .ok (.aload_n 0, 1) := by decide +kernel
theorem dX11_isClearOfOthers_37 : decode cX11_isClearOfOthers 37 = .ok (.getfield 80, 3) := by decide +kernel
theorem dX11_isClearOfOthers_40 : decode cX11_isClearOfOthers 40 = .ok (.getfield 182, 3) := by decide +kernel
theorem dX11_isClearOfOthers_43 : decode cX11_isClearOfOthers 43 = .ok (.iload_n 2, 1) := by decide +kernel
theorem dX11_isClearOfOthers_44 : decode cX11_isClearOfOthers 44 = .ok (.aaload, 1) := by decide +kernel
theorem dX11_isClearOfOthers_45 : decode cX11_isClearOfOthers 45 = .ok (.invokevirtual 342, 3) := by decide +kernel
theorem dX11_isClearOfOthers_48 : decode cX11_isClearOfOthers 48 = .ok (.ifCond .ne 5, 3) := by decide +kernel
theorem dX11_isClearOfOthers_51 : decode cX11_isClearOfOthers 51 = .ok (.iconst 0, 1) := by decide +kernel
theorem dX11_isClearOfOthers_52 : decode cX11_isClearOfOthers 52 = .ok (.ireturn, 1) := by decide +kernel
theorem dX11_isClearOfOthers_53 : decode cX11_isClearOfOthers 53 = .ok (.iinc 2 1, 3) := by decide +kernel
theorem dX11_isClearOfOthers_56 : decode cX11_isClearOfOthers 56 = .ok (.goto (-54), 3) := by decide +kernel
theorem dX11_isClearOfOthers_59 : decode cX11_isClearOfOthers 59 = .ok (.iconst 1, 1) := by decide +kernel
theorem dX11_isClearOfOthers_60 : decode cX11_isClearOfOthers 60 = .ok (.ireturn, 1) := by decide +kernel
theorem dX11_describe_0 : decode cX11_describe 0 = .ok (.aload_n 0, 1) := by decide +kernel
theorem dX11_describe_1 : decode cX11_describe 1 = .ok (.getfield 80, 3) := by decide +kernel
theorem dX11_describe_4 : decode cX11_describe 4 = .ok (.getfield 182, 3) := by decide +kernel
theorem dX11_describe_7 : decode cX11_describe 7 = .ok (.aload_n 1, 1) := by decide +kernel
theorem dX11_describe_8 : decode cX11_describe 8 = .ok (.getfield 307, 3) := by decide +kernel
theorem dX11_describe_11 : decode cX11_describe 11 = .ok (.aaload, 1) := by decide +kernel
theorem dX11_describe_12 : decode cX11_describe 12 = .ok (.astore_n 2, 1) := by decide +kernel
theorem dX11_describe_13 : decode cX11_describe 13 = .ok (.aload_n 1, 1) := by decide +kernel
theorem dX11_describe_14 : decode cX11_describe 14 = .ok (.getfield 317, 3) := by decide +kernel
theorem dX11_describe_17 : decode cX11_describe 17 = .ok (.iconst (-1), 1) := by decide +kernel
theorem dX11_describe_18 : decode cX11_describe 18 = .ok (.if_icmp .ne 7, 3) := by decide +kernel
theorem dX11_describe_21 : decode cX11_describe 21 = .ok (.aconst_null, 1) := by decide +kernel
theorem dX11_describe_22 : decode cX11_describe 22 = .ok (.goto 15, 3) := by decide +kernel
theorem dX11_describe_25 : decode cX11_describe 25 = .ok (.aload_n 0, 1) := by decide +kernel
theorem dX11_describe_26 : decode cX11_describe 26 = .ok (.getfield 80, 3) := by decide +kernel
theorem dX11_describe_29 : decode cX11_describe 29 = .ok (.getfield 182, 3) := by decide +kernel
theorem dX11_describe_32 : decode cX11_describe 32 = .ok (.aload_n 1, 1) := by decide +kernel
theorem dX11_describe_33 : decode cX11_describe 33 = .ok (.getfield 317, 3) := by decide +kernel
theorem dX11_describe_36 : decode cX11_describe 36 = .ok (.aaload, 1) := by decide +kernel
theorem dX11_describe_37 : decode cX11_describe 37 = .ok (.astore_n 3, 1) := by decide +kernel
theorem dX11_describe_38 : decode cX11_describe 38 = .ok (.aload_n 1, 1) := by decide +kernel
theorem dX11_describe_39 : decode cX11_describe 39 = .ok (.getfield 168, 3) := by decide +kernel
theorem dX11_describe_42 : decode cX11_describe 42 = .ok (.iconst 0, 1) := by decide +kernel
theorem dX11_describe_43 : decode cX11_describe 43 = .ok (.aload_n 1, 1) := by decide +kernel
theorem dX11_describe_44 : decode cX11_describe 44 = .ok (.invokevirtual 346, 3) := by decide +kernel
theorem dX11_describe_47 : decode cX11_describe 47 = .ok (.i2l, 1) := by decide +kernel
theorem dX11_describe_48 : decode cX11_describe 48 = .ok (.lastore, 1) := by decide +kernel
theorem dX11_describe_49 : decode cX11_describe 49 = .ok (.aload_n 1, 1) := by decide +kernel
theorem dX11_describe_50 : decode cX11_describe 50 = .ok (.getfield 168, 3) := by decide +kernel
theorem dX11_describe_53 : decode cX11_describe 53 = .ok (.iconst 1, 1) := by decide +kernel
theorem dX11_describe_54 : decode cX11_describe 54 = .ok (.aload_n 1, 1) := by decide +kernel
theorem dX11_describe_55 : decode cX11_describe 55 = .ok (.getfield 349, 3) := by decide +kernel
theorem dX11_describe_58 : decode cX11_describe 58 = .ok (.aload_n 1, 1) := by decide +kernel
theorem dX11_describe_59 : decode cX11_describe 59 = .ok (.getfield 350, 3) := by decide +kernel
theorem dX11_describe_62 : decode cX11_describe 62 = .ok (.isub, 1) := by decide +kernel
theorem dX11_describe_63 : decode cX11_describe 63 = .ok (.i2l, 1) := by decide +kernel
theorem dX11_describe_64 : decode cX11_describe 64 = .ok (.lastore, 1) := by decide +kernel
theorem dX11_describe_65 : decode cX11_describe 65 = .ok (.aload_n 1, 1) := by decide +kernel
theorem dX11_describe_66 : decode cX11_describe 66 = .ok (.getfield 168, 3) := by decide +kernel
theorem dX11_describe_69 : decode cX11_describe 69 = .ok (.iconst 2, 1) := by decide +kernel
theorem dX11_describe_70 : decode cX11_describe 70 = .ok (.aload_n 1, 1) := by decide +kernel
theorem dX11_describe_71 : decode cX11_describe 71 = .ok (.getfield 351, 3) := by decide +kernel
theorem dX11_describe_74 : decode cX11_describe 74 = .ok (.aload_n 1, 1) := by decide +kernel
theorem dX11_describe_75 : decode cX11_describe 75 = .ok (.getfield 352, 3) := by decide +kernel
theorem dX11_describe_78 : decode cX11_describe 78 = .ok (.isub, 1) := by decide +kernel
theorem dX11_describe_79 : decode cX11_describe 79 = .ok (.i2l, 1) := by decide +kernel
theorem dX11_describe_80 : decode cX11_describe 80 = .ok (.lastore, 1) := by decide +kernel
theorem dX11_describe_81 : decode cX11_describe 81 = .ok (.aload_n 1, 1) := by decide +kernel
theorem dX11_describe_82 : decode cX11_describe 82 = .ok (.getfield 168, 3) := by decide +kernel
theorem dX11_describe_85 : decode cX11_describe 85 = .ok (.iconst 3, 1) := by decide +kernel
theorem dX11_describe_86 : decode cX11_describe 86 = .ok (.aload_n 1, 1) := by decide +kernel
theorem dX11_describe_87 : decode cX11_describe 87 = .ok (.invokevirtual 291, 3) := by decide +kernel
theorem dX11_describe_90 : decode cX11_describe 90 = .ok (.aload_n 2, 1) := by decide +kernel
theorem dX11_describe_91 : decode cX11_describe 91 = .ok (.invokevirtual 234, 3) := by decide +kernel
theorem dX11_describe_94 : decode cX11_describe 94 = .ok (.isub, 1) := by decide +kernel
theorem dX11_describe_95 : decode cX11_describe 95 = .ok (.aload_n 3, 1) := by decide +kernel
theorem dX11_describe_96 : decode cX11_describe 96 = .ok (.ifnonnull 7, 3) := by decide +kernel
theorem dX11_describe_99 : decode cX11_describe 99 = .ok (.iconst 0, 1) := by decide +kernel
theorem dX11_describe_100 : decode cX11_describe 100 = .ok (.goto 7, 3) := by decide +kernel
theorem dX11_describe_103 : decode cX11_describe 103 = .ok (.aload_n 3, 1) := by decide +kernel
theorem dX11_describe_104 : decode cX11_describe 104 = .ok (.invokevirtual 234, 3) := by decide +kernel
theorem dX11_describe_107 : decode cX11_describe 107 = .ok (.isub, 1) := by decide +kernel
theorem dX11_describe_108 : decode cX11_describe 108 = .ok (.i2l, 1) := by decide +kernel
theorem dX11_describe_109 : decode cX11_describe 109 = .ok (.lastore, 1) := by decide +kernel
theorem dX11_describe_110 : decode cX11_describe 110 = .ok (.aload_n 1, 1) := by decide +kernel
theorem dX11_describe_111 : decode cX11_describe 111 = .ok (.getfield 168, 3) := by decide +kernel
theorem dX11_describe_114 : decode cX11_describe 114 = .ok (.iconst 4, 1) := by decide +kernel
theorem dX11_describe_115 : decode cX11_describe 115 = .ok (.aload_n 0, 1) := by decide +kernel
theorem dX11_describe_116 : decode cX11_describe 116 = .ok (.getfield 48, 3) := by decide +kernel
theorem dX11_describe_119 : decode cX11_describe 119 = .ok (.aload_n 0, 1) := by decide +kernel
theorem dX11_describe_120 : decode cX11_describe 120 = .ok (.getfield 48, 3) := by decide +kernel
theorem dX11_describe_123 : decode cX11_describe 123 = .ok (.getfield 241, 3) := by decide +kernel
theorem dX11_describe_126 : decode cX11_describe 126 = .ok (.aload_n 1, 1) := by decide +kernel
theorem dX11_describe_127 : decode cX11_describe 127 = .ok (.aload_n 2, 1) := by decide +kernel
theorem dX11_describe_128 : decode cX11_describe 128 = .ok (.aload_n 3, 1) := by decide +kernel
theorem dX11_describe_129 : decode cX11_describe 129 = .ok (.invokevirtual 353, 3) := by decide +kernel
theorem dX11_describe_132 : decode cX11_describe 132 = .ok (.i2l, 1) := by decide +kernel
theorem dX11_describe_133 : decode cX11_describe 133 = .ok (.lastore, 1) := by decide +kernel
theorem dX11_describe_134 : decode cX11_describe 134 = .ok (.aload_n 1, 1) := by decide +kernel
theorem dX11_describe_135 : decode cX11_describe 135 = .ok (.getfield 168, 3) := by decide +kernel
theorem dX11_describe_138 : decode cX11_describe 138 = .ok (.iconst 5, 1) := by decide +kernel
theorem dX11_describe_139 : decode cX11_describe 139 = .ok (.aload_n 0, 1) := by decide +kernel
theorem dX11_describe_140 : decode cX11_describe 140 = .ok (.getfield 48, 3) := by decide +kernel
theorem dX11_describe_143 : decode cX11_describe 143 = .ok (.aload_n 0, 1) := by decide +kernel
theorem dX11_describe_144 : decode cX11_describe 144 = .ok (.getfield 48, 3) := by decide +kernel
theorem dX11_describe_147 : decode cX11_describe 147 = .ok (.getfield 357, 3) := by decide +kernel
theorem dX11_describe_150 : decode cX11_describe 150 = .ok (.aload_n 1, 1) := by decide +kernel
theorem dX11_describe_151 : decode cX11_describe 151 = .ok (.aload_n 2, 1) := by decide +kernel
theorem dX11_describe_152 : decode cX11_describe 152 = .ok (.aload_n 3, 1) := by decide +kernel
theorem dX11_describe_153 : decode cX11_describe 153 = .ok (.invokevirtual 353, 3) := by decide +kernel
theorem dX11_describe_156 : decode cX11_describe 156 = .ok (.i2l, 1) := by decide +kernel
theorem dX11_describe_157 : decode cX11_describe 157 = .ok (.lastore, 1) := by decide +kernel
theorem dX11_describe_158 : decode cX11_describe 158 = .ok (.aload_n 1, 1) := by decide +kernel
theorem dX11_describe_159 : decode cX11_describe 159 = .ok (.getfield 168, 3) := by decide +kernel
theorem dX11_describe_162 : decode cX11_describe 162 = .ok (.bipush 6, 2) := by decide +kernel
theorem dX11_describe_164 : decode cX11_describe 164 = .ok (.aload_n 0, 1) := by decide +kernel
theorem dX11_describe_165 : decode cX11_describe 165 = .ok (.getfield 48, 3) := by decide +kernel
theorem dX11_describe_168 : decode cX11_describe 168 = .ok (.aload_n 0, 1) := by decide +kernel
theorem dX11_describe_169 : decode cX11_describe 169 = .ok (.getfield 48, 3) := by decide +kernel
theorem dX11_describe_172 : decode cX11_describe 172 = .ok (.getfield 360, 3) := by decide +kernel
theorem dX11_describe_175 : decode cX11_describe 175 = .ok (.aload_n 1, 1) := by decide +kernel
theorem dX11_describe_176 : decode cX11_describe 176 = .ok (.aload_n 2, 1) := by decide +kernel
theorem dX11_describe_177 : decode cX11_describe 177 = .ok (.aload_n 3, 1) := by decide +kernel
theorem dX11_describe_178 : decode cX11_describe 178 = .ok (.invokevirtual 353, 3) := by decide +kernel
theorem dX11_describe_181 : decode cX11_describe 181 = .ok (.i2l, 1) := by decide +kernel
theorem dX11_describe_182 : decode cX11_describe 182 = .ok (.lastore, 1) := by decide +kernel
theorem dX11_describe_183 : decode cX11_describe 183 = .ok (.aload_n 1, 1) := by decide +kernel
theorem dX11_describe_184 : decode cX11_describe 184 = .ok (.getfield 168, 3) := by decide +kernel
theorem dX11_describe_187 : decode cX11_describe 187 = .ok (.bipush 7, 2) := by decide +kernel
theorem dX11_describe_189 : decode cX11_describe 189 = .ok (.aload_n 0, 1) := by decide +kernel
theorem dX11_describe_190 : decode cX11_describe 190 = .ok (.getfield 80, 3) := by decide +kernel
theorem dX11_describe_193 : decode cX11_describe 193 = .ok (.aload_n 1, 1) := by decide +kernel
theorem dX11_describe_194 : decode cX11_describe 194 = .ok (.getfield 307, 3) := by decide +kernel
theorem dX11_describe_197 : decode cX11_describe 197 = .ok (.invokevirtual 363, 3) := by decide +kernel
theorem dX11_describe_200 : decode cX11_describe 200 = .ok (.aload_n 0, 1) := by decide +kernel
theorem dX11_describe_201 : decode cX11_describe 201 = .ok (.getfield 80, 3) := by decide +kernel
theorem dX11_describe_204 : decode cX11_describe 204 = .ok (.aload_n 1, 1) := by decide +kernel
theorem dX11_describe_205 : decode cX11_describe 205 = .ok (.getfield 317, 3) := by decide +kernel
theorem dX11_describe_208 : decode cX11_describe 208 = .ok (.invokevirtual 363, 3) := by decide +kernel
theorem dX11_describe_211 : decode cX11_describe 211 = .ok (.iadd, 1) := by decide +kernel
theorem dX11_describe_212 : decode cX11_describe 212 = .ok (.i2l, 1) := by decide +kernel
theorem dX11_describe_213 : decode cX11_describe 213 = .ok (.lastore, 1) := by decide +kernel
theorem dX11_describe_214 : decode cX11_describe 214 = .ok (.aload_n 1, 1) := by decide +kernel
theorem dX11_describe_215 : decode cX11_describe 215 = .ok (.getfield 168, 3) := by decide +kernel
theorem dX11_describe_218 : decode cX11_describe 218 = .ok (.bipush 8, 2) := by decide +kernel
theorem dX11_describe_220 : decode cX11_describe 220 = .ok (.aload_n 0, 1) := by decide +kernel
theorem dX11_describe_221 : decode cX11_describe 221 = .ok (.getfield 80, 3) := by decide +kernel
theorem dX11_describe_224 : decode cX11_describe 224 = .ok (.aload_n 1, 1) := by decide +kernel
theorem dX11_describe_225 : decode cX11_describe 225 = .ok (.getfield 366, 3) := by decide +kernel
theorem dX11_describe_228 : decode cX11_describe 228 = .ok (.aload_n 2, 1) := by decide +kernel
theorem dX11_describe_229 : decode cX11_describe 229 = .ok (.invokevirtual 369, 3) := by decide +kernel
theorem dX11_describe_232 : decode cX11_describe 232 = .ok (.aload_n 0, 1) := by decide +kernel
theorem dX11_describe_233 : decode cX11_describe 233 = .ok (.getfield 80, 3) := by decide +kernel
theorem dX11_describe_236 : decode cX11_describe 236 = .ok (.aload_n 1, 1) := by decide +kernel
theorem dX11_describe_237 : decode cX11_describe 237 = .ok (.getfield 366, 3) := by decide +kernel
theorem dX11_describe_240 : decode cX11_describe 240 = .ok (.aload_n 3, 1) := by decide +kernel
theorem dX11_describe_241 : decode cX11_describe 241 = .ok (.invokevirtual 369, 3) := by decide +kernel
theorem dX11_describe_244 : decode cX11_describe 244 = .ok (.iadd, 1) := by decide +kernel
theorem dX11_describe_245 : decode cX11_describe 245 = .ok (.i2l, 1) := by decide +kernel
theorem dX11_describe_246 : decode cX11_describe 246 = .ok (.lastore, 1) := by decide +kernel
theorem dX11_describe_247 : decode cX11_describe 247 = .ok (.aload_n 1, 1) := by decide +kernel
theorem dX11_describe_248 : decode cX11_describe 248 = .ok (.getfield 168, 3) := by decide +kernel
theorem dX11_describe_251 : decode cX11_describe 251 = .ok (.bipush 9, 2) := by decide +kernel
theorem dX11_describe_253 : decode cX11_describe 253 = .ok (.aload_n 0, 1) := by decide +kernel
theorem dX11_describe_254 : decode cX11_describe 254 = .ok (.getfield 80, 3) := by decide +kernel
theorem dX11_describe_257 : decode cX11_describe 257 = .ok (.aload_n 1, 1) := by decide +kernel
theorem dX11_describe_258 : decode cX11_describe 258 = .ok (.getfield 366, 3) := by decide +kernel
theorem dX11_describe_261 : decode cX11_describe 261 = .ok (.invokevirtual 373, 3) := by decide +kernel
theorem dX11_describe_264 : decode cX11_describe 264 = .ok (.aload_n 1, 1) := by decide +kernel
theorem dX11_describe_265 : decode cX11_describe 265 = .ok (.getfield 376, 3) := by decide +kernel
theorem dX11_describe_268 : decode cX11_describe 268 = .ok (.iadd, 1) := by decide +kernel
theorem dX11_describe_269 : decode cX11_describe 269 = .ok (.i2l, 1) := by decide +kernel
theorem dX11_describe_270 : decode cX11_describe 270 = .ok (.lastore, 1) := by decide +kernel
theorem dX11_describe_271 : decode cX11_describe 271 = .ok (.aload_n 1, 1) := by decide +kernel
theorem dX11_describe_272 : decode cX11_describe 272 = .ok (.getfield 168, 3) := by decide +kernel
theorem dX11_describe_275 : decode cX11_describe 275 = .ok (.bipush 10, 2) := by decide +kernel
theorem dX11_describe_277 : decode cX11_describe 277 = .ok (.aload_n 0, 1) := by decide +kernel
theorem dX11_describe_278 : decode cX11_describe 278 = .ok (.getfield 80, 3) := by decide +kernel
theorem dX11_describe_281 : decode cX11_describe 281 = .ok (.getfield 301, 3) := by decide +kernel
theorem dX11_describe_284 : decode cX11_describe 284 = .ok (.i2l, 1) := by decide +kernel
theorem dX11_describe_285 : decode cX11_describe 285 = .ok (.lastore, 1) := by decide +kernel
theorem dX11_describe_286 : decode cX11_describe 286 = .ok (.aload_n 1, 1) := by decide +kernel
theorem dX11_describe_287 : decode cX11_describe 287 = .ok (.getfield 168, 3) := by decide +kernel
theorem dX11_describe_290 : decode cX11_describe 290 = .ok (.bipush 11, 2) := by decide +kernel
theorem dX11_describe_292 : decode cX11_describe 292 = .ok (.aload_n 3, 1) := by decide +kernel
theorem dX11_describe_293 : decode cX11_describe 293 = .ok (.ifnonnull 7, 3) := by decide +kernel
theorem dX11_describe_296 : decode cX11_describe 296 = .ok (.lconst 0, 1) := by decide +kernel
theorem dX11_describe_297 : decode cX11_describe 297 = .ok (.goto 4, 3) := by decide +kernel
theorem dX11_describe_300 : decode cX11_describe 300 = .ok (.lconst 1, 1) := by decide +kernel
theorem dX11_describe_301 : decode cX11_describe 301 = .ok (.lastore, 1) := by decide +kernel
theorem dX11_describe_302 : decode cX11_describe 302 = .ok (.return_, 1) := by decide +kernel
theorem dX11_best_0 : decode cX11_best 0 = .ok (.aload_n 0, 1) := by decide +kernel
theorem dX11_best_1 : decode cX11_best 1 = .ok (.iload_n 1, 1) := by decide +kernel
theorem dX11_best_2 : decode cX11_best 2 = .ok (.invokevirtual 133, 3) := by decide +kernel
theorem dX11_best_5 : decode cX11_best 5 = .ok (.astore 8, 2) := by decide +kernel
theorem dX11_best_7 : decode cX11_best 7 = .ok (.aload_n 0, 1) := by decide +kernel
theorem dX11_best_8 : decode cX11_best 8 = .ok (.iload_n 2, 1) := by decide +kernel
theorem dX11_best_9 : decode cX11_best 9 = .ok (.invokevirtual 157, 3) := by decide +kernel
theorem dX11_best_12 : decode cX11_best 12 = .ok (.astore 9, 2) := by decide +kernel
theorem dX11_best_14 : decode cX11_best 14 = .ok (.aload 8, 2) := by decide +kernel
theorem dX11_best_16 : decode cX11_best 16 = .ok (.ifnull 43, 3) := by decide +kernel
theorem dX11_best_19 : decode cX11_best 19 = .ok (.aload 9, 2) := by decide +kernel
theorem dX11_best_21 : decode cX11_best 21 = .ok (.ifnull 38, 3) := by decide +kernel
theorem dX11_best_24 : decode cX11_best 24 = .ok (.aload_n 0, 1) := by decide +kernel
theorem dX11_best_25 : decode cX11_best 25 = .ok (.iload_n 3, 1) := by decide +kernel
theorem dX11_best_26 : decode cX11_best 26 = .ok (.iload 4, 2) := by decide +kernel
theorem dX11_best_28 : decode cX11_best 28 = .ok (.iload 5, 2) := by decide +kernel
theorem dX11_best_30 : decode cX11_best 30 = .ok (.invokevirtual 137, 3) := by decide +kernel
theorem dX11_best_33 : decode cX11_best 33 = .ok (.ifCond .eq 26, 3) := by decide +kernel
theorem dX11_best_36 : decode cX11_best 36 = .ok (.iload 6, 2) := by decide +kernel
theorem dX11_best_38 : decode cX11_best 38 = .ok (.iconst 1, 1) := by decide +kernel
theorem dX11_best_39 : decode cX11_best 39 = .ok (.if_icmp .lt 20, 3) := by decide +kernel
theorem dX11_best_42 : decode cX11_best 42 = .ok (.iload 6, 2) := by decide +kernel
theorem dX11_best_44 : decode cX11_best 44 = .ok (.iconst 4, 1) := by decide +kernel
theorem dX11_best_45 : decode cX11_best 45 = .ok (.if_icmp .gt 14, 3) := by decide +kernel
theorem dX11_best_48 : decode cX11_best 48 = .ok (.iload 7, 2) := by decide +kernel
theorem dX11_best_50 : decode cX11_best 50 = .ok (.ifCond .lt 9, 3) := by decide +kernel
theorem dX11_best_53 : decode cX11_best 53 = .ok (.iload 7, 2) := by decide +kernel
theorem dX11_best_55 : decode cX11_best 55 = .ok (.iconst 4, 1) := by decide +kernel
theorem dX11_best_56 : decode cX11_best 56 = .ok (.if_icmp .le 5, 3) := by decide +kernel
theorem dX11_best_59 : decode cX11_best 59 = .ok (.iconst (-1), 1) := by decide +kernel
theorem dX11_best_60 : decode cX11_best 60 = .ok (.ireturn, 1) := by decide +kernel
theorem dX11_best_61 : decode cX11_best 61 = .ok (.aload_n 0, 1) := by decide +kernel
theorem dX11_best_62 : decode cX11_best 62 = .ok (.aload_n 0, 1) := by decide +kernel
theorem dX11_best_63 : decode cX11_best 63 = .ok (.getfield 62, 3) := by decide +kernel
theorem dX11_best_66 : decode cX11_best 66 = .ok (.iload_n 3, 1) := by decide +kernel
theorem dX11_best_67 : decode cX11_best 67 = .ok (.iload 4, 2) := by decide +kernel
theorem dX11_best_69 : decode cX11_best 69 = .ok (.iload 5, 2) := by decide +kernel
theorem dX11_best_71 : decode cX11_best 71 = .ok (.invokevirtual 379, 3) := by decide +kernel
theorem dX11_best_74 : decode cX11_best 74 = .ok (.aload_n 0, 1) := by decide +kernel
theorem dX11_best_75 : decode cX11_best 75 = .ok (.aload 8, 2) := by decide +kernel
theorem dX11_best_77 : decode cX11_best 77 = .ok (.aload 9, 2) := by decide +kernel
theorem dX11_best_79 : decode cX11_best 79 = .ok (.aload_n 0, 1) := by decide +kernel
theorem dX11_best_80 : decode cX11_best 80 = .ok (.getfield 62, 3) := by decide +kernel
theorem dX11_best_83 : decode cX11_best 83 = .ok (.iload 6, 2) := by decide +kernel
theorem dX11_best_85 : decode cX11_best 85 = .ok (.aload_n 0, 1) := by decide +kernel
theorem dX11_best_86 : decode cX11_best 86 = .ok (.getfield 72, 3) := by decide +kernel
theorem dX11_best_89 : decode cX11_best 89 = .ok (.invokevirtual 383, 3) := by decide +kernel
theorem dX11_best_92 : decode cX11_best 92 = .ok (.iload 7, 2) := by decide +kernel
theorem dX11_best_94 : decode cX11_best 94 = .ok (.iconst 4, 1) := by decide +kernel
theorem dX11_best_95 : decode cX11_best 95 = .ok (.if_icmp .ne 13, 3) := by decide +kernel
theorem dX11_best_98 : decode cX11_best 98 = .ok (.aload_n 0, 1) := by decide +kernel
theorem dX11_best_99 : decode cX11_best 99 = .ok (.getfield 72, 3) := by decide +kernel
theorem dX11_best_102 : decode cX11_best 102 = .ok (.getfield 387, 3) := by decide +kernel
theorem dX11_best_105 : decode cX11_best 105 = .ok (.goto 12, 3) := by decide +kernel
theorem dX11_best_108 : decode cX11_best 108 = .ok (.aload_n 0, 1) := by decide +kernel
theorem dX11_best_109 : decode cX11_best 109 = .ok (.getfield 72, 3) := by decide +kernel
theorem dX11_best_112 : decode cX11_best 112 = .ok (.iload 7, 2) := by decide +kernel
theorem dX11_best_114 : decode cX11_best 114 = .ok (.invokevirtual 390, 3) := by decide +kernel
theorem dX11_best_117 : decode cX11_best 117 = .ok (.ireturn, 1) := by decide +kernel
theorem dX11_ahead_0 : decode cX11_ahead 0 = .ok (.aload_n 0, 1) := by decide +kernel
theorem dX11_ahead_1 : decode cX11_ahead 1 = .ok (.iload_n 1, 1) := by decide +kernel
theorem dX11_ahead_2 : decode cX11_ahead 2 = .ok (.invokevirtual 133, 3) := by decide +kernel
theorem dX11_ahead_5 : decode cX11_ahead 5 = .ok (.astore 8, 2) := by decide +kernel
theorem dX11_ahead_7 : decode cX11_ahead 7 = .ok (.aload_n 0, 1) := by decide +kernel
theorem dX11_ahead_8 : decode cX11_ahead 8 = .ok (.iload_n 2, 1) := by decide +kernel
theorem dX11_ahead_9 : decode cX11_ahead 9 = .ok (.invokevirtual 157, 3) := by decide +kernel
theorem dX11_ahead_12 : decode cX11_ahead 12 = .ok (.astore 9, 2) := by decide +kernel
theorem dX11_ahead_14 : decode cX11_ahead 14 = .ok (.aload 8, 2) := by decide +kernel
theorem dX11_ahead_16 : decode cX11_ahead 16 = .ok (.ifnull 56, 3) := by decide +kernel
theorem dX11_ahead_19 : decode cX11_ahead 19 = .ok (.aload 9, 2) := by decide +kernel
theorem dX11_ahead_21 : decode cX11_ahead 21 = .ok (.ifnull 51, 3) := by decide +kernel
theorem dX11_ahead_24 : decode cX11_ahead 24 = .ok (.aload_n 0, 1) := by decide +kernel
theorem dX11_ahead_25 : decode cX11_ahead 25 = .ok (.iload_n 3, 1) := by decide +kernel
theorem dX11_ahead_26 : decode cX11_ahead 26 = .ok (.iload 5, 2) := by decide +kernel
theorem dX11_ahead_28 : decode cX11_ahead 28 = .ok (.iconst (-1), 1) := by decide +kernel
theorem dX11_ahead_29 : decode cX11_ahead 29 = .ok (.invokevirtual 137, 3) := by decide +kernel
theorem dX11_ahead_32 : decode cX11_ahead 32 = .ok (.ifCond .eq 40, 3) := by decide +kernel
theorem dX11_ahead_35 : decode cX11_ahead 35 = .ok (.iload 4, 2) := by decide +kernel
theorem dX11_ahead_37 : decode cX11_ahead 37 = .ok (.invokestatic 125, 3) := by decide +kernel
theorem dX11_ahead_40 : decode cX11_ahead 40 = .ok (.ifCond .eq 32, 3) := by decide +kernel
theorem dX11_ahead_43 : decode cX11_ahead 43 = .ok (.iload 4, 2) := by decide +kernel
theorem dX11_ahead_45 : decode cX11_ahead 45 = .ok (.iload_n 3, 1) := by decide +kernel
theorem dX11_ahead_46 : decode cX11_ahead 46 = .ok (.if_icmp .eq 26, 3) := by decide +kernel
theorem dX11_ahead_49 : decode cX11_ahead 49 = .ok (.iload 6, 2) := by decide +kernel
theorem dX11_ahead_51 : decode cX11_ahead 51 = .ok (.iconst 1, 1) := by decide +kernel
theorem dX11_ahead_52 : decode cX11_ahead 52 = .ok (.if_icmp .lt 20, 3) := by decide +kernel
theorem dX11_ahead_55 : decode cX11_ahead 55 = .ok (.iload 6, 2) := by decide +kernel
theorem dX11_ahead_57 : decode cX11_ahead 57 = .ok (.iconst 2, 1) := by decide +kernel
theorem dX11_ahead_58 : decode cX11_ahead 58 = .ok (.if_icmp .gt 14, 3) := by decide +kernel
theorem dX11_ahead_61 : decode cX11_ahead 61 = .ok (.iload 7, 2) := by decide +kernel
theorem dX11_ahead_63 : decode cX11_ahead 63 = .ok (.ifCond .lt 9, 3) := by decide +kernel
theorem dX11_ahead_66 : decode cX11_ahead 66 = .ok (.iload 7, 2) := by decide +kernel
theorem dX11_ahead_68 : decode cX11_ahead 68 = .ok (.iconst 3, 1) := by decide +kernel
theorem dX11_ahead_69 : decode cX11_ahead 69 = .ok (.if_icmp .le 5, 3) := by decide +kernel
theorem dX11_ahead_72 : decode cX11_ahead 72 = .ok (.iconst (-1), 1) := by decide +kernel
theorem dX11_ahead_73 : decode cX11_ahead 73 = .ok (.ireturn, 1) := by decide +kernel
theorem dX11_ahead_74 : decode cX11_ahead 74 = .ok (.aload_n 0, 1) := by decide +kernel
theorem dX11_ahead_75 : decode cX11_ahead 75 = .ok (.aload_n 0, 1) := by decide +kernel
theorem dX11_ahead_76 : decode cX11_ahead 76 = .ok (.getfield 62, 3) := by decide +kernel
theorem dX11_ahead_79 : decode cX11_ahead 79 = .ok (.iload_n 3, 1) := by decide +kernel
theorem dX11_ahead_80 : decode cX11_ahead 80 = .ok (.iload 5, 2) := by decide +kernel
theorem dX11_ahead_82 : decode cX11_ahead 82 = .ok (.iconst (-1), 1) := by decide +kernel
theorem dX11_ahead_83 : decode cX11_ahead 83 = .ok (.invokevirtual 379, 3) := by decide +kernel
theorem dX11_ahead_86 : decode cX11_ahead 86 = .ok (.aload_n 0, 1) := by decide +kernel
theorem dX11_ahead_87 : decode cX11_ahead 87 = .ok (.getfield 72, 3) := by decide +kernel
theorem dX11_ahead_90 : decode cX11_ahead 90 = .ok (.invokevirtual 393, 3) := by decide +kernel
theorem dX11_ahead_93 : decode cX11_ahead 93 = .ok (.iload 6, 2) := by decide +kernel
theorem dX11_ahead_95 : decode cX11_ahead 95 = .ok (.iload 6, 2) := by decide +kernel
theorem dX11_ahead_97 : decode cX11_ahead 97 = .ok (.imul, 1) := by decide +kernel
theorem dX11_ahead_98 : decode cX11_ahead 98 = .ok (.iload 6, 2) := by decide +kernel
theorem dX11_ahead_100 : decode cX11_ahead 100 = .ok (.imul, 1) := by decide +kernel
theorem dX11_ahead_101 : decode cX11_ahead 101 = .ok (.iload 6, 2) := by decide +kernel
theorem dX11_ahead_103 : decode cX11_ahead 103 = .ok (.imul, 1) := by decide +kernel
theorem dX11_ahead_104 : decode cX11_ahead 104 = .ok (.istore 10, 2) := by decide +kernel
theorem dX11_ahead_106 : decode cX11_ahead 106 = .ok (.iconst 0, 1) := by decide +kernel
theorem dX11_ahead_107 : decode cX11_ahead 107 = .ok (.istore 11, 2) := by decide +kernel
theorem dX11_ahead_109 : decode cX11_ahead 109 = .ok (.iload 11, 2) := by decide +kernel
theorem dX11_ahead_111 : decode cX11_ahead 111 = .ok (.iload 10, 2) := by decide +kernel
theorem dX11_ahead_113 : decode cX11_ahead 113 = .ok (.if_icmp .ge 73, 3) := by decide +kernel
theorem dX11_ahead_116 : decode cX11_ahead 116 = .ok (.aload_n 0, 1) := by decide +kernel
theorem dX11_ahead_117 : decode cX11_ahead 117 = .ok (.getfield 62, 3) := by decide +kernel
theorem dX11_ahead_120 : decode cX11_ahead 120 = .ok (.iload 11, 2) := by decide +kernel
theorem dX11_ahead_122 : decode cX11_ahead 122 = .ok (.iload 6, 2) := by decide +kernel
theorem dX11_ahead_124 : decode cX11_ahead 124 = .ok (.invokevirtual 396, 3) := by decide +kernel
theorem dX11_ahead_127 : decode cX11_ahead 127 = .ok (.aload_n 0, 1) := by decide +kernel
theorem dX11_ahead_128 : decode cX11_ahead 128 = .ok (.aload 8, 2) := by decide +kernel
theorem dX11_ahead_130 : decode cX11_ahead 130 = .ok (.aload_n 0, 1) := by decide +kernel
theorem dX11_ahead_131 : decode cX11_ahead 131 = .ok (.getfield 62, 3) := by decide +kernel
theorem dX11_ahead_134 : decode cX11_ahead 134 = .ok (.invokevirtual 145, 3) := by decide +kernel
theorem dX11_ahead_137 : decode cX11_ahead 137 = .ok (.ifCond .eq 43, 3) := by decide +kernel
theorem dX11_ahead_140 : decode cX11_ahead 140 = .ok (.aload 9, 2) := by decide +kernel
theorem dX11_ahead_142 : decode cX11_ahead 142 = .ok (.aload_n 0, 1) := by decide +kernel
theorem dX11_ahead_143 : decode cX11_ahead 143 = .ok (.getfield 62, 3) := by decide +kernel
theorem dX11_ahead_146 : decode cX11_ahead 146 = .ok (.getfield 168, 3) := by decide +kernel
theorem dX11_ahead_149 : decode cX11_ahead 149 = .ok (.invokevirtual 172, 3) := by decide +kernel
theorem dX11_ahead_152 : decode cX11_ahead 152 = .ok (.lstore 12, 2) := by decide +kernel
theorem dX11_ahead_154 : decode cX11_ahead 154 = .ok (.aload_n 0, 1) := by decide +kernel
theorem dX11_ahead_155 : decode cX11_ahead 155 = .ok (.getfield 72, 3) := by decide +kernel
theorem dX11_ahead_158 : decode cX11_ahead 158 = .ok (.lload 12, 2) := by decide +kernel
theorem dX11_ahead_160 : decode cX11_ahead 160 = .ok (.aload_n 0, 1) := by decide +kernel
theorem dX11_ahead_161 : decode cX11_ahead 161 = .ok (.aload 8, 2) := by decide +kernel
theorem dX11_ahead_163 : decode cX11_ahead 163 = .ok (.aload 9, 2) := by decide +kernel
theorem dX11_ahead_165 : decode cX11_ahead 165 = .ok (.iload 4, 2) := by decide +kernel
theorem dX11_ahead_167 : decode cX11_ahead 167 = .ok (.iload 6, 2) := by decide +kernel
theorem dX11_ahead_169 : decode cX11_ahead 169 = .ok (.invokevirtual 400, 3) := by decide +kernel
theorem dX11_ahead_172 : decode cX11_ahead 172 = .ok (.lsub, 1) := by decide +kernel
theorem dX11_ahead_173 : decode cX11_ahead 173 = .ok (.aload_n 0, 1) := by decide +kernel
theorem dX11_ahead_174 : decode cX11_ahead 174 = .ok (.getfield 62, 3) := by decide +kernel
theorem dX11_ahead_177 : decode cX11_ahead 177 = .ok (.invokevirtual 404, 3) := by decide +kernel
theorem dX11_ahead_180 : decode cX11_ahead 180 = .ok (.iinc 11 1, 3) := by decide +kernel
theorem dX11_ahead_183 : decode cX11_ahead 183 = .ok (.goto (-74), 3) := by decide +kernel
theorem dX11_ahead_186 : decode cX11_ahead 186 = .ok (.aload_n 0, 1) := by decide +kernel
theorem dX11_ahead_187 : decode cX11_ahead 187 = .ok (.getfield 72, 3) := by decide +kernel
theorem dX11_ahead_190 : decode cX11_ahead 190 = .ok (.iload 7, 2) := by decide +kernel
theorem dX11_ahead_192 : decode cX11_ahead 192 = .ok (.invokevirtual 390, 3) := by decide +kernel
theorem dX11_ahead_195 : decode cX11_ahead 195 = .ok (.ireturn, 1) := by decide +kernel
theorem dX11_rivalWish_0 : decode cX11_rivalWish 0 = .ok (.aload_n 0, 1) := by decide +kernel
theorem dX11_rivalWish_1 : decode cX11_rivalWish 1 = .ok (.getfield 80, 3) := by decide +kernel
theorem dX11_rivalWish_4 : decode cX11_rivalWish 4 = .ok (.aload_n 0, 1) := by decide +kernel
theorem dX11_rivalWish_5 : decode cX11_rivalWish 5 = .ok (.getfield 62, 3) := by decide +kernel
theorem dX11_rivalWish_8 : decode cX11_rivalWish 8 = .ok (.invokevirtual 408, 3) := by decide +kernel
theorem dX11_rivalWish_11 : decode cX11_rivalWish 11 = .ok (.aload_n 0, 1) := by decide +kernel
theorem dX11_rivalWish_12 : decode cX11_rivalWish 12 = .ok (.aload_n 0, 1) := by decide +kernel
theorem dX11_rivalWish_13 : decode cX11_rivalWish 13 = .ok (.getfield 66, 3) := by decide +kernel
theorem dX11_rivalWish_16 : decode cX11_rivalWish 16 = .ok (.iload_n 3, 1) := by decide +kernel
theorem dX11_rivalWish_17 : decode cX11_rivalWish 17 = .ok (.bipush 30, 2) := by decide +kernel
theorem dX11_rivalWish_19 : decode cX11_rivalWish 19 = .ok (.iconst (-1), 1) := by decide +kernel
theorem dX11_rivalWish_20 : decode cX11_rivalWish 20 = .ok (.invokevirtual 379, 3) := by decide +kernel
theorem dX11_rivalWish_23 : decode cX11_rivalWish 23 = .ok (.aload_n 0, 1) := by decide +kernel
theorem dX11_rivalWish_24 : decode cX11_rivalWish 24 = .ok (.aload_n 1, 1) := by decide +kernel
theorem dX11_rivalWish_25 : decode cX11_rivalWish 25 = .ok (.aload_n 2, 1) := by decide +kernel
theorem dX11_rivalWish_26 : decode cX11_rivalWish 26 = .ok (.aload_n 0, 1) := by decide +kernel
theorem dX11_rivalWish_27 : decode cX11_rivalWish 27 = .ok (.getfield 66, 3) := by decide +kernel
theorem dX11_rivalWish_30 : decode cX11_rivalWish 30 = .ok (.iload 4, 2) := by decide +kernel
theorem dX11_rivalWish_32 : decode cX11_rivalWish 32 = .ok (.aload_n 0, 1) := by decide +kernel
theorem dX11_rivalWish_33 : decode cX11_rivalWish 33 = .ok (.getfield 76, 3) := by decide +kernel
theorem dX11_rivalWish_36 : decode cX11_rivalWish 36 = .ok (.invokevirtual 383, 3) := by decide +kernel
theorem dX11_rivalWish_39 : decode cX11_rivalWish 39 = .ok (.aload_n 0, 1) := by decide +kernel
theorem dX11_rivalWish_40 : decode cX11_rivalWish 40 = .ok (.getfield 80, 3) := by decide +kernel
theorem dX11_rivalWish_43 : decode cX11_rivalWish 43 = .ok (.aload_n 0, 1) := by decide +kernel
theorem dX11_rivalWish_44 : decode cX11_rivalWish 44 = .ok (.getfield 62, 3) := by decide +kernel
theorem dX11_rivalWish_47 : decode cX11_rivalWish 47 = .ok (.getfield 307, 3) := by decide +kernel
theorem dX11_rivalWish_50 : decode cX11_rivalWish 50 = .ok (.invokevirtual 411, 3) := by decide +kernel
theorem dX11_rivalWish_53 : decode cX11_rivalWish 53 = .ok (.aload_n 0, 1) := by decide +kernel
theorem dX11_rivalWish_54 : decode cX11_rivalWish 54 = .ok (.getfield 76, 3) := by decide +kernel
theorem dX11_rivalWish_57 : decode cX11_rivalWish 57 = .ok (.getfield 387, 3) := by decide +kernel
theorem dX11_rivalWish_60 : decode cX11_rivalWish 60 = .ok (.ifCond .ne 7, 3) := by decide +kernel
theorem dX11_rivalWish_63 : decode cX11_rivalWish 63 = .ok (.lconst 0, 1) := by decide +kernel
theorem dX11_rivalWish_64 : decode cX11_rivalWish 64 = .ok (.goto 14, 3) := by decide +kernel
theorem dX11_rivalWish_67 : decode cX11_rivalWish 67 = .ok (.lconst 0, 1) := by decide +kernel
theorem dX11_rivalWish_68 : decode cX11_rivalWish 68 = .ok (.aload_n 0, 1) := by decide +kernel
theorem dX11_rivalWish_69 : decode cX11_rivalWish 69 = .ok (.getfield 76, 3) := by decide +kernel
theorem dX11_rivalWish_72 : decode cX11_rivalWish 72 = .ok (.getfield 414, 3) := by decide +kernel
theorem dX11_rivalWish_75 : decode cX11_rivalWish 75 = .ok (.invokestatic 418, 3) := by decide +kernel
theorem dX11_rivalWish_78 : decode cX11_rivalWish 78 = .ok (.lreturn, 1) := by decide +kernel
theorem dX11_least_0 : decode cX11_least 0 = .ok (.aload_n 0, 1) := by decide +kernel
theorem dX11_least_1 : decode cX11_least 1 = .ok (.iload_n 1, 1) := by decide +kernel
theorem dX11_least_2 : decode cX11_least 2 = .ok (.invokevirtual 133, 3) := by decide +kernel
theorem dX11_least_5 : decode cX11_least 5 = .ok (.astore 6, 2) := by decide +kernel
theorem dX11_least_7 : decode cX11_least 7 = .ok (.aload 6, 2) := by decide +kernel
theorem dX11_least_9 : decode cX11_least 9 = .ok (.ifnull 26, 3) := by decide +kernel
theorem dX11_least_12 : decode cX11_least 12 = .ok (.aload_n 0, 1) := by decide +kernel
theorem dX11_least_13 : decode cX11_least 13 = .ok (.iload_n 2, 1) := by decide +kernel
theorem dX11_least_14 : decode cX11_least 14 = .ok (.iload_n 3, 1) := by decide +kernel
theorem dX11_least_15 : decode cX11_least 15 = .ok (.iload 4, 2) := by decide +kernel
theorem dX11_least_17 : decode cX11_least 17 = .ok (.invokevirtual 137, 3) := by decide +kernel
theorem dX11_least_20 : decode cX11_least 20 = .ok (.ifCond .eq 15, 3) := by decide +kernel
theorem dX11_least_23 : decode cX11_least 23 = .ok (.iload 5, 2) := by decide +kernel
theorem dX11_least_25 : decode cX11_least 25 = .ok (.iconst 1, 1) := by decide +kernel
theorem dX11_least_26 : decode cX11_least 26 = .ok (.if_icmp .lt 9, 3) := by decide +kernel
theorem dX11_least_29 : decode cX11_least 29 = .ok (.iload 5, 2) := by decide +kernel
theorem dX11_least_31 : decode cX11_least 31 = .ok (.iconst 5, 1) := by decide +kernel
theorem dX11_least_32 : decode cX11_least 32 = .ok (.if_icmp .le 5, 3) := by decide +kernel
theorem dX11_least_35 : decode cX11_least 35 = .ok (.iconst (-1), 1) := by decide +kernel
theorem dX11_least_36 : decode cX11_least 36 = .ok (.ireturn, 1) := by decide +kernel
theorem dX11_least_37 : decode cX11_least 37 = .ok (.aload_n 0, 1) := by decide +kernel
theorem dX11_least_38 : decode cX11_least 38 = .ok (.aload_n 0, 1) := by decide +kernel
theorem dX11_least_39 : decode cX11_least 39 = .ok (.getfield 62, 3) := by decide +kernel
theorem dX11_least_42 : decode cX11_least 42 = .ok (.iload_n 2, 1) := by decide +kernel
theorem dX11_least_43 : decode cX11_least 43 = .ok (.iload_n 3, 1) := by decide +kernel
theorem dX11_least_44 : decode cX11_least 44 = .ok (.iload 4, 2) := by decide +kernel
theorem dX11_least_46 : decode cX11_least 46 = .ok (.invokevirtual 379, 3) := by decide +kernel
theorem dX11_least_49 : decode cX11_least 49 = .ok (.aload_n 0, 1) := by decide +kernel
theorem dX11_least_50 : decode cX11_least 50 = .ok (.aload 6, 2) := by decide +kernel
theorem dX11_least_52 : decode cX11_least 52 = .ok (.aconst_null, 1) := by decide +kernel
theorem dX11_least_53 : decode cX11_least 53 = .ok (.aload_n 0, 1) := by decide +kernel
theorem dX11_least_54 : decode cX11_least 54 = .ok (.getfield 62, 3) := by decide +kernel
theorem dX11_least_57 : decode cX11_least 57 = .ok (.iload 5, 2) := by decide +kernel
theorem dX11_least_59 : decode cX11_least 59 = .ok (.aload_n 0, 1) := by decide +kernel
theorem dX11_least_60 : decode cX11_least 60 = .ok (.getfield 72, 3) := by decide +kernel
theorem dX11_least_63 : decode cX11_least 63 = .ok (.invokevirtual 383, 3) := by decide +kernel
theorem dX11_least_66 : decode cX11_least 66 = .ok (.aload_n 0, 1) := by decide +kernel
theorem dX11_least_67 : decode cX11_least 67 = .ok (.getfield 72, 3) := by decide +kernel
theorem dX11_least_70 : decode cX11_least 70 = .ok (.getfield 387, 3) := by decide +kernel
theorem dX11_least_73 : decode cX11_least 73 = .ok (.ifCond .ne 8, 3) := by decide +kernel
theorem dX11_least_76 : decode cX11_least 76 = .ok (.bipush (-2), 2) := by decide +kernel
theorem dX11_least_78 : decode cX11_least 78 = .ok (.goto 10, 3) := by decide +kernel
theorem dX11_least_81 : decode cX11_least 81 = .ok (.aload_n 0, 1) := by decide +kernel
theorem dX11_least_82 : decode cX11_least 82 = .ok (.getfield 72, 3) := by decide +kernel
theorem dX11_least_85 : decode cX11_least 85 = .ok (.getfield 422, 3) := by decide +kernel
theorem dX11_least_88 : decode cX11_least 88 = .ok (.ireturn, 1) := by decide +kernel
theorem dX11_most_0 : decode cX11_most 0 = .ok (.aload_n 0, 1) := by decide +kernel
theorem dX11_most_1 : decode cX11_most 1 = .ok (.iload_n 1, 1) := by decide +kernel
theorem dX11_most_2 : decode cX11_most 2 = .ok (.invokevirtual 133, 3) := by decide +kernel
theorem dX11_most_5 : decode cX11_most 5 = .ok (.astore 4, 2) := by decide +kernel
theorem dX11_most_7 : decode cX11_most 7 = .ok (.aload 4, 2) := by decide +kernel
theorem dX11_most_9 : decode cX11_most 9 = .ok (.ifnull 13, 3) := by decide +kernel
theorem dX11_most_12 : decode cX11_most 12 = .ok (.aload_n 0, 1) := by decide +kernel
theorem dX11_most_13 : decode cX11_most 13 = .ok (.iload_n 2, 1) := by decide +kernel
theorem dX11_most_14 : decode cX11_most 14 = .ok (.iload_n 3, 1) := by decide +kernel
theorem dX11_most_15 : decode cX11_most 15 = .ok (.iconst (-1), 1) := by decide +kernel
theorem dX11_most_16 : decode cX11_most 16 = .ok (.invokevirtual 137, 3) := by decide +kernel
theorem dX11_most_19 : decode cX11_most 19 = .ok (.ifCond .ne 5, 3) := by decide +kernel
theorem dX11_most_22 : decode cX11_most 22 = .ok (.iconst (-1), 1) := by decide +kernel
theorem dX11_most_23 : decode cX11_most 23 = .ok (.ireturn, 1) := by decide +kernel
theorem dX11_most_24 : decode cX11_most 24 = .ok (.iconst 0, 1) := by decide +kernel
theorem dX11_most_25 : decode cX11_most 25 = .ok (.istore 5, 2) := by decide +kernel
theorem dX11_most_27 : decode cX11_most 27 = .ok (.iload 5, 2) := by decide +kernel
theorem dX11_most_29 : decode cX11_most 29 = .ok (.bipush 24, 2) := by decide +kernel
theorem dX11_most_31 : decode cX11_most 31 = .ok (.if_icmp .ge 43, 3) := by decide +kernel
theorem dX11_most_34 : decode cX11_most 34 = .ok (.aload_n 0, 1) := by decide +kernel
theorem dX11_most_35 : decode cX11_most 35 = .ok (.aload 4, 2) := by decide +kernel
theorem dX11_most_37 : decode cX11_most 37 = .ok (.iload_n 2, 1) := by decide +kernel
theorem dX11_most_38 : decode cX11_most 38 = .ok (.iload 5, 2) := by decide +kernel
theorem dX11_most_40 : decode cX11_most 40 = .ok (.ifCond .ne 7, 3) := by decide +kernel
theorem dX11_most_43 : decode cX11_most 43 = .ok (.iload_n 3, 1) := by decide +kernel
theorem dX11_most_44 : decode cX11_most 44 = .ok (.goto 5, 3) := by decide +kernel
theorem dX11_most_47 : decode cX11_most 47 = .ok (.bipush 30, 2) := by decide +kernel
theorem dX11_most_49 : decode cX11_most 49 = .ok (.iload 5, 2) := by decide +kernel
theorem dX11_most_51 : decode cX11_most 51 = .ok (.invokevirtual 424, 3) := by decide +kernel
theorem dX11_most_54 : decode cX11_most 54 = .ok (.ifCond .eq 20, 3) := by decide +kernel
theorem dX11_most_57 : decode cX11_most 57 = .ok (.aload_n 0, 1) := by decide +kernel
theorem dX11_most_58 : decode cX11_most 58 = .ok (.getfield 80, 3) := by decide +kernel
theorem dX11_most_61 : decode cX11_most 61 = .ok (.aload_n 0, 1) := by decide +kernel
theorem dX11_most_62 : decode cX11_most 62 = .ok (.getfield 62, 3) := by decide +kernel
theorem dX11_most_65 : decode cX11_most 65 = .ok (.invokevirtual 408, 3) := by decide +kernel
theorem dX11_most_68 : decode cX11_most 68 = .ok (.iinc 5 1, 3) := by decide +kernel
theorem dX11_most_71 : decode cX11_most 71 = .ok (.goto (-44), 3) := by decide +kernel
theorem dX11_most_74 : decode cX11_most 74 = .ok (.iload 5, 2) := by decide +kernel
theorem dX11_most_76 : decode cX11_most 76 = .ok (.ifCond .le 11, 3) := by decide +kernel
theorem dX11_most_79 : decode cX11_most 79 = .ok (.aload_n 0, 1) := by decide +kernel
theorem dX11_most_80 : decode cX11_most 80 = .ok (.getfield 80, 3) := by decide +kernel
theorem dX11_most_83 : decode cX11_most 83 = .ok (.iload_n 3, 1) := by decide +kernel
theorem dX11_most_84 : decode cX11_most 84 = .ok (.invokevirtual 411, 3) := by decide +kernel
theorem dX11_most_87 : decode cX11_most 87 = .ok (.iload 5, 2) := by decide +kernel
theorem dX11_most_89 : decode cX11_most 89 = .ok (.ireturn, 1) := by decide +kernel
theorem dX11_widens_0 : decode cX11_widens 0 = .ok (.aload_n 0, 1) := by decide +kernel
theorem dX11_widens_1 : decode cX11_widens 1 = .ok (.aload_n 0, 1) := by decide +kernel
theorem dX11_widens_2 : decode cX11_widens 2 = .ok (.getfield 62, 3) := by decide +kernel
theorem dX11_widens_5 : decode cX11_widens 5 = .ok (.iload_n 2, 1) := by decide +kernel
theorem dX11_widens_6 : decode cX11_widens 6 = .ok (.iload_n 3, 1) := by decide +kernel
theorem dX11_widens_7 : decode cX11_widens 7 = .ok (.iconst (-1), 1) := by decide +kernel
theorem dX11_widens_8 : decode cX11_widens 8 = .ok (.invokevirtual 379, 3) := by decide +kernel
theorem dX11_widens_11 : decode cX11_widens 11 = .ok (.aload_n 0, 1) := by decide +kernel
theorem dX11_widens_12 : decode cX11_widens 12 = .ok (.getfield 62, 3) := by decide +kernel
theorem dX11_widens_15 : decode cX11_widens 15 = .ok (.iload 4, 2) := by decide +kernel
theorem dX11_widens_17 : decode cX11_widens 17 = .ok (.putfield 376, 3) := by decide +kernel
theorem dX11_widens_20 : decode cX11_widens 20 = .ok (.iconst 1, 1) := by decide +kernel
theorem dX11_widens_21 : decode cX11_widens 21 = .ok (.istore 5, 2) := by decide +kernel
theorem dX11_widens_23 : decode cX11_widens 23 = .ok (.iload 5, 2) := by decide +kernel
theorem dX11_widens_25 : decode cX11_widens 25 = .ok (.bipush 9, 2) := by decide +kernel
theorem dX11_widens_27 : decode cX11_widens 27 = .ok (.if_icmp .gt 38, 3) := by decide +kernel
theorem dX11_widens_30 : decode cX11_widens 30 = .ok (.aload_n 0, 1) := by decide +kernel
theorem dX11_widens_31 : decode cX11_widens 31 = .ok (.getfield 62, 3) := by decide +kernel
theorem dX11_widens_34 : decode cX11_widens 34 = .ok (.iload 5, 2) := by decide +kernel
theorem dX11_widens_36 : decode cX11_widens 36 = .ok (.iload 5, 2) := by decide +kernel
theorem dX11_widens_38 : decode cX11_widens 38 = .ok (.iload 5, 2) := by decide +kernel
theorem dX11_widens_40 : decode cX11_widens 40 = .ok (.iload 5, 2) := by decide +kernel
theorem dX11_widens_42 : decode cX11_widens 42 = .ok (.invokevirtual 284, 3) := by decide +kernel
theorem dX11_widens_45 : decode cX11_widens 45 = .ok (.aload_n 0, 1) := by decide +kernel
theorem dX11_widens_46 : decode cX11_widens 46 = .ok (.aload_n 1, 1) := by decide +kernel
theorem dX11_widens_47 : decode cX11_widens 47 = .ok (.aload_n 0, 1) := by decide +kernel
theorem dX11_widens_48 : decode cX11_widens 48 = .ok (.getfield 62, 3) := by decide +kernel
theorem dX11_widens_51 : decode cX11_widens 51 = .ok (.invokevirtual 145, 3) := by decide +kernel
theorem dX11_widens_54 : decode cX11_widens 54 = .ok (.ifCond .eq 5, 3) := by decide +kernel
theorem dX11_widens_57 : decode cX11_widens 57 = .ok (.iconst 1, 1) := by decide +kernel
theorem dX11_widens_58 : decode cX11_widens 58 = .ok (.ireturn, 1) := by decide +kernel
theorem dX11_widens_59 : decode cX11_widens 59 = .ok (.iinc 5 1, 3) := by decide +kernel
theorem dX11_widens_62 : decode cX11_widens 62 = .ok (.goto (-39), 3) := by decide +kernel
theorem dX11_widens_65 : decode cX11_widens 65 = .ok (.iconst 0, 1) := by decide +kernel
theorem dX11_widens_66 : decode cX11_widens 66 = .ok (.ireturn, 1) := by decide +kernel
theorem dX11_aim_0 : decode cX11_aim 0 = .ok (.aload_n 1, 1) := by decide +kernel
theorem dX11_aim_1 : decode cX11_aim 1 = .ok (.iload_n 2, 1) := by decide +kernel
theorem dX11_aim_2 : decode cX11_aim 2 = .ok (.iconst 0, 1) := by decide +kernel
theorem dX11_aim_3 : decode cX11_aim 3 = .ok (.iconst 0, 1) := by decide +kernel
theorem dX11_aim_4 : decode cX11_aim 4 = .ok (.iconst 0, 1) := by decide +kernel
theorem dX11_aim_5 : decode cX11_aim 5 = .ok (.iconst 0, 1) := by decide +kernel
theorem dX11_aim_6 : decode cX11_aim 6 = .ok (.iload_n 3, 1) := by decide +kernel
theorem dX11_aim_7 : decode cX11_aim 7 = .ok (.iload 4, 2) := by decide +kernel
theorem dX11_aim_9 : decode cX11_aim 9 = .ok (.invokevirtual 141, 3) := by decide +kernel
theorem dX11_aim_12 : decode cX11_aim 12 = .ok (.aload_n 1, 1) := by decide +kernel
theorem dX11_aim_13 : decode cX11_aim 13 = .ok (.aload_n 0, 1) := by decide +kernel
theorem dX11_aim_14 : decode cX11_aim 14 = .ok (.getfield 80, 3) := by decide +kernel
theorem dX11_aim_17 : decode cX11_aim 17 = .ok (.getfield 182, 3) := by decide +kernel
theorem dX11_aim_20 : decode cX11_aim 20 = .ok (.iload_n 3, 1) := by decide +kernel
theorem dX11_aim_21 : decode cX11_aim 21 = .ok (.aaload, 1) := by decide +kernel
theorem dX11_aim_22 : decode cX11_aim 22 = .ok (.iload 4, 2) := by decide +kernel
theorem dX11_aim_24 : decode cX11_aim 24 = .ok (.iconst (-1), 1) := by decide +kernel
theorem dX11_aim_25 : decode cX11_aim 25 = .ok (.if_icmp .ne 7, 3) := by decide +kernel
theorem dX11_aim_28 : decode cX11_aim 28 = .ok (.aconst_null, 1) := by decide +kernel
theorem dX11_aim_29 : decode cX11_aim 29 = .ok (.goto 13, 3) := by decide +kernel
theorem dX11_aim_32 : decode cX11_aim 32 = .ok (.aload_n 0, 1) := by decide +kernel
theorem dX11_aim_33 : decode cX11_aim 33 = .ok (.getfield 80, 3) := by decide +kernel
theorem dX11_aim_36 : decode cX11_aim 36 = .ok (.getfield 182, 3) := by decide +kernel
theorem dX11_aim_39 : decode cX11_aim 39 = .ok (.iload 4, 2) := by decide +kernel
theorem dX11_aim_41 : decode cX11_aim 41 = .ok (.aaload, 1) := by decide +kernel
theorem dX11_aim_42 : decode cX11_aim 42 = .ok (.invokevirtual 280, 3) := by decide +kernel
theorem dX11_aim_45 : decode cX11_aim 45 = .ok (.return_, 1) := by decide +kernel
theorem dX11_search_0 : decode cX11_search 0 = .ok (.aload 5, 2) := by decide +kernel
theorem dX11_search_2 : decode cX11_search 2 = .ok (.invokevirtual 393, 3) := by decide +kernel
theorem dX11_search_5 : decode cX11_search 5 = .ok (.iload 4, 2) := by decide +kernel
theorem dX11_search_7 : decode cX11_search 7 = .ok (.iload 4, 2) := by decide +kernel
theorem dX11_search_9 : decode cX11_search 9 = .ok (.imul, 1) := by decide +kernel
theorem dX11_search_10 : decode cX11_search 10 = .ok (.iload 4, 2) := by decide +kernel
theorem dX11_search_12 : decode cX11_search 12 = .ok (.imul, 1) := by decide +kernel
theorem dX11_search_13 : decode cX11_search 13 = .ok (.iload 4, 2) := by decide +kernel
theorem dX11_search_15 : decode cX11_search 15 = .ok (.imul, 1) := by decide +kernel
theorem dX11_search_16 : decode cX11_search 16 = .ok (.istore 6, 2) := by decide +kernel
theorem dX11_search_18 : decode cX11_search 18 = .ok (.iconst 0, 1) := by decide +kernel
theorem dX11_search_19 : decode cX11_search 19 = .ok (.istore 7, 2) := by decide +kernel
theorem dX11_search_21 : decode cX11_search 21 = .ok (.iload 7, 2) := by decide +kernel
theorem dX11_search_23 : decode cX11_search 23 = .ok (.iload 6, 2) := by decide +kernel
theorem dX11_search_25 : decode cX11_search 25 = .ok (.if_icmp .ge 48, 3) := by decide +kernel
theorem dX11_search_28 : decode cX11_search 28 = .ok (.aload_n 3, 1) := by decide +kernel
theorem dX11_search_29 : decode cX11_search 29 = .ok (.iload 7, 2) := by decide +kernel
theorem dX11_search_31 : decode cX11_search 31 = .ok (.iload 4, 2) := by decide +kernel
theorem dX11_search_33 : decode cX11_search 33 = .ok (.invokevirtual 396, 3) := by decide +kernel
theorem dX11_search_36 : decode cX11_search 36 = .ok (.aload_n 0, 1) := by decide +kernel
theorem dX11_search_37 : decode cX11_search 37 = .ok (.aload_n 1, 1) := by decide +kernel
theorem dX11_search_38 : decode cX11_search 38 = .ok (.aload_n 3, 1) := by decide +kernel
theorem dX11_search_39 : decode cX11_search 39 = .ok (.invokevirtual 145, 3) := by decide +kernel
theorem dX11_search_42 : decode cX11_search 42 = .ok (.ifCond .eq 25, 3) := by decide +kernel
theorem dX11_search_45 : decode cX11_search 45 = .ok (.aload 5, 2) := by decide +kernel
theorem dX11_search_47 : decode cX11_search 47 = .ok (.aload_n 2, 1) := by decide +kernel
theorem dX11_search_48 : decode cX11_search 48 = .ok (.ifnonnull 7, 3) := by decide +kernel
theorem dX11_search_51 : decode cX11_search 51 = .ok (.lconst 0, 1) := by decide +kernel
theorem dX11_search_52 : decode cX11_search 52 = .ok (.goto 11, 3) := by decide +kernel
theorem dX11_search_55 : decode cX11_search 55 = .ok (.aload_n 2, 1) := by decide +kernel
theorem dX11_search_56 : decode cX11_search 56 = .ok (.aload_n 3, 1) := by decide +kernel
theorem dX11_search_57 : decode cX11_search 57 = .ok (.getfield 168, 3) := by decide +kernel
theorem dX11_search_60 : decode cX11_search 60 = .ok (.invokevirtual 172, 3) := by decide +kernel
theorem dX11_search_63 : decode cX11_search 63 = .ok (.aload_n 3, 1) := by decide +kernel
theorem dX11_search_64 : decode cX11_search 64 = .ok (.invokevirtual 404, 3) := by decide +kernel
theorem dX11_search_67 : decode cX11_search 67 = .ok (.iinc 7 1, 3) := by decide +kernel
theorem dX11_search_70 : decode cX11_search 70 = .ok (.goto (-49), 3) := by decide +kernel
theorem dX11_search_73 : decode cX11_search 73 = .ok (.return_, 1) := by decide +kernel
theorem dX11_way_0 : decode cX11_way 0 = .ok (.iload_n 1, 1) := by decide +kernel
theorem dX11_way_1 : decode cX11_way 1 = .ok (.invokestatic 125, 3) := by decide +kernel
theorem dX11_way_4 : decode cX11_way 4 = .ok (.ifCond .eq 40, 3) := by decide +kernel
theorem dX11_way_7 : decode cX11_way 7 = .ok (.aload_n 0, 1) := by decide +kernel
theorem dX11_way_8 : decode cX11_way 8 = .ok (.getfield 80, 3) := by decide +kernel
theorem dX11_way_11 : decode cX11_way 11 = .ok (.iload_n 2, 1) := by decide +kernel
theorem dX11_way_12 : decode cX11_way 12 = .ok (.iload_n 3, 1) := by decide +kernel
theorem dX11_way_13 : decode cX11_way 13 = .ok (.invokevirtual 248, 3) := by decide +kernel
theorem dX11_way_16 : decode cX11_way 16 = .ok (.ifCond .eq 28, 3) := by decide +kernel
theorem dX11_way_19 : decode cX11_way 19 = .ok (.aload_n 0, 1) := by decide +kernel
theorem dX11_way_20 : decode cX11_way 20 = .ok (.getfield 80, 3) := by decide +kernel
theorem dX11_way_23 : decode cX11_way 23 = .ok (.iload 4, 2) := by decide +kernel
theorem dX11_way_25 : decode cX11_way 25 = .ok (.iload 5, 2) := by decide +kernel
theorem dX11_way_27 : decode cX11_way 27 = .ok (.invokevirtual 248, 3) := by decide +kernel
theorem dX11_way_30 : decode cX11_way 30 = .ok (.ifCond .eq 14, 3) := by decide +kernel
theorem dX11_way_33 : decode cX11_way 33 = .ok (.iload 6, 2) := by decide +kernel
theorem dX11_way_35 : decode cX11_way 35 = .ok (.ifCond .lt 9, 3) := by decide +kernel
theorem dX11_way_38 : decode cX11_way 38 = .ok (.iload 6, 2) := by decide +kernel
theorem dX11_way_40 : decode cX11_way 40 = .ok (.iconst 2, 1) := by decide +kernel
theorem dX11_way_41 : decode cX11_way 41 = .ok (.if_icmp .le 5, 3) := by decide +kernel
theorem dX11_way_44 : decode cX11_way 44 = .ok (.iconst (-1), 1) := by decide +kernel
theorem dX11_way_45 : decode cX11_way 45 = .ok (.ireturn, 1) := by decide +kernel
theorem dX11_way_46 : decode cX11_way 46 = .ok (.aload_n 0, 1) := by decide +kernel
theorem dX11_way_47 : decode cX11_way 47 = .ok (.getfield 55, 3) := by decide +kernel
theorem dX11_way_50 : decode cX11_way 50 = .ok (.aload_n 0, 1) := by decide +kernel
theorem dX11_way_51 : decode cX11_way 51 = .ok (.getfield 80, 3) := by decide +kernel
theorem dX11_way_54 : decode cX11_way 54 = .ok (.iconst (-1), 1) := by decide +kernel
theorem dX11_way_55 : decode cX11_way 55 = .ok (.invokevirtual 428, 3) := by decide +kernel
theorem dX11_way_58 : decode cX11_way 58 = .ok (.aload_n 0, 1) := by decide +kernel
theorem dX11_way_59 : decode cX11_way 59 = .ok (.getfield 55, 3) := by decide +kernel
theorem dX11_way_62 : decode cX11_way 62 = .ok (.iload_n 3, 1) := by decide +kernel
theorem dX11_way_63 : decode cX11_way 63 = .ok (.bipush 40, 2) := by decide +kernel
theorem dX11_way_65 : decode cX11_way 65 = .ok (.imul, 1) := by decide +kernel
theorem dX11_way_66 : decode cX11_way 66 = .ok (.iload_n 2, 1) := by decide +kernel
theorem dX11_way_67 : decode cX11_way 67 = .ok (.iadd, 1) := by decide +kernel
theorem dX11_way_68 : decode cX11_way 68 = .ok (.iload 5, 2) := by decide +kernel
theorem dX11_way_70 : decode cX11_way 70 = .ok (.bipush 40, 2) := by decide +kernel
theorem dX11_way_72 : decode cX11_way 72 = .ok (.imul, 1) := by decide +kernel
theorem dX11_way_73 : decode cX11_way 73 = .ok (.iload 4, 2) := by decide +kernel
theorem dX11_way_75 : decode cX11_way 75 = .ok (.iadd, 1) := by decide +kernel
theorem dX11_way_76 : decode cX11_way 76 = .ok (.aload_n 0, 1) := by decide +kernel
theorem dX11_way_77 : decode cX11_way 77 = .ok (.getfield 55, 3) := by decide +kernel
theorem dX11_way_80 : decode cX11_way 80 = .ok (.getfield 432, 3) := by decide +kernel
theorem dX11_way_83 : decode cX11_way 83 = .ok (.invokevirtual 435, 3) := by decide +kernel
theorem dX11_way_86 : decode cX11_way 86 = .ok (.istore 7, 2) := by decide +kernel
theorem dX11_way_88 : decode cX11_way 88 = .ok (.iload 7, 2) := by decide +kernel
theorem dX11_way_90 : decode cX11_way 90 = .ok (.iconst (-1), 1) := by decide +kernel
theorem dX11_way_91 : decode cX11_way 91 = .ok (.if_icmp .ne 6, 3) := by decide +kernel
theorem dX11_way_94 : decode cX11_way 94 = .ok (.bipush (-2), 2) := by decide +kernel
theorem dX11_way_96 : decode cX11_way 96 = .ok (.ireturn, 1) := by decide +kernel
theorem dX11_way_97 : decode cX11_way 97 = .ok (.iload 6, 2) := by decide +kernel
theorem dX11_way_99 : decode cX11_way 99 = .ok (.iconst 1, 1) := by decide +kernel
theorem dX11_way_100 : decode cX11_way 100 = .ok (.if_icmp .ne 6, 3) := by decide +kernel
theorem dX11_way_103 : decode cX11_way 103 = .ok (.iload 7, 2) := by decide +kernel
theorem dX11_way_105 : decode cX11_way 105 = .ok (.ireturn, 1) := by decide +kernel
theorem dX11_way_106 : decode cX11_way 106 = .ok (.aload_n 0, 1) := by decide +kernel
theorem dX11_way_107 : decode cX11_way 107 = .ok (.getfield 55, 3) := by decide +kernel
theorem dX11_way_110 : decode cX11_way 110 = .ok (.iload_n 1, 1) := by decide +kernel
theorem dX11_way_111 : decode cX11_way 111 = .ok (.iload_n 2, 1) := by decide +kernel
theorem dX11_way_112 : decode cX11_way 112 = .ok (.iload_n 3, 1) := by decide +kernel
theorem dX11_way_113 : decode cX11_way 113 = .ok (.iload 4, 2) := by decide +kernel
theorem dX11_way_115 : decode cX11_way 115 = .ok (.iload 5, 2) := by decide +kernel
theorem dX11_way_117 : decode cX11_way 117 = .ok (.invokevirtual 439, 3) := by decide +kernel
theorem dX11_way_120 : decode cX11_way 120 = .ok (.iload 6, 2) := by decide +kernel
theorem dX11_way_122 : decode cX11_way 122 = .ok (.ifCond .ne 13, 3) := by decide +kernel
theorem dX11_way_125 : decode cX11_way 125 = .ok (.aload_n 0, 1) := by decide +kernel
theorem dX11_way_126 : decode cX11_way 126 = .ok (.getfield 55, 3) := by decide +kernel
theorem dX11_way_129 : decode cX11_way 129 = .ok (.getfield 443, 3) := by decide +kernel
theorem dX11_way_132 : decode cX11_way 132 = .ok (.goto 10, 3) := by decide +kernel
theorem dX11_way_135 : decode cX11_way 135 = .ok (.aload_n 0, 1) := by decide +kernel
theorem dX11_way_136 : decode cX11_way 136 = .ok (.getfield 55, 3) := by decide +kernel
theorem dX11_way_139 : decode cX11_way 139 = .ok (.getfield 446, 3) := by decide +kernel
theorem dX11_way_142 : decode cX11_way 142 = .ok (.ireturn, 1) := by decide +kernel
theorem dX11_errand_0 : decode cX11_errand 0 = .ok (.iload_n 1, 1) := by decide +kernel
theorem dX11_errand_1 : decode cX11_errand 1 = .ok (.ifCond .lt 35, 3) := by decide +kernel
theorem dX11_errand_4 : decode cX11_errand 4 = .ok (.iload_n 1, 1) := by decide +kernel
theorem dX11_errand_5 : decode cX11_errand 5 = .ok (.bipush 6, 2) := by decide +kernel
theorem dX11_errand_7 : decode cX11_errand 7 = .ok (.if_icmp .ge 29, 3) := by decide +kernel
theorem dX11_errand_10 : decode cX11_errand 10 = .ok (.iload_n 2, 1) := by decide +kernel
theorem dX11_errand_11 : decode cX11_errand 11 = .ok (.invokestatic 125, 3) := by decide +kernel
theorem dX11_errand_14 : decode cX11_errand 14 = .ok (.ifCond .eq 22, 3) := by decide +kernel
theorem dX11_errand_17 : decode cX11_errand 17 = .ok (.iload_n 3, 1) := by decide +kernel
theorem dX11_errand_18 : decode cX11_errand 18 = .ok (.iload 4, 2) := by decide +kernel
theorem dX11_errand_20 : decode cX11_errand 20 = .ok (.invokestatic 449, 3) := by decide +kernel
theorem dX11_errand_23 : decode cX11_errand 23 = .ok (.ifCond .eq 13, 3) := by decide +kernel
theorem dX11_errand_26 : decode cX11_errand 26 = .ok (.iload 5, 2) := by decide +kernel
theorem dX11_errand_28 : decode cX11_errand 28 = .ok (.iload 6, 2) := by decide +kernel
theorem dX11_errand_30 : decode cX11_errand 30 = .ok (.invokestatic 449, 3) := by decide +kernel
theorem dX11_errand_33 : decode cX11_errand 33 = .ok (.ifCond .ne 5, 3) := by decide +kernel
theorem dX11_errand_36 : decode cX11_errand 36 = .ok (.iconst 0, 1) := by decide +kernel
theorem dX11_errand_37 : decode cX11_errand 37 = .ok (.ireturn, 1) := by decide +kernel
theorem dX11_errand_38 : decode cX11_errand 38 = .ok (.aload_n 0, 1) := by decide +kernel
theorem dX11_errand_39 : decode cX11_errand 39 = .ok (.getfield 80, 3) := by decide +kernel
theorem dX11_errand_42 : decode cX11_errand 42 = .ok (.getfield 452, 3) := by decide +kernel
theorem dX11_errand_45 : decode cX11_errand 45 = .ok (.iload_n 1, 1) := by decide +kernel
theorem dX11_errand_46 : decode cX11_errand 46 = .ok (.aaload, 1) := by decide +kernel
theorem dX11_errand_47 : decode cX11_errand 47 = .ok (.iload_n 2, 1) := by decide +kernel
theorem dX11_errand_48 : decode cX11_errand 48 = .ok (.iload_n 3, 1) := by decide +kernel
theorem dX11_errand_49 : decode cX11_errand 49 = .ok (.iload 4, 2) := by decide +kernel
theorem dX11_errand_51 : decode cX11_errand 51 = .ok (.iload 5, 2) := by decide +kernel
theorem dX11_errand_53 : decode cX11_errand 53 = .ok (.iload 6, 2) := by decide +kernel
theorem dX11_errand_55 : decode cX11_errand 55 = .ok (.invokevirtual 456, 3) := by decide +kernel
theorem dX11_errand_58 : decode cX11_errand 58 = .ok (.iconst 1, 1) := by decide +kernel
theorem dX11_errand_59 : decode cX11_errand 59 = .ok (.ireturn, 1) := by decide +kernel
theorem dX11_isErrandCell_0 : decode cX11_isErrandCell 0 = .ok (.iload_n 0, 1) := by decide +kernel
theorem dX11_isErrandCell_1 : decode cX11_isErrandCell 1 = .ok (.ifCond .lt 23, 3) := by decide +kernel
theorem dX11_isErrandCell_4 : decode cX11_isErrandCell 4 = .ok (.iload_n 0, 1) := by decide +kernel
theorem dX11_isErrandCell_5 : decode cX11_isErrandCell 5 = .ok (.bipush 40, 2) := by decide +kernel
theorem dX11_isErrandCell_7 : decode cX11_isErrandCell 7 = .ok (.if_icmp .ge 17, 3) := by decide +kernel
theorem dX11_isErrandCell_10 : decode cX11_isErrandCell 10 = .ok (.iload_n 1, 1) := by decide +kernel
theorem dX11_isErrandCell_11 : decode cX11_isErrandCell 11 = .ok (.ifCond .lt 13, 3) := by decide +kernel
theorem dX11_isErrandCell_14 : decode cX11_isErrandCell 14 = .ok (.iload_n 1, 1) := by decide +kernel
theorem dX11_isErrandCell_15 : decode cX11_isErrandCell 15 = .ok (.bipush 40, 2) := by decide +kernel
theorem dX11_isErrandCell_17 : decode cX11_isErrandCell 17 = .ok (.if_icmp .ge 7, 3) := by decide +kernel
theorem dX11_isErrandCell_20 : decode cX11_isErrandCell 20 = .ok (.iconst 1, 1) := by decide +kernel
theorem dX11_isErrandCell_21 : decode cX11_isErrandCell 21 = .ok (.goto 4, 3) := by decide +kernel
theorem dX11_isErrandCell_24 : decode cX11_isErrandCell 24 = .ok (.iconst 0, 1) := by decide +kernel
theorem dX11_isErrandCell_25 : decode cX11_isErrandCell 25 = .ok (.ireturn, 1) := by decide +kernel
theorem dX11_sum_0 : decode cX11_sum 0 = .ok (.iload_n 1, 1) := by decide +kernel
theorem dX11_sum_1 : decode cX11_sum 1 = .ok (.ifCond .lt 8, 3) := by decide +kernel
theorem dX11_sum_4 : decode cX11_sum 4 = .ok (.iload_n 1, 1) := by decide +kernel
theorem dX11_sum_5 : decode cX11_sum 5 = .ok (.iconst 1, 1) := by decide +kernel
theorem dX11_sum_6 : decode cX11_sum 6 = .ok (.if_icmp .le 5, 3) := by decide +kernel
theorem dX11_sum_9 : decode cX11_sum 9 = .ok (.iconst (-1), 1) := by decide +kernel
theorem dX11_sum_10 : decode cX11_sum 10 = .ok (.ireturn, 1) := by decide +kernel
theorem dX11_sum_11 : decode cX11_sum 11 = .ok (.aload_n 0, 1) := by decide +kernel
theorem dX11_sum_12 : decode cX11_sum 12 = .ok (.getfield 55, 3) := by decide +kernel
theorem dX11_sum_15 : decode cX11_sum 15 = .ok (.aload_n 0, 1) := by decide +kernel
theorem dX11_sum_16 : decode cX11_sum 16 = .ok (.getfield 80, 3) := by decide +kernel
theorem dX11_sum_19 : decode cX11_sum 19 = .ok (.iconst (-1), 1) := by decide +kernel
theorem dX11_sum_20 : decode cX11_sum 20 = .ok (.invokevirtual 428, 3) := by decide +kernel
theorem dX11_sum_23 : decode cX11_sum 23 = .ok (.aload_n 0, 1) := by decide +kernel
theorem dX11_sum_24 : decode cX11_sum 24 = .ok (.iload_n 1, 1) := by decide +kernel
theorem dX11_sum_25 : decode cX11_sum 25 = .ok (.ifCond .ne 7, 3) := by decide +kernel
theorem dX11_sum_28 : decode cX11_sum 28 = .ok (.iconst 1, 1) := by decide +kernel
theorem dX11_sum_29 : decode cX11_sum 29 = .ok (.goto 4, 3) := by decide +kernel
theorem dX11_sum_32 : decode cX11_sum 32 = .ok (.iconst 0, 1) := by decide +kernel
theorem dX11_sum_33 : decode cX11_sum 33 = .ok (.invokevirtual 460, 3) := by decide +kernel
theorem dX11_sum_36 : decode cX11_sum 36 = .ok (.ireturn, 1) := by decide +kernel
theorem dX11_total_0 : decode cX11_total 0 = .ok (.iconst 0, 1) := by decide +kernel
theorem dX11_total_1 : decode cX11_total 1 = .ok (.istore_n 2, 1) := by decide +kernel
theorem dX11_total_2 : decode cX11_total 2 = .ok (.iconst 0, 1) := by decide +kernel
theorem dX11_total_3 : decode cX11_total 3 = .ok (.istore_n 3, 1) := by decide +kernel
theorem dX11_total_4 : decode cX11_total 4 = .ok (.iload_n 3, 1) := by decide +kernel
theorem dX11_total_5 : decode cX11_total 5 = .ok (.bipush 6, 2) := by decide +kernel
theorem dX11_total_7 : decode cX11_total 7 = .ok (.if_icmp .ge 149, 3) := by decide +kernel
theorem dX11_total_10 : decode cX11_total 10 = .ok (.aload_n 0, 1) := by decide +kernel
theorem dX11_total_11 : decode cX11_total 11 = .ok (.getfield 80, 3) := by decide +kernel
theorem dX11_total_14 : decode cX11_total 14 = .ok (.getfield 452, 3) := by decide +kernel
theorem dX11_total_17 : decode cX11_total 17 = .ok (.iload_n 3, 1) := by decide +kernel
theorem dX11_total_18 : decode cX11_total 18 = .ok (.aaload, 1) := by decide +kernel
theorem dX11_total_19 : decode cX11_total 19 = .ok (.astore 4, 2) := by decide +kernel
theorem dX11_total_21 : decode cX11_total 21 = .ok (.aload 4, 2) := by decide +kernel
theorem dX11_total_23 : decode cX11_total 23 = .ok (.getfield 463, 3) := by decide +kernel
theorem dX11_total_26 : decode cX11_total 26 = .ok (.ifCond .eq 124, 3) := by decide +kernel
theorem dX11_total_29 : decode cX11_total 29 = .ok (.aload_n 0, 1) := by decide +kernel
theorem dX11_total_30 : decode cX11_total 30 = .ok (.getfield 80, 3) := by decide +kernel
theorem dX11_total_33 : decode cX11_total 33 = .ok (.aload 4, 2) := by decide +kernel
theorem dX11_total_35 : decode cX11_total 35 = .ok (.invokevirtual 466, 3) := by decide +kernel
theorem dX11_total_38 : decode cX11_total 38 = .ok (.ifCond .eq 30, 3) := by decide +kernel
theorem dX11_total_41 : decode cX11_total 41 = .ok (.aload_n 0, 1) := by decide +kernel
theorem dX11_total_42 : decode cX11_total 42 = .ok (.getfield 55, 3) := by decide +kernel
theorem dX11_total_45 : decode cX11_total 45 = .ok (.aload 4, 2) := by decide +kernel
theorem dX11_total_47 : decode cX11_total 47 = .ok (.invokevirtual 470, 3) := by decide +kernel
theorem dX11_total_50 : decode cX11_total 50 = .ok (.aload 4, 2) := by decide +kernel
theorem dX11_total_52 : decode cX11_total 52 = .ok (.invokevirtual 473, 3) := by decide +kernel
theorem dX11_total_55 : decode cX11_total 55 = .ok (.aload_n 0, 1) := by decide +kernel
theorem dX11_total_56 : decode cX11_total 56 = .ok (.getfield 55, 3) := by decide +kernel
theorem dX11_total_59 : decode cX11_total 59 = .ok (.getfield 432, 3) := by decide +kernel
theorem dX11_total_62 : decode cX11_total 62 = .ok (.invokevirtual 435, 3) := by decide +kernel
theorem dX11_total_65 : decode cX11_total 65 = .ok (.goto 4, 3) := by decide +kernel
theorem dX11_total_68 : decode cX11_total 68 = .ok (.iconst (-1), 1) := by decide +kernel
theorem dX11_total_69 : decode cX11_total 69 = .ok (.istore 5, 2) := by decide +kernel
theorem dX11_total_71 : decode cX11_total 71 = .ok (.iload 5, 2) := by decide +kernel
theorem dX11_total_73 : decode cX11_total 73 = .ok (.iconst (-1), 1) := by decide +kernel
theorem dX11_total_74 : decode cX11_total 74 = .ok (.if_icmp .ne 22, 3) := by decide +kernel
theorem dX11_total_77 : decode cX11_total 77 = .ok (.iload_n 2, 1) := by decide +kernel
theorem dX11_total_78 : decode cX11_total 78 = .ok (.iload_n 1, 1) := by decide +kernel
theorem dX11_total_79 : decode cX11_total 79 = .ok (.ifCond .eq 9, 3) := by decide +kernel
theorem dX11_total_82 : decode cX11_total 82 = .ok (.sipush 999, 3) := by decide +kernel
theorem dX11_total_85 : decode cX11_total 85 = .ok (.goto 6, 3) := by decide +kernel
theorem dX11_total_88 : decode cX11_total 88 = .ok (.sipush 9999, 3) := by decide +kernel
theorem dX11_total_91 : decode cX11_total 91 = .ok (.iadd, 1) := by decide +kernel
theorem dX11_total_92 : decode cX11_total 92 = .ok (.istore_n 2, 1) := by decide +kernel
theorem dX11_total_93 : decode cX11_total 93 = .ok (.goto 57, 3) := by decide +kernel
theorem dX11_total_96 : decode cX11_total 96 = .ok (.iload_n 1, 1) := by decide +kernel
theorem dX11_total_97 : decode cX11_total 97 = .ok (.ifCond .eq 48, 3) := by decide +kernel
theorem dX11_total_100 : decode cX11_total 100 = .ok (.aload_n 0, 1) := by decide +kernel
theorem dX11_total_101 : decode cX11_total 101 = .ok (.getfield 55, 3) := by decide +kernel
theorem dX11_total_104 : decode cX11_total 104 = .ok (.aload 4, 2) := by decide +kernel
theorem dX11_total_106 : decode cX11_total 106 = .ok (.getfield 476, 3) := by decide +kernel
theorem dX11_total_109 : decode cX11_total 109 = .ok (.aload 4, 2) := by decide +kernel
theorem dX11_total_111 : decode cX11_total 111 = .ok (.getfield 477, 3) := by decide +kernel
theorem dX11_total_114 : decode cX11_total 114 = .ok (.aload 4, 2) := by decide +kernel
theorem dX11_total_116 : decode cX11_total 116 = .ok (.getfield 478, 3) := by decide +kernel
theorem dX11_total_119 : decode cX11_total 119 = .ok (.aload 4, 2) := by decide +kernel
theorem dX11_total_121 : decode cX11_total 121 = .ok (.getfield 479, 3) := by decide +kernel
theorem dX11_total_124 : decode cX11_total 124 = .ok (.aload 4, 2) := by decide +kernel
theorem dX11_total_126 : decode cX11_total 126 = .ok (.getfield 480, 3) := by decide +kernel
theorem dX11_total_129 : decode cX11_total 129 = .ok (.invokevirtual 439, 3) := by decide +kernel
theorem dX11_total_132 : decode cX11_total 132 = .ok (.iload_n 2, 1) := by decide +kernel
theorem dX11_total_133 : decode cX11_total 133 = .ok (.aload_n 0, 1) := by decide +kernel
theorem dX11_total_134 : decode cX11_total 134 = .ok (.getfield 55, 3) := by decide +kernel
theorem dX11_total_137 : decode cX11_total 137 = .ok (.getfield 443, 3) := by decide +kernel
theorem dX11_total_140 : decode cX11_total 140 = .ok (.iadd, 1) := by decide +kernel
theorem dX11_total_141 : decode cX11_total 141 = .ok (.istore_n 2, 1) := by decide +kernel
theorem dX11_total_142 : decode cX11_total 142 = .ok (.goto 8, 3) := by decide +kernel
theorem dX11_total_145 : decode cX11_total 145 = .ok (.iload_n 2, 1) := by decide +kernel
theorem dX11_total_146 : decode cX11_total 146 = .ok (.iload 5, 2) := by decide +kernel
theorem dX11_total_148 : decode cX11_total 148 = .ok (.iadd, 1) := by decide +kernel
theorem dX11_total_149 : decode cX11_total 149 = .ok (.istore_n 2, 1) := by decide +kernel
theorem dX11_total_150 : decode cX11_total 150 = .ok (.iinc 3 1, 3) := by decide +kernel
theorem dX11_total_153 : decode cX11_total 153 = .ok (.goto (-149), 3) := by decide +kernel
theorem dX11_total_156 : decode cX11_total 156 = .ok (.iload_n 2, 1) := by decide +kernel
theorem dX11_total_157 : decode cX11_total 157 = .ok (.ireturn, 1) := by decide +kernel
theorem dX11_where_0 : decode cX11_where 0 = .ok (.aload_n 0, 1) := by decide +kernel
theorem dX11_where_1 : decode cX11_where 1 = .ok (.getfield 80, 3) := by decide +kernel
theorem dX11_where_4 : decode cX11_where 4 = .ok (.iload_n 1, 1) := by decide +kernel
theorem dX11_where_5 : decode cX11_where 5 = .ok (.invokevirtual 176, 3) := by decide +kernel
theorem dX11_where_8 : decode cX11_where 8 = .ok (.ifCond .eq 12, 3) := by decide +kernel
theorem dX11_where_11 : decode cX11_where 11 = .ok (.iload_n 2, 1) := by decide +kernel
theorem dX11_where_12 : decode cX11_where 12 = .ok (.ifCond .lt 8, 3) := by decide +kernel
theorem dX11_where_15 : decode cX11_where 15 = .ok (.iload_n 2, 1) := by decide +kernel
theorem dX11_where_16 : decode cX11_where 16 = .ok (.iconst 1, 1) := by decide +kernel
theorem dX11_where_17 : decode cX11_where 17 = .ok (.if_icmp .le 5, 3) := by decide +kernel
theorem dX11_where_20 : decode cX11_where 20 = .ok (.iconst (-1), 1) := by decide +kernel
theorem dX11_where_21 : decode cX11_where 21 = .ok (.ireturn, 1) := by decide +kernel
theorem dX11_where_22 : decode cX11_where 22 = .ok (.aload_n 0, 1) := by decide +kernel
theorem dX11_where_23 : decode cX11_where 23 = .ok (.getfield 55, 3) := by decide +kernel
theorem dX11_where_26 : decode cX11_where 26 = .ok (.aload_n 0, 1) := by decide +kernel
theorem dX11_where_27 : decode cX11_where 27 = .ok (.getfield 80, 3) := by decide +kernel
theorem dX11_where_30 : decode cX11_where 30 = .ok (.iconst (-1), 1) := by decide +kernel
theorem dX11_where_31 : decode cX11_where 31 = .ok (.invokevirtual 428, 3) := by decide +kernel
theorem dX11_where_34 : decode cX11_where 34 = .ok (.aload_n 0, 1) := by decide +kernel
theorem dX11_where_35 : decode cX11_where 35 = .ok (.getfield 55, 3) := by decide +kernel
theorem dX11_where_38 : decode cX11_where 38 = .ok (.invokevirtual 481, 3) := by decide +kernel
theorem dX11_where_41 : decode cX11_where 41 = .ok (.iconst 0, 1) := by decide +kernel
theorem dX11_where_42 : decode cX11_where 42 = .ok (.istore_n 3, 1) := by decide +kernel
theorem dX11_where_43 : decode cX11_where 43 = .ok (.iload_n 3, 1) := by decide +kernel
theorem dX11_where_44 : decode cX11_where 44 = .ok (.bipush 6, 2) := by decide +kernel
theorem dX11_where_46 : decode cX11_where 46 = .ok (.if_icmp .ge 75, 3) := by decide +kernel
theorem dX11_where_49 : decode cX11_where 49 = .ok (.aload_n 0, 1) := by decide +kernel
theorem dX11_where_50 : decode cX11_where 50 = .ok (.getfield 80, 3) := by decide +kernel
theorem dX11_where_53 : decode cX11_where 53 = .ok (.getfield 452, 3) := by decide +kernel
theorem dX11_where_56 : decode cX11_where 56 = .ok (.iload_n 3, 1) := by decide +kernel
theorem dX11_where_57 : decode cX11_where 57 = .ok (.aaload, 1) := by decide +kernel
theorem dX11_where_58 : decode cX11_where 58 = .ok (.astore 4, 2) := by decide +kernel
theorem dX11_where_60 : decode cX11_where 60 = .ok (.aload 4, 2) := by decide +kernel
theorem dX11_where_62 : decode cX11_where 62 = .ok (.getfield 463, 3) := by decide +kernel
theorem dX11_where_65 : decode cX11_where 65 = .ok (.ifCond .eq 50, 3) := by decide +kernel
theorem dX11_where_68 : decode cX11_where 68 = .ok (.aload_n 0, 1) := by decide +kernel
theorem dX11_where_69 : decode cX11_where 69 = .ok (.getfield 80, 3) := by decide +kernel
theorem dX11_where_72 : decode cX11_where 72 = .ok (.aload 4, 2) := by decide +kernel
theorem dX11_where_74 : decode cX11_where 74 = .ok (.invokevirtual 466, 3) := by decide +kernel
theorem dX11_where_77 : decode cX11_where 77 = .ok (.ifCond .eq 38, 3) := by decide +kernel
theorem dX11_where_80 : decode cX11_where 80 = .ok (.aload_n 0, 1) := by decide +kernel
theorem dX11_where_81 : decode cX11_where 81 = .ok (.getfield 80, 3) := by decide +kernel
theorem dX11_where_84 : decode cX11_where 84 = .ok (.getfield 182, 3) := by decide +kernel
theorem dX11_where_87 : decode cX11_where 87 = .ok (.iload_n 1, 1) := by decide +kernel
theorem dX11_where_88 : decode cX11_where 88 = .ok (.aaload, 1) := by decide +kernel
theorem dX11_where_89 : decode cX11_where 89 = .ok (.aload 4, 2) := by decide +kernel
theorem dX11_where_91 : decode cX11_where 91 = .ok (.invokevirtual 484, 3) := by decide +kernel
theorem dX11_where_94 : decode cX11_where 94 = .ok (.ifCond .eq 21, 3) := by decide +kernel
theorem dX11_where_97 : decode cX11_where 97 = .ok (.aload_n 0, 1) := by decide +kernel
theorem dX11_where_98 : decode cX11_where 98 = .ok (.getfield 55, 3) := by decide +kernel
theorem dX11_where_101 : decode cX11_where 101 = .ok (.aload_n 0, 1) := by decide +kernel
theorem dX11_where_102 : decode cX11_where 102 = .ok (.getfield 80, 3) := by decide +kernel
theorem dX11_where_105 : decode cX11_where 105 = .ok (.getfield 182, 3) := by decide +kernel
theorem dX11_where_108 : decode cX11_where 108 = .ok (.iload_n 1, 1) := by decide +kernel
theorem dX11_where_109 : decode cX11_where 109 = .ok (.aaload, 1) := by decide +kernel
theorem dX11_where_110 : decode cX11_where 110 = .ok (.aload 4, 2) := by decide +kernel
theorem dX11_where_112 : decode cX11_where 112 = .ok (.invokevirtual 487, 3) := by decide +kernel
theorem dX11_where_115 : decode cX11_where 115 = .ok (.iinc 3 1, 3) := by decide +kernel
theorem dX11_where_118 : decode cX11_where 118 = .ok (.goto (-75), 3) := by decide +kernel
theorem dX11_where_121 : decode cX11_where 121 = .ok (.aload_n 0, 1) := by decide +kernel
theorem dX11_where_122 : decode cX11_where 122 = .ok (.getfield 55, 3) := by decide +kernel
theorem dX11_where_125 : decode cX11_where 125 = .ok (.aload_n 0, 1) := by decide +kernel
theorem dX11_where_126 : decode cX11_where 126 = .ok (.getfield 80, 3) := by decide +kernel
theorem dX11_where_129 : decode cX11_where 129 = .ok (.getfield 182, 3) := by decide +kernel
theorem dX11_where_132 : decode cX11_where 132 = .ok (.iload_n 1, 1) := by decide +kernel
theorem dX11_where_133 : decode cX11_where 133 = .ok (.aaload, 1) := by decide +kernel
theorem dX11_where_134 : decode cX11_where 134 = .ok (.invokevirtual 491, 3) := by decide +kernel
theorem dX11_where_137 : decode cX11_where 137 = .ok (.istore_n 3, 1) := by decide +kernel
theorem dX11_where_138 : decode cX11_where 138 = .ok (.iload_n 2, 1) := by decide +kernel
theorem dX11_where_139 : decode cX11_where 139 = .ok (.ifCond .ne 10, 3) := by decide +kernel
theorem dX11_where_142 : decode cX11_where 142 = .ok (.iload_n 3, 1) := by decide +kernel
theorem dX11_where_143 : decode cX11_where 143 = .ok (.bipush 40, 2) := by decide +kernel
theorem dX11_where_145 : decode cX11_where 145 = .ok (.idiv, 1) := by decide +kernel
theorem dX11_where_146 : decode cX11_where 146 = .ok (.goto 7, 3) := by decide +kernel
theorem dX11_where_149 : decode cX11_where 149 = .ok (.iload_n 3, 1) := by decide +kernel
theorem dX11_where_150 : decode cX11_where 150 = .ok (.bipush 40, 2) := by decide +kernel
theorem dX11_where_152 : decode cX11_where 152 = .ok (.irem, 1) := by decide +kernel
theorem dX11_where_153 : decode cX11_where 153 = .ok (.ireturn, 1) := by decide +kernel
theorem dX11_gains_0 : decode cX11_gains 0 = .ok (.aload_n 0, 1) := by decide +kernel
theorem dX11_gains_1 : decode cX11_gains 1 = .ok (.getfield 80, 3) := by decide +kernel
theorem dX11_gains_4 : decode cX11_gains 4 = .ok (.iload_n 1, 1) := by decide +kernel
theorem dX11_gains_5 : decode cX11_gains 5 = .ok (.invokevirtual 176, 3) := by decide +kernel
theorem dX11_gains_8 : decode cX11_gains 8 = .ok (.ifCond .ne 7, 3) := by decide +kernel
theorem dX11_gains_11 : decode cX11_gains 11 = .ok (.ldc_w 494, 3) := by decide +kernel
theorem dX11_gains_14 : decode cX11_gains 14 = .ok (.ireturn, 1) := by decide +kernel
theorem dX11_gains_15 : decode cX11_gains 15 = .ok (.aload_n 0, 1) := by decide +kernel
theorem dX11_gains_16 : decode cX11_gains 16 = .ok (.getfield 55, 3) := by decide +kernel
theorem dX11_gains_19 : decode cX11_gains 19 = .ok (.aload_n 0, 1) := by decide +kernel
theorem dX11_gains_20 : decode cX11_gains 20 = .ok (.getfield 80, 3) := by decide +kernel
theorem dX11_gains_23 : decode cX11_gains 23 = .ok (.iconst (-1), 1) := by decide +kernel
theorem dX11_gains_24 : decode cX11_gains 24 = .ok (.invokevirtual 428, 3) := by decide +kernel
theorem dX11_gains_27 : decode cX11_gains 27 = .ok (.aload_n 0, 1) := by decide +kernel
theorem dX11_gains_28 : decode cX11_gains 28 = .ok (.iconst 0, 1) := by decide +kernel
theorem dX11_gains_29 : decode cX11_gains 29 = .ok (.invokevirtual 460, 3) := by decide +kernel
theorem dX11_gains_32 : decode cX11_gains 32 = .ok (.istore_n 2, 1) := by decide +kernel
theorem dX11_gains_33 : decode cX11_gains 33 = .ok (.aload_n 0, 1) := by decide +kernel
theorem dX11_gains_34 : decode cX11_gains 34 = .ok (.getfield 55, 3) := by decide +kernel
theorem dX11_gains_37 : decode cX11_gains 37 = .ok (.aload_n 0, 1) := by decide +kernel
theorem dX11_gains_38 : decode cX11_gains 38 = .ok (.getfield 80, 3) := by decide +kernel
theorem dX11_gains_41 : decode cX11_gains 41 = .ok (.iload_n 1, 1) := by decide +kernel
theorem dX11_gains_42 : decode cX11_gains 42 = .ok (.invokevirtual 428, 3) := by decide +kernel
theorem dX11_gains_45 : decode cX11_gains 45 = .ok (.iload_n 2, 1) := by decide +kernel
theorem dX11_gains_46 : decode cX11_gains 46 = .ok (.aload_n 0, 1) := by decide +kernel
theorem dX11_gains_47 : decode cX11_gains 47 = .ok (.iconst 0, 1) := by decide +kernel
theorem dX11_gains_48 : decode cX11_gains 48 = .ok (.invokevirtual 460, 3) := by decide +kernel
theorem dX11_gains_51 : decode cX11_gains 51 = .ok (.isub, 1) := by decide +kernel
theorem dX11_gains_52 : decode cX11_gains 52 = .ok (.ireturn, 1) := by decide +kernel
theorem dX11_seed_0 : decode cX11_seed 0 = .ok (.iload_n 1, 1) := by decide +kernel
theorem dX11_seed_1 : decode cX11_seed 1 = .ok (.ifCond .ge 5, 3) := by decide +kernel
theorem dX11_seed_4 : decode cX11_seed 4 = .ok (.iconst (-1), 1) := by decide +kernel
theorem dX11_seed_5 : decode cX11_seed 5 = .ok (.ireturn, 1) := by decide +kernel
theorem dX11_seed_6 : decode cX11_seed 6 = .ok (.aload_n 0, 1) := by decide +kernel
theorem dX11_seed_7 : decode cX11_seed 7 = .ok (.getfield 80, 3) := by decide +kernel
theorem dX11_seed_10 : decode cX11_seed 10 = .ok (.getfield 304, 3) := by decide +kernel
theorem dX11_seed_13 : decode cX11_seed 13 = .ok (.istore_n 2, 1) := by decide +kernel
theorem dX11_seed_14 : decode cX11_seed 14 = .ok (.aload_n 0, 1) := by decide +kernel
theorem dX11_seed_15 : decode cX11_seed 15 = .ok (.getfield 80, 3) := by decide +kernel
theorem dX11_seed_18 : decode cX11_seed 18 = .ok (.iload_n 1, 1) := by decide +kernel
theorem dX11_seed_19 : decode cX11_seed 19 = .ok (.putfield 304, 3) := by decide +kernel
theorem dX11_seed_22 : decode cX11_seed 22 = .ok (.iload_n 2, 1) := by decide +kernel
theorem dX11_seed_23 : decode cX11_seed 23 = .ok (.ireturn, 1) := by decide +kernel
theorem dX11_years_0 : decode cX11_years 0 = .ok (.aload_n 0, 1) := by decide +kernel
theorem dX11_years_1 : decode cX11_years 1 = .ok (.iload_n 1, 1) := by decide +kernel
theorem dX11_years_2 : decode cX11_years 2 = .ok (.invokevirtual 133, 3) := by decide +kernel
theorem dX11_years_5 : decode cX11_years 5 = .ok (.astore_n 3, 1) := by decide +kernel
theorem dX11_years_6 : decode cX11_years 6 = .ok (.aload_n 3, 1) := by decide +kernel
theorem dX11_years_7 : decode cX11_years 7 = .ok (.ifnull 29, 3) := by decide +kernel
theorem dX11_years_10 : decode cX11_years 10 = .ok (.iload_n 2, 1) := by decide +kernel
theorem dX11_years_11 : decode cX11_years 11 = .ok (.iconst 1, 1) := by decide +kernel
theorem dX11_years_12 : decode cX11_years 12 = .ok (.if_icmp .lt 24, 3) := by decide +kernel
theorem dX11_years_15 : decode cX11_years 15 = .ok (.iload_n 2, 1) := by decide +kernel
theorem dX11_years_16 : decode cX11_years 16 = .ok (.bipush 60, 2) := by decide +kernel
theorem dX11_years_18 : decode cX11_years 18 = .ok (.if_icmp .gt 18, 3) := by decide +kernel
theorem dX11_years_21 : decode cX11_years 21 = .ok (.aload_n 0, 1) := by decide +kernel
theorem dX11_years_22 : decode cX11_years 22 = .ok (.getfield 80, 3) := by decide +kernel
theorem dX11_years_25 : decode cX11_years 25 = .ok (.getfield 301, 3) := by decide +kernel
theorem dX11_years_28 : decode cX11_years 28 = .ok (.iload_n 2, 1) := by decide +kernel
theorem dX11_years_29 : decode cX11_years 29 = .ok (.iadd, 1) := by decide +kernel
theorem dX11_years_30 : decode cX11_years 30 = .ok (.sipush 9999, 3) := by decide +kernel
theorem dX11_years_33 : decode cX11_years 33 = .ok (.if_icmp .le 5, 3) := by decide +kernel
theorem dX11_years_36 : decode cX11_years 36 = .ok (.iconst (-1), 1) := by decide +kernel
theorem dX11_years_37 : decode cX11_years 37 = .ok (.ireturn, 1) := by decide +kernel
theorem dX11_years_38 : decode cX11_years 38 = .ok (.aload_n 0, 1) := by decide +kernel
theorem dX11_years_39 : decode cX11_years 39 = .ok (.aload_n 3, 1) := by decide +kernel
theorem dX11_years_40 : decode cX11_years 40 = .ok (.iload_n 2, 1) := by decide +kernel
theorem dX11_years_41 : decode cX11_years 41 = .ok (.invokevirtual 495, 3) := by decide +kernel
theorem dX11_years_44 : decode cX11_years 44 = .ok (.ireturn, 1) := by decide +kernel
theorem dX11_after_0 : decode cX11_after 0 = .ok (.aload_n 0, 1) := by decide +kernel
theorem dX11_after_1 : decode cX11_after 1 = .ok (.iload_n 1, 1) := by decide +kernel
theorem dX11_after_2 : decode cX11_after 2 = .ok (.invokevirtual 133, 3) := by decide +kernel
theorem dX11_after_5 : decode cX11_after 5 = .ok (.astore 4, 2) := by decide +kernel
theorem dX11_after_7 : decode cX11_after 7 = .ok (.aload 4, 2) := by decide +kernel
theorem dX11_after_9 : decode cX11_after 9 = .ok (.ifnull 22, 3) := by decide +kernel
theorem dX11_after_12 : decode cX11_after 12 = .ok (.iload_n 2, 1) := by decide +kernel
theorem dX11_after_13 : decode cX11_after 13 = .ok (.ifCond .lt 18, 3) := by decide +kernel
theorem dX11_after_16 : decode cX11_after 16 = .ok (.iload_n 2, 1) := by decide +kernel
theorem dX11_after_17 : decode cX11_after 17 = .ok (.bipush 60, 2) := by decide +kernel
theorem dX11_after_19 : decode cX11_after 19 = .ok (.if_icmp .gt 12, 3) := by decide +kernel
theorem dX11_after_22 : decode cX11_after 22 = .ok (.iload_n 3, 1) := by decide +kernel
theorem dX11_after_23 : decode cX11_after 23 = .ok (.ifCond .lt 8, 3) := by decide +kernel
theorem dX11_after_26 : decode cX11_after 26 = .ok (.iload_n 3, 1) := by decide +kernel
theorem dX11_after_27 : decode cX11_after 27 = .ok (.iconst 3, 1) := by decide +kernel
theorem dX11_after_28 : decode cX11_after 28 = .ok (.if_icmp .le 5, 3) := by decide +kernel
theorem dX11_after_31 : decode cX11_after 31 = .ok (.iconst (-1), 1) := by decide +kernel
theorem dX11_after_32 : decode cX11_after 32 = .ok (.ireturn, 1) := by decide +kernel
theorem dX11_after_33 : decode cX11_after 33 = .ok (.aload_n 0, 1) := by decide +kernel
theorem dX11_after_34 : decode cX11_after 34 = .ok (.getfield 80, 3) := by decide +kernel
theorem dX11_after_37 : decode cX11_after 37 = .ok (.astore 5, 2) := by decide +kernel
theorem dX11_after_39 : decode cX11_after 39 = .ok (.aload_n 0, 1) := by decide +kernel
theorem dX11_after_40 : decode cX11_after 40 = .ok (.getfield 84, 3) := by decide +kernel
theorem dX11_after_43 : decode cX11_after 43 = .ok (.aload 5, 2) := by decide +kernel
theorem dX11_after_45 : decode cX11_after 45 = .ok (.invokevirtual 499, 3) := by decide +kernel
theorem dX11_after_48 : decode cX11_after 48 = .ok (.aload_n 0, 1) := by decide +kernel
theorem dX11_after_49 : decode cX11_after 49 = .ok (.aload_n 0, 1) := by decide +kernel
theorem dX11_after_50 : decode cX11_after 50 = .ok (.getfield 84, 3) := by decide +kernel
theorem dX11_after_53 : decode cX11_after 53 = .ok (.putfield 80, 3) := by decide +kernel
theorem dX11_after_56 : decode cX11_after 56 = .ok (.aload_n 0, 1) := by decide +kernel
theorem dX11_after_57 : decode cX11_after 57 = .ok (.aload 4, 2) := by decide +kernel
theorem dX11_after_59 : decode cX11_after 59 = .ok (.iload_n 2, 1) := by decide +kernel
theorem dX11_after_60 : decode cX11_after 60 = .ok (.invokevirtual 495, 3) := by decide +kernel
theorem dX11_after_63 : decode cX11_after 63 = .ok (.pop, 1) := by decide +kernel
theorem dX11_after_64 : decode cX11_after 64 = .ok (.aload_n 0, 1) := by decide +kernel
theorem dX11_after_65 : decode cX11_after 65 = .ok (.iload_n 3, 1) := by decide +kernel
theorem dX11_after_66 : decode cX11_after 66 = .ok (.invokevirtual 502, 3) := by decide +kernel
theorem dX11_after_69 : decode cX11_after 69 = .ok (.istore 6, 2) := by decide +kernel
theorem dX11_after_71 : decode cX11_after 71 = .ok (.aload_n 0, 1) := by decide +kernel
theorem dX11_after_72 : decode cX11_after 72 = .ok (.aload 5, 2) := by decide +kernel
theorem dX11_after_74 : decode cX11_after 74 = .ok (.putfield 80, 3) := by decide +kernel
theorem dX11_after_77 : decode cX11_after 77 = .ok (.iload 6, 2) := by decide +kernel
theorem dX11_after_79 : decode cX11_after 79 = .ok (.ireturn, 1) := by decide +kernel
theorem dX11_outlook_0 : decode cX11_outlook 0 = .ok (.iload_n 1, 1) := by decide +kernel
theorem dX11_outlook_1 : decode cX11_outlook 1 = .ok (.tableswitch 51 0 2 #[27, 35, 43], 27) := by decide +kernel
theorem dX11_outlook_28 : decode cX11_outlook 28 = .ok (.aload_n 0, 1) := by decide +kernel
theorem dX11_outlook_29 : decode cX11_outlook 29 = .ok (.getfield 80, 3) := by decide +kernel
theorem dX11_outlook_32 : decode cX11_outlook 32 = .ok (.invokevirtual 298, 3) := by decide +kernel
theorem dX11_outlook_35 : decode cX11_outlook 35 = .ok (.ireturn, 1) := by decide +kernel
theorem dX11_outlook_36 : decode cX11_outlook 36 = .ok (.aload_n 0, 1) := by decide +kernel
theorem dX11_outlook_37 : decode cX11_outlook 37 = .ok (.getfield 80, 3) := by decide +kernel
theorem dX11_outlook_40 : decode cX11_outlook 40 = .ok (.invokevirtual 262, 3) := by decide +kernel
theorem dX11_outlook_43 : decode cX11_outlook 43 = .ok (.ireturn, 1) := by decide +kernel
theorem dX11_outlook_44 : decode cX11_outlook 44 = .ok (.aload_n 0, 1) := by decide +kernel
theorem dX11_outlook_45 : decode cX11_outlook 45 = .ok (.getfield 80, 3) := by decide +kernel
theorem dX11_outlook_48 : decode cX11_outlook 48 = .ok (.invokevirtual 505, 3) := by decide +kernel
theorem dX11_outlook_51 : decode cX11_outlook 51 = .ok (.ireturn, 1) := by decide +kernel
theorem dX11_outlook_52 : decode cX11_outlook 52 = .ok (.aload_n 0, 1) := by decide +kernel
theorem dX11_outlook_53 : decode cX11_outlook 53 = .ok (.getfield 80, 3) := by decide +kernel
theorem dX11_outlook_56 : decode cX11_outlook 56 = .ok (.invokevirtual 265, 3) := by decide +kernel
theorem dX11_outlook_59 : decode cX11_outlook 59 = .ok (.ireturn, 1) := by decide +kernel
theorem dX11_live_0 : decode cX11_live 0 = .ok (.iconst 0, 1) := by decide +kernel
theorem dX11_live_1 : decode cX11_live 1 = .ok (.istore_n 3, 1) := by decide +kernel
theorem dX11_live_2 : decode cX11_live 2 = .ok (.iconst 0, 1) := by decide +kernel
theorem dX11_live_3 : decode cX11_live 3 = .ok (.istore 4, 2) := by decide +kernel
theorem dX11_live_5 : decode cX11_live 5 = .ok (.iload 4, 2) := by decide +kernel
theorem dX11_live_7 : decode cX11_live 7 = .ok (.iload_n 2, 1) := by decide +kernel
theorem dX11_live_8 : decode cX11_live 8 = .ok (.if_icmp .ge 43, 3) := by decide +kernel
theorem dX11_live_11 : decode cX11_live 11 = .ok (.aload_n 0, 1) := by decide +kernel
theorem dX11_live_12 : decode cX11_live 12 = .ok (.getfield 80, 3) := by decide +kernel
theorem dX11_live_15 : decode cX11_live 15 = .ok (.getfield 113, 3) := by decide +kernel
theorem dX11_live_18 : decode cX11_live 18 = .ok (.ifCond .le 14, 3) := by decide +kernel
theorem dX11_live_21 : decode cX11_live 21 = .ok (.aload_n 0, 1) := by decide +kernel
theorem dX11_live_22 : decode cX11_live 22 = .ok (.aload_n 1, 1) := by decide +kernel
theorem dX11_live_23 : decode cX11_live 23 = .ok (.invokevirtual 508, 3) := by decide +kernel
theorem dX11_live_26 : decode cX11_live 26 = .ok (.ifCond .eq 6, 3) := by decide +kernel
theorem dX11_live_29 : decode cX11_live 29 = .ok (.iinc 3 1, 3) := by decide +kernel
theorem dX11_live_32 : decode cX11_live 32 = .ok (.aload_n 0, 1) := by decide +kernel
theorem dX11_live_33 : decode cX11_live 33 = .ok (.getfield 80, 3) := by decide +kernel
theorem dX11_live_36 : decode cX11_live 36 = .ok (.dup, 1) := by decide +kernel
theorem dX11_live_37 : decode cX11_live 37 = .ok (.getfield 301, 3) := by decide +kernel
theorem dX11_live_40 : decode cX11_live 40 = .ok (.iconst 1, 1) := by decide +kernel
theorem dX11_live_41 : decode cX11_live 41 = .ok (.iadd, 1) := by decide +kernel
theorem dX11_live_42 : decode cX11_live 42 = .ok (.putfield 301, 3) := by decide +kernel
theorem dX11_live_45 : decode cX11_live 45 = .ok (.iinc 4 1, 3) := by decide +kernel
theorem dX11_live_48 : decode cX11_live 48 = .ok (.goto (-43), 3) := by decide +kernel
theorem dX11_live_51 : decode cX11_live 51 = .ok (.iload_n 3, 1) := by decide +kernel
theorem dX11_live_52 : decode cX11_live 52 = .ok (.ireturn, 1) := by decide +kernel
theorem dX11_drawWall_0 : decode cX11_drawWall 0 = .ok (.aload_n 0, 1) := by decide +kernel
theorem dX11_drawWall_1 : decode cX11_drawWall 1 = .ok (.getfield 80, 3) := by decide +kernel
theorem dX11_drawWall_4 : decode cX11_drawWall 4 = .ok (.invokevirtual 512, 3) := by decide +kernel
theorem dX11_drawWall_7 : decode cX11_drawWall 7 = .ok (.bipush 12, 2) := by decide +kernel
theorem dX11_drawWall_9 : decode cX11_drawWall 9 = .ok (.irem, 1) := by decide +kernel
theorem dX11_drawWall_10 : decode cX11_drawWall 10 = .ok (.istore_n 2, 1) := by decide +kernel
theorem dX11_drawWall_11 : decode cX11_drawWall 11 = .ok (.aload_n 0, 1) := by decide +kernel
theorem dX11_drawWall_12 : decode cX11_drawWall 12 = .ok (.getfield 80, 3) := by decide +kernel
theorem dX11_drawWall_15 : decode cX11_drawWall 15 = .ok (.aload_n 0, 1) := by decide +kernel
theorem dX11_drawWall_16 : decode cX11_drawWall 16 = .ok (.getfield 80, 3) := by decide +kernel
theorem dX11_drawWall_19 : decode cX11_drawWall 19 = .ok (.invokevirtual 512, 3) := by decide +kernel
theorem dX11_drawWall_22 : decode cX11_drawWall 22 = .ok (.invokevirtual 515, 3) := by decide +kernel
theorem dX11_drawWall_25 : decode cX11_drawWall 25 = .ok (.istore_n 3, 1) := by decide +kernel
theorem dX11_drawWall_26 : decode cX11_drawWall 26 = .ok (.iconst 1, 1) := by decide +kernel
theorem dX11_drawWall_27 : decode cX11_drawWall 27 = .ok (.aload_n 0, 1) := by decide +kernel
theorem dX11_drawWall_28 : decode cX11_drawWall 28 = .ok (.getfield 80, 3) := by decide +kernel
theorem dX11_drawWall_31 : decode cX11_drawWall 31 = .ok (.invokevirtual 512, 3) := by decide +kernel
theorem dX11_drawWall_34 : decode cX11_drawWall 34 = .ok (.iconst 3, 1) := by decide +kernel
theorem dX11_drawWall_35 : decode cX11_drawWall 35 = .ok (.irem, 1) := by decide +kernel
theorem dX11_drawWall_36 : decode cX11_drawWall 36 = .ok (.iadd, 1) := by decide +kernel
theorem dX11_drawWall_37 : decode cX11_drawWall 37 = .ok (.istore 4, 2) := by decide +kernel
theorem dX11_drawWall_39 : decode cX11_drawWall 39 = .ok (.iconst 1, 1) := by decide +kernel
theorem dX11_drawWall_40 : decode cX11_drawWall 40 = .ok (.aload_n 0, 1) := by decide +kernel
theorem dX11_drawWall_41 : decode cX11_drawWall 41 = .ok (.getfield 80, 3) := by decide +kernel
theorem dX11_drawWall_44 : decode cX11_drawWall 44 = .ok (.invokevirtual 512, 3) := by decide +kernel
theorem dX11_drawWall_47 : decode cX11_drawWall 47 = .ok (.iconst 3, 1) := by decide +kernel
theorem dX11_drawWall_48 : decode cX11_drawWall 48 = .ok (.irem, 1) := by decide +kernel
theorem dX11_drawWall_49 : decode cX11_drawWall 49 = .ok (.iadd, 1) := by decide +kernel
theorem dX11_drawWall_50 : decode cX11_drawWall 50 = .ok (.istore 5, 2) := by decide +kernel
theorem dX11_drawWall_52 : decode cX11_drawWall 52 = .ok (.iconst 1, 1) := by decide +kernel
theorem dX11_drawWall_53 : decode cX11_drawWall 53 = .ok (.aload_n 0, 1) := by decide +kernel
theorem dX11_drawWall_54 : decode cX11_drawWall 54 = .ok (.getfield 80, 3) := by decide +kernel
theorem dX11_drawWall_57 : decode cX11_drawWall 57 = .ok (.invokevirtual 512, 3) := by decide +kernel
theorem dX11_drawWall_60 : decode cX11_drawWall 60 = .ok (.iconst 3, 1) := by decide +kernel
theorem dX11_drawWall_61 : decode cX11_drawWall 61 = .ok (.irem, 1) := by decide +kernel
theorem dX11_drawWall_62 : decode cX11_drawWall 62 = .ok (.iadd, 1) := by decide +kernel
theorem dX11_drawWall_63 : decode cX11_drawWall 63 = .ok (.istore 6, 2) := by decide +kernel
theorem dX11_drawWall_65 : decode cX11_drawWall 65 = .ok (.iconst 1, 1) := by decide +kernel
theorem dX11_drawWall_66 : decode cX11_drawWall 66 = .ok (.aload_n 0, 1) := by decide +kernel
theorem dX11_drawWall_67 : decode cX11_drawWall 67 = .ok (.getfield 80, 3) := by decide +kernel
theorem dX11_drawWall_70 : decode cX11_drawWall 70 = .ok (.invokevirtual 512, 3) := by decide +kernel
theorem dX11_drawWall_73 : decode cX11_drawWall 73 = .ok (.iconst 3, 1) := by decide +kernel
theorem dX11_drawWall_74 : decode cX11_drawWall 74 = .ok (.irem, 1) := by decide +kernel
theorem dX11_drawWall_75 : decode cX11_drawWall 75 = .ok (.iadd, 1) := by decide +kernel
theorem dX11_drawWall_76 : decode cX11_drawWall 76 = .ok (.istore 7, 2) := by decide +kernel
theorem dX11_drawWall_78 : decode cX11_drawWall 78 = .ok (.aload_n 0, 1) := by decide +kernel
theorem dX11_drawWall_79 : decode cX11_drawWall 79 = .ok (.getfield 80, 3) := by decide +kernel
theorem dX11_drawWall_82 : decode cX11_drawWall 82 = .ok (.invokevirtual 149, 3) := by decide +kernel
theorem dX11_drawWall_85 : decode cX11_drawWall 85 = .ok (.istore 8, 2) := by decide +kernel
theorem dX11_drawWall_87 : decode cX11_drawWall 87 = .ok (.iload_n 3, 1) := by decide +kernel
theorem dX11_drawWall_88 : decode cX11_drawWall 88 = .ok (.iconst (-1), 1) := by decide +kernel
theorem dX11_drawWall_89 : decode cX11_drawWall 89 = .ok (.if_icmp .eq 9, 3) := by decide +kernel
theorem dX11_drawWall_92 : decode cX11_drawWall 92 = .ok (.iload 8, 2) := by decide +kernel
theorem dX11_drawWall_94 : decode cX11_drawWall 94 = .ok (.iconst (-1), 1) := by decide +kernel
theorem dX11_drawWall_95 : decode cX11_drawWall 95 = .ok (.if_icmp .ne 5, 3) := by decide +kernel
theorem dX11_drawWall_98 : decode cX11_drawWall 98 = .ok (.iconst 0, 1) := by decide +kernel
theorem dX11_drawWall_99 : decode cX11_drawWall 99 = .ok (.ireturn, 1) := by decide +kernel
theorem dX11_drawWall_100 : decode cX11_drawWall 100 = .ok (.aload_n 0, 1) := by decide +kernel
theorem dX11_drawWall_101 : decode cX11_drawWall 101 = .ok (.aload_n 0, 1) := by decide +kernel
theorem dX11_drawWall_102 : decode cX11_drawWall 102 = .ok (.getfield 62, 3) := by decide +kernel
theorem dX11_drawWall_105 : decode cX11_drawWall 105 = .ok (.iload_n 2, 1) := by decide +kernel
theorem dX11_drawWall_106 : decode cX11_drawWall 106 = .ok (.iload_n 3, 1) := by decide +kernel
theorem dX11_drawWall_107 : decode cX11_drawWall 107 = .ok (.iconst (-1), 1) := by decide +kernel
theorem dX11_drawWall_108 : decode cX11_drawWall 108 = .ok (.invokevirtual 379, 3) := by decide +kernel
theorem dX11_drawWall_111 : decode cX11_drawWall 111 = .ok (.aload_n 0, 1) := by decide +kernel
theorem dX11_drawWall_112 : decode cX11_drawWall 112 = .ok (.getfield 62, 3) := by decide +kernel
theorem dX11_drawWall_115 : decode cX11_drawWall 115 = .ok (.iload 4, 2) := by decide +kernel
theorem dX11_drawWall_117 : decode cX11_drawWall 117 = .ok (.iload 5, 2) := by decide +kernel
theorem dX11_drawWall_119 : decode cX11_drawWall 119 = .ok (.iload 6, 2) := by decide +kernel
theorem dX11_drawWall_121 : decode cX11_drawWall 121 = .ok (.iload 7, 2) := by decide +kernel
theorem dX11_drawWall_123 : decode cX11_drawWall 123 = .ok (.invokevirtual 284, 3) := by decide +kernel
theorem dX11_drawWall_126 : decode cX11_drawWall 126 = .ok (.aload_n 0, 1) := by decide +kernel
theorem dX11_drawWall_127 : decode cX11_drawWall 127 = .ok (.aload_n 1, 1) := by decide +kernel
theorem dX11_drawWall_128 : decode cX11_drawWall 128 = .ok (.aload_n 0, 1) := by decide +kernel
theorem dX11_drawWall_129 : decode cX11_drawWall 129 = .ok (.getfield 62, 3) := by decide +kernel
theorem dX11_drawWall_132 : decode cX11_drawWall 132 = .ok (.invokevirtual 145, 3) := by decide +kernel
theorem dX11_drawWall_135 : decode cX11_drawWall 135 = .ok (.ifCond .ne 5, 3) := by decide +kernel
theorem dX11_drawWall_138 : decode cX11_drawWall 138 = .ok (.iconst 0, 1) := by decide +kernel
theorem dX11_drawWall_139 : decode cX11_drawWall 139 = .ok (.ireturn, 1) := by decide +kernel
theorem dX11_drawWall_140 : decode cX11_drawWall 140 = .ok (.aload_n 0, 1) := by decide +kernel
theorem dX11_drawWall_141 : decode cX11_drawWall 141 = .ok (.getfield 80, 3) := by decide +kernel
theorem dX11_drawWall_144 : decode cX11_drawWall 144 = .ok (.iload 8, 2) := by decide +kernel
theorem dX11_drawWall_146 : decode cX11_drawWall 146 = .ok (.aload_n 0, 1) := by decide +kernel
theorem dX11_drawWall_147 : decode cX11_drawWall 147 = .ok (.getfield 62, 3) := by decide +kernel
theorem dX11_drawWall_150 : decode cX11_drawWall 150 = .ok (.invokevirtual 153, 3) := by decide +kernel
theorem dX11_drawWall_153 : decode cX11_drawWall 153 = .ok (.iconst 1, 1) := by decide +kernel
theorem dX11_drawWall_154 : decode cX11_drawWall 154 = .ok (.ireturn, 1) := by decide +kernel
theorem dX11_image_0 : decode cX11_image 0 = .ok (.iload_n 1, 1) := by decide +kernel
theorem dX11_image_1 : decode cX11_image 1 = .ok (.ifCond .lt 8, 3) := by decide +kernel
theorem dX11_image_4 : decode cX11_image 4 = .ok (.iload_n 1, 1) := by decide +kernel
theorem dX11_image_5 : decode cX11_image 5 = .ok (.iconst 4, 1) := by decide +kernel
theorem dX11_image_6 : decode cX11_image 6 = .ok (.if_icmp .lt 5, 3) := by decide +kernel
theorem dX11_image_9 : decode cX11_image 9 = .ok (.iconst (-1), 1) := by decide +kernel
theorem dX11_image_10 : decode cX11_image 10 = .ok (.ireturn, 1) := by decide +kernel
theorem dX11_image_11 : decode cX11_image 11 = .ok (.aload_n 0, 1) := by decide +kernel
theorem dX11_image_12 : decode cX11_image 12 = .ok (.getfield 41, 3) := by decide +kernel
theorem dX11_image_15 : decode cX11_image 15 = .ok (.iload_n 1, 1) := by decide +kernel
theorem dX11_image_16 : decode cX11_image 16 = .ok (.aaload, 1) := by decide +kernel
theorem dX11_image_17 : decode cX11_image 17 = .ok (.astore_n 2, 1) := by decide +kernel
theorem dX11_image_18 : decode cX11_image 18 = .ok (.aload_n 2, 1) := by decide +kernel
theorem dX11_image_19 : decode cX11_image 19 = .ok (.ifnonnull 18, 3) := by decide +kernel
theorem dX11_image_22 : decode cX11_image 22 = .ok (.new 39, 3) := by decide +kernel
theorem dX11_image_25 : decode cX11_image 25 = .ok (.dup, 1) := by decide +kernel
theorem dX11_image_26 : decode cX11_image 26 = .ok (.invokespecial 79, 3) := by decide +kernel
theorem dX11_image_29 : decode cX11_image 29 = .ok (.astore_n 2, 1) := by decide +kernel
theorem dX11_image_30 : decode cX11_image 30 = .ok (.aload_n 0, 1) := by decide +kernel
theorem dX11_image_31 : decode cX11_image 31 = .ok (.getfield 41, 3) := by decide +kernel
theorem dX11_image_34 : decode cX11_image 34 = .ok (.iload_n 1, 1) := by decide +kernel
theorem dX11_image_35 : decode cX11_image 35 = .ok (.aload_n 2, 1) := by decide +kernel
theorem dX11_image_36 : decode cX11_image 36 = .ok (.aastore, 1) := by decide +kernel
theorem dX11_image_37 : decode cX11_image 37 = .ok (.aload_n 2, 1) := by decide +kernel
theorem dX11_image_38 : decode cX11_image 38 = .ok (.aload_n 0, 1) := by decide +kernel
theorem dX11_image_39 : decode cX11_image 39 = .ok (.getfield 80, 3) := by decide +kernel
theorem dX11_image_42 : decode cX11_image 42 = .ok (.invokevirtual 499, 3) := by decide +kernel
theorem dX11_image_45 : decode cX11_image 45 = .ok (.aload_n 0, 1) := by decide +kernel
theorem dX11_image_46 : decode cX11_image 46 = .ok (.getfield 80, 3) := by decide +kernel
theorem dX11_image_49 : decode cX11_image 49 = .ok (.invokevirtual 298, 3) := by decide +kernel
theorem dX11_image_52 : decode cX11_image 52 = .ok (.ireturn, 1) := by decide +kernel
theorem dX11_back_0 : decode cX11_back 0 = .ok (.iload_n 1, 1) := by decide +kernel
theorem dX11_back_1 : decode cX11_back 1 = .ok (.ifCond .lt 8, 3) := by decide +kernel
theorem dX11_back_4 : decode cX11_back 4 = .ok (.iload_n 1, 1) := by decide +kernel
theorem dX11_back_5 : decode cX11_back 5 = .ok (.iconst 4, 1) := by decide +kernel
theorem dX11_back_6 : decode cX11_back 6 = .ok (.if_icmp .lt 5, 3) := by decide +kernel
theorem dX11_back_9 : decode cX11_back 9 = .ok (.iconst (-1), 1) := by decide +kernel
theorem dX11_back_10 : decode cX11_back 10 = .ok (.ireturn, 1) := by decide +kernel
theorem dX11_back_11 : decode cX11_back 11 = .ok (.aload_n 0, 1) := by decide +kernel
theorem dX11_back_12 : decode cX11_back 12 = .ok (.getfield 41, 3) := by decide +kernel
theorem dX11_back_15 : decode cX11_back 15 = .ok (.iload_n 1, 1) := by decide +kernel
theorem dX11_back_16 : decode cX11_back 16 = .ok (.aaload, 1) := by decide +kernel
theorem dX11_back_17 : decode cX11_back 17 = .ok (.astore_n 2, 1) := by decide +kernel
theorem dX11_back_18 : decode cX11_back 18 = .ok (.aload_n 2, 1) := by decide +kernel
theorem dX11_back_19 : decode cX11_back 19 = .ok (.ifnonnull 5, 3) := by decide +kernel
theorem dX11_back_22 : decode cX11_back 22 = .ok (.iconst (-1), 1) := by decide +kernel
theorem dX11_back_23 : decode cX11_back 23 = .ok (.ireturn, 1) := by decide +kernel
theorem dX11_back_24 : decode cX11_back 24 = .ok (.aload_n 0, 1) := by decide +kernel
theorem dX11_back_25 : decode cX11_back 25 = .ok (.getfield 80, 3) := by decide +kernel
theorem dX11_back_28 : decode cX11_back 28 = .ok (.aload_n 2, 1) := by decide +kernel
theorem dX11_back_29 : decode cX11_back 29 = .ok (.invokevirtual 499, 3) := by decide +kernel
theorem dX11_back_32 : decode cX11_back 32 = .ok (.aload_n 0, 1) := by decide +kernel
theorem dX11_back_33 : decode cX11_back 33 = .ok (.getfield 48, 3) := by decide +kernel
theorem dX11_back_36 : decode cX11_back 36 = .ok (.aload_n 0, 1) := by decide +kernel
theorem dX11_back_37 : decode cX11_back 37 = .ok (.getfield 80, 3) := by decide +kernel
theorem dX11_back_40 : decode cX11_back 40 = .ok (.invokevirtual 110, 3) := by decide +kernel
theorem dX11_back_43 : decode cX11_back 43 = .ok (.aload_n 0, 1) := by decide +kernel
theorem dX11_back_44 : decode cX11_back 44 = .ok (.getfield 80, 3) := by decide +kernel
theorem dX11_back_47 : decode cX11_back 47 = .ok (.invokevirtual 298, 3) := by decide +kernel
theorem dX11_back_50 : decode cX11_back 50 = .ok (.ireturn, 1) := by decide +kernel
