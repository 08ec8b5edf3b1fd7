theorem dX0_init_0 : decode cX0_init 0 = .ok (.aload_n 0, 1) := by decide +kernel
theorem dX0_init_1 : decode cX0_init 1 = .ok (.invokespecial 3, 3) := by decide +kernel
theorem dX0_init_4 : decode cX0_init 4 = .ok (.return_, 1) := by decide +kernel
theorem dX0_clear_0 : decode cX0_clear 0 = .ok (.aload_n 0, 1) := by decide +kernel
theorem dX0_clear_1 : decode cX0_clear 1 = .ok (.iconst 0, 1) := by decide +kernel
theorem dX0_clear_2 : decode cX0_clear 2 = .ok (.putfield 9, 3) := by decide +kernel
theorem dX0_clear_5 : decode cX0_clear 5 = .ok (.return_, 1) := by decide +kernel
theorem dX0_weigh_0 : decode cX0_weigh 0 = .ok (.aload_n 3, 1) := by decide +kernel
theorem dX0_weigh_1 : decode cX0_weigh 1 = .ok (.invokevirtual 15, 3) := by decide +kernel
theorem dX0_weigh_4 : decode cX0_weigh 4 = .ok (.istore 4, 2) := by decide +kernel
theorem dX0_weigh_6 : decode cX0_weigh 6 = .ok (.aload_n 0, 1) := by decide +kernel
theorem dX0_weigh_7 : decode cX0_weigh 7 = .ok (.getfield 9, 3) := by decide +kernel
theorem dX0_weigh_10 : decode cX0_weigh 10 = .ok (.ifCond .eq 30, 3) := by decide +kernel
theorem dX0_weigh_13 : decode cX0_weigh 13 = .ok (.lload_n 1, 1) := by decide +kernel
theorem dX0_weigh_14 : decode cX0_weigh 14 = .ok (.aload_n 0, 1) := by decide +kernel
theorem dX0_weigh_15 : decode cX0_weigh 15 = .ok (.getfield 21, 3) := by decide +kernel
theorem dX0_weigh_18 : decode cX0_weigh 18 = .ok (.lcmp, 1) := by decide +kernel
theorem dX0_weigh_19 : decode cX0_weigh 19 = .ok (.ifCond .gt 21, 3) := by decide +kernel
theorem dX0_weigh_22 : decode cX0_weigh 22 = .ok (.lload_n 1, 1) := by decide +kernel
theorem dX0_weigh_23 : decode cX0_weigh 23 = .ok (.aload_n 0, 1) := by decide +kernel
theorem dX0_weigh_24 : decode cX0_weigh 24 = .ok (.getfield 21, 3) := by decide +kernel
theorem dX0_weigh_27 : decode cX0_weigh 27 = .ok (.lcmp, 1) := by decide +kernel
theorem dX0_weigh_28 : decode cX0_weigh 28 = .ok (.ifCond .ne 55, 3) := by decide +kernel
theorem dX0_weigh_31 : decode cX0_weigh 31 = .ok (.iload 4, 2) := by decide +kernel
theorem dX0_weigh_33 : decode cX0_weigh 33 = .ok (.aload_n 0, 1) := by decide +kernel
theorem dX0_weigh_34 : decode cX0_weigh 34 = .ok (.getfield 25, 3) := by decide +kernel
theorem dX0_weigh_37 : decode cX0_weigh 37 = .ok (.if_icmp .ge 46, 3) := by decide +kernel
theorem dX0_weigh_40 : decode cX0_weigh 40 = .ok (.aload_n 0, 1) := by decide +kernel
theorem dX0_weigh_41 : decode cX0_weigh 41 = .ok (.lload_n 1, 1) := by decide +kernel
theorem dX0_weigh_42 : decode cX0_weigh 42 = .ok (.putfield 21, 3) := by decide +kernel
theorem dX0_weigh_45 : decode cX0_weigh 45 = .ok (.aload_n 0, 1) := by decide +kernel
theorem dX0_weigh_46 : decode cX0_weigh 46 = .ok (.iload 4, 2) := by decide +kernel
theorem dX0_weigh_48 : decode cX0_weigh 48 = .ok (.putfield 25, 3) := by decide +kernel
theorem dX0_weigh_51 : decode cX0_weigh 51 = .ok (.aload_n 0, 1) := by decide +kernel
theorem dX0_weigh_52 : decode cX0_weigh 52 = .ok (.aload_n 3, 1) := by decide +kernel
theorem dX0_weigh_53 : decode cX0_weigh 53 = .ok (.getfield 27, 3) := by decide +kernel
theorem dX0_weigh_56 : decode cX0_weigh 56 = .ok (.putfield 30, 3) := by decide +kernel
theorem dX0_weigh_59 : decode cX0_weigh 59 = .ok (.aload_n 0, 1) := by decide +kernel
theorem dX0_weigh_60 : decode cX0_weigh 60 = .ok (.aload_n 3, 1) := by decide +kernel
theorem dX0_weigh_61 : decode cX0_weigh 61 = .ok (.getfield 31, 3) := by decide +kernel
theorem dX0_weigh_64 : decode cX0_weigh 64 = .ok (.putfield 34, 3) := by decide +kernel
theorem dX0_weigh_67 : decode cX0_weigh 67 = .ok (.aload_n 0, 1) := by decide +kernel
theorem dX0_weigh_68 : decode cX0_weigh 68 = .ok (.aload_n 3, 1) := by decide +kernel
theorem dX0_weigh_69 : decode cX0_weigh 69 = .ok (.getfield 35, 3) := by decide +kernel
theorem dX0_weigh_72 : decode cX0_weigh 72 = .ok (.putfield 38, 3) := by decide +kernel
theorem dX0_weigh_75 : decode cX0_weigh 75 = .ok (.aload_n 0, 1) := by decide +kernel
theorem dX0_weigh_76 : decode cX0_weigh 76 = .ok (.aload_n 3, 1) := by decide +kernel
theorem dX0_weigh_77 : decode cX0_weigh 77 = .ok (.getfield 39, 3) := by decide +kernel
theorem dX0_weigh_80 : decode cX0_weigh 80 = .ok (.putfield 42, 3) := by decide +kernel
theorem dX0_weigh_83 : decode cX0_weigh 83 = .ok (.aload_n 0, 1) := by decide +kernel
theorem dX0_weigh_84 : decode cX0_weigh 84 = .ok (.dup, 1) := by decide +kernel
theorem dX0_weigh_85 : decode cX0_weigh 85 = .ok (.getfield 9, 3) := by decide +kernel
theorem dX0_weigh_88 : decode cX0_weigh 88 = .ok (.iconst 1, 1) := by decide +kernel
theorem dX0_weigh_89 : decode cX0_weigh 89 = .ok (.iadd, 1) := by decide +kernel
theorem dX0_weigh_90 : decode cX0_weigh 90 = .ok (.putfield 9, 3) := by decide +kernel
theorem dX0_weigh_93 : decode cX0_weigh 93 = .ok (.return_, 1) := by decide +kernel
theorem dX0_margin_0 : decode cX0_margin 0 = .ok (.aload_n 0, 1) := by decide +kernel
theorem dX0_margin_1 : decode cX0_margin 1 = .ok (.getfield 9, 3) := by decide +kernel
theorem dX0_margin_4 : decode cX0_margin 4 = .ok (.ifCond .ne 6, 3) := by decide +kernel
theorem dX0_margin_7 : decode cX0_margin 7 = .ok (.bipush (-2), 2) := by decide +kernel
theorem dX0_margin_9 : decode cX0_margin 9 = .ok (.ireturn, 1) := by decide +kernel
theorem dX0_margin_10 : decode cX0_margin 10 = .ok (.iload_n 1, 1) := by decide +kernel
theorem dX0_margin_11 : decode cX0_margin 11 = .ok (.tableswitch 40 0 2 #[25, 30, 35], 25) := by decide +kernel
theorem dX0_margin_36 : decode cX0_margin 36 = .ok (.aload_n 0, 1) := by decide +kernel
theorem dX0_margin_37 : decode cX0_margin 37 = .ok (.getfield 30, 3) := by decide +kernel
theorem dX0_margin_40 : decode cX0_margin 40 = .ok (.ireturn, 1) := by decide +kernel
theorem dX0_margin_41 : decode cX0_margin 41 = .ok (.aload_n 0, 1) := by decide +kernel
theorem dX0_margin_42 : decode cX0_margin 42 = .ok (.getfield 34, 3) := by decide +kernel
theorem dX0_margin_45 : decode cX0_margin 45 = .ok (.ireturn, 1) := by decide +kernel
theorem dX0_margin_46 : decode cX0_margin 46 = .ok (.aload_n 0, 1) := by decide +kernel
theorem dX0_margin_47 : decode cX0_margin 47 = .ok (.getfield 38, 3) := by decide +kernel
theorem dX0_margin_50 : decode cX0_margin 50 = .ok (.ireturn, 1) := by decide +kernel
theorem dX0_margin_51 : decode cX0_margin 51 = .ok (.aload_n 0, 1) := by decide +kernel
theorem dX0_margin_52 : decode cX0_margin 52 = .ok (.getfield 42, 3) := by decide +kernel
theorem dX0_margin_55 : decode cX0_margin 55 = .ok (.ireturn, 1) := by decide +kernel
theorem dX1_init_0 : decode cX1_init 0 = .ok (.aload_n 0, 1) := by decide +kernel
theorem dX1_init_1 : decode cX1_init 1 = .ok (.invokespecial 3, 3) := by decide +kernel
theorem dX1_init_4 : decode cX1_init 4 = .ok (.return_, 1) := by decide +kernel
theorem dX1_set_0 : decode cX1_set 0 = .ok (.aload_n 0, 1) := by decide +kernel
theorem dX1_set_1 : decode cX1_set 1 = .ok (.iconst 1, 1) := by decide +kernel
theorem dX1_set_2 : decode cX1_set 2 = .ok (.putfield 9, 3) := by decide +kernel
theorem dX1_set_5 : decode cX1_set 5 = .ok (.aload_n 0, 1) := by decide +kernel
theorem dX1_set_6 : decode cX1_set 6 = .ok (.iload_n 1, 1) := by decide +kernel
theorem dX1_set_7 : decode cX1_set 7 = .ok (.putfield 15, 3) := by decide +kernel
theorem dX1_set_10 : decode cX1_set 10 = .ok (.aload_n 0, 1) := by decide +kernel
theorem dX1_set_11 : decode cX1_set 11 = .ok (.iload_n 2, 1) := by decide +kernel
theorem dX1_set_12 : decode cX1_set 12 = .ok (.putfield 19, 3) := by decide +kernel
theorem dX1_set_15 : decode cX1_set 15 = .ok (.aload_n 0, 1) := by decide +kernel
theorem dX1_set_16 : decode cX1_set 16 = .ok (.iload_n 3, 1) := by decide +kernel
theorem dX1_set_17 : decode cX1_set 17 = .ok (.putfield 22, 3) := by decide +kernel
theorem dX1_set_20 : decode cX1_set 20 = .ok (.aload_n 0, 1) := by decide +kernel
theorem dX1_set_21 : decode cX1_set 21 = .ok (.iload 4, 2) := by decide +kernel
theorem dX1_set_23 : decode cX1_set 23 = .ok (.putfield 25, 3) := by decide +kernel
theorem dX1_set_26 : decode cX1_set 26 = .ok (.aload_n 0, 1) := by decide +kernel
theorem dX1_set_27 : decode cX1_set 27 = .ok (.iload 5, 2) := by decide +kernel
theorem dX1_set_29 : decode cX1_set 29 = .ok (.putfield 28, 3) := by decide +kernel
theorem dX1_set_32 : decode cX1_set 32 = .ok (.return_, 1) := by decide +kernel
theorem dX1_copyFrom_0 : decode cX1_copyFrom 0 = .ok (.aload_n 0, 1) := by decide +kernel
theorem dX1_copyFrom_1 : decode cX1_copyFrom 1 = .ok (.aload_n 1, 1) := by decide +kernel
theorem dX1_copyFrom_2 : decode cX1_copyFrom 2 = .ok (.getfield 9, 3) := by decide +kernel
theorem dX1_copyFrom_5 : decode cX1_copyFrom 5 = .ok (.putfield 9, 3) := by decide +kernel
theorem dX1_copyFrom_8 : decode cX1_copyFrom 8 = .ok (.aload_n 0, 1) := by decide +kernel
theorem dX1_copyFrom_9 : decode cX1_copyFrom 9 = .ok (.aload_n 1, 1) := by decide +kernel
theorem dX1_copyFrom_10 : decode cX1_copyFrom 10 = .ok (.getfield 15, 3) := by decide +kernel
theorem dX1_copyFrom_13 : decode cX1_copyFrom 13 = .ok (.putfield 15, 3) := by decide +kernel
theorem dX1_copyFrom_16 : decode cX1_copyFrom 16 = .ok (.aload_n 0, 1) := by decide +kernel
theorem dX1_copyFrom_17 : decode cX1_copyFrom 17 = .ok (.aload_n 1, 1) := by decide +kernel
theorem dX1_copyFrom_18 : decode cX1_copyFrom 18 = .ok (.getfield 19, 3) := by decide +kernel
theorem dX1_copyFrom_21 : decode cX1_copyFrom 21 = .ok (.putfield 19, 3) := by decide +kernel
theorem dX1_copyFrom_24 : decode cX1_copyFrom 24 = .ok (.aload_n 0, 1) := by decide +kernel
theorem dX1_copyFrom_25 : decode cX1_copyFrom 25 = .ok (.aload_n 1, 1) := by decide +kernel
theorem dX1_copyFrom_26 : decode cX1_copyFrom 26 = .ok (.getfield 22, 3) := by decide +kernel
theorem dX1_copyFrom_29 : decode cX1_copyFrom 29 = .ok (.putfield 22, 3) := by decide +kernel
theorem dX1_copyFrom_32 : decode cX1_copyFrom 32 = .ok (.aload_n 0, 1) := by decide +kernel
theorem dX1_copyFrom_33 : decode cX1_copyFrom 33 = .ok (.aload_n 1, 1) := by decide +kernel
theorem dX1_copyFrom_34 : decode cX1_copyFrom 34 = .ok (.getfield 25, 3) := by decide +kernel
theorem dX1_copyFrom_37 : decode cX1_copyFrom 37 = .ok (.putfield 25, 3) := by decide +kernel
theorem dX1_copyFrom_40 : decode cX1_copyFrom 40 = .ok (.aload_n 0, 1) := by decide +kernel
theorem dX1_copyFrom_41 : decode cX1_copyFrom 41 = .ok (.aload_n 1, 1) := by decide +kernel
theorem dX1_copyFrom_42 : decode cX1_copyFrom 42 = .ok (.getfield 28, 3) := by decide +kernel
theorem dX1_copyFrom_45 : decode cX1_copyFrom 45 = .ok (.putfield 28, 3) := by decide +kernel
theorem dX1_copyFrom_48 : decode cX1_copyFrom 48 = .ok (.return_, 1) := by decide +kernel
theorem dX1_from_0 : decode cX1_from 0 = .ok (.aload_n 0, 1) := by decide +kernel
theorem dX1_from_1 : decode cX1_from 1 = .ok (.getfield 22, 3) := by decide +kernel
theorem dX1_from_4 : decode cX1_from 4 = .ok (.bipush 40, 2) := by decide +kernel
theorem dX1_from_6 : decode cX1_from 6 = .ok (.imul, 1) := by decide +kernel
theorem dX1_from_7 : decode cX1_from 7 = .ok (.aload_n 0, 1) := by decide +kernel
theorem dX1_from_8 : decode cX1_from 8 = .ok (.getfield 19, 3) := by decide +kernel
theorem dX1_from_11 : decode cX1_from 11 = .ok (.iadd, 1) := by decide +kernel
theorem dX1_from_12 : decode cX1_from 12 = .ok (.ireturn, 1) := by decide +kernel
theorem dX1_to_0 : decode cX1_to 0 = .ok (.aload_n 0, 1) := by decide +kernel
theorem dX1_to_1 : decode cX1_to 1 = .ok (.getfield 28, 3) := by decide +kernel
theorem dX1_to_4 : decode cX1_to 4 = .ok (.bipush 40, 2) := by decide +kernel
theorem dX1_to_6 : decode cX1_to 6 = .ok (.imul, 1) := by decide +kernel
theorem dX1_to_7 : decode cX1_to 7 = .ok (.aload_n 0, 1) := by decide +kernel
theorem dX1_to_8 : decode cX1_to 8 = .ok (.getfield 25, 3) := by decide +kernel
theorem dX1_to_11 : decode cX1_to 11 = .ok (.iadd, 1) := by decide +kernel
theorem dX1_to_12 : decode cX1_to 12 = .ok (.ireturn, 1) := by decide +kernel
theorem dX2_init_0 : decode cX2_init 0 = .ok (.aload_n 0, 1) := by decide +kernel
theorem dX2_init_1 : decode cX2_init 1 = .ok (.invokespecial 3, 3) := by decide +kernel
theorem dX2_init_4 : decode cX2_init 4 = .ok (.return_, 1) := by decide +kernel
theorem dX2_read_0 : decode cX2_read 0 = .ok (.aload_n 2, 1) := by decide +kernel
theorem dX2_read_1 : decode cX2_read 1 = .ok (.invokevirtual 9, 3) := by decide +kernel
theorem dX2_read_4 : decode cX2_read 4 = .ok (.aload_n 0, 1) := by decide +kernel
theorem dX2_read_5 : decode cX2_read 5 = .ok (.iconst 0, 1) := by decide +kernel
theorem dX2_read_6 : decode cX2_read 6 = .ok (.putfield 14, 3) := by decide +kernel
theorem dX2_read_9 : decode cX2_read 9 = .ok (.aload_n 1, 1) := by decide +kernel
theorem dX2_read_10 : decode cX2_read 10 = .ok (.invokevirtual 20, 3) := by decide +kernel
theorem dX2_read_13 : decode cX2_read 13 = .ok (.iconst 1, 1) := by decide +kernel
theorem dX2_read_14 : decode cX2_read 14 = .ok (.istore_n 3, 1) := by decide +kernel
theorem dX2_read_15 : decode cX2_read 15 = .ok (.iconst 0, 1) := by decide +kernel
theorem dX2_read_16 : decode cX2_read 16 = .ok (.istore 4, 2) := by decide +kernel
theorem dX2_read_18 : decode cX2_read 18 = .ok (.iload 4, 2) := by decide +kernel
theorem dX2_read_20 : decode cX2_read 20 = .ok (.bipush 24, 2) := by decide +kernel
theorem dX2_read_22 : decode cX2_read 22 = .ok (.if_icmp .gt 37, 3) := by decide +kernel
theorem dX2_read_25 : decode cX2_read 25 = .ok (.iload_n 3, 1) := by decide +kernel
theorem dX2_read_26 : decode cX2_read 26 = .ok (.ifCond .eq 33, 3) := by decide +kernel
theorem dX2_read_29 : decode cX2_read 29 = .ok (.aload_n 0, 1) := by decide +kernel
theorem dX2_read_30 : decode cX2_read 30 = .ok (.aload_n 1, 1) := by decide +kernel
theorem dX2_read_31 : decode cX2_read 31 = .ok (.aload_n 2, 1) := by decide +kernel
theorem dX2_read_32 : decode cX2_read 32 = .ok (.iload 4, 2) := by decide +kernel
theorem dX2_read_34 : decode cX2_read 34 = .ok (.invokevirtual 25, 3) := by decide +kernel
theorem dX2_read_37 : decode cX2_read 37 = .ok (.ifCond .eq 14, 3) := by decide +kernel
theorem dX2_read_40 : decode cX2_read 40 = .ok (.aload_n 1, 1) := by decide +kernel
theorem dX2_read_41 : decode cX2_read 41 = .ok (.invokevirtual 29, 3) := by decide +kernel
theorem dX2_read_44 : decode cX2_read 44 = .ok (.ifCond .eq 7, 3) := by decide +kernel
theorem dX2_read_47 : decode cX2_read 47 = .ok (.iconst 1, 1) := by decide +kernel
theorem dX2_read_48 : decode cX2_read 48 = .ok (.goto 4, 3) := by decide +kernel
theorem dX2_read_51 : decode cX2_read 51 = .ok (.iconst 0, 1) := by decide +kernel
theorem dX2_read_52 : decode cX2_read 52 = .ok (.istore_n 3, 1) := by decide +kernel
theorem dX2_read_53 : decode cX2_read 53 = .ok (.iinc 4 1, 3) := by decide +kernel
theorem dX2_read_56 : decode cX2_read 56 = .ok (.goto (-38), 3) := by decide +kernel
theorem dX2_read_59 : decode cX2_read 59 = .ok (.aload_n 1, 1) := by decide +kernel
theorem dX2_read_60 : decode cX2_read 60 = .ok (.getfield 33, 3) := by decide +kernel
theorem dX2_read_63 : decode cX2_read 63 = .ok (.ifCond .ne 9, 3) := by decide +kernel
theorem dX2_read_66 : decode cX2_read 66 = .ok (.aload_n 0, 1) := by decide +kernel
theorem dX2_read_67 : decode cX2_read 67 = .ok (.aload_n 1, 1) := by decide +kernel
theorem dX2_read_68 : decode cX2_read 68 = .ok (.aload_n 2, 1) := by decide +kernel
theorem dX2_read_69 : decode cX2_read 69 = .ok (.invokevirtual 37, 3) := by decide +kernel
theorem dX2_read_72 : decode cX2_read 72 = .ok (.aload_n 1, 1) := by decide +kernel
theorem dX2_read_73 : decode cX2_read 73 = .ok (.getfield 33, 3) := by decide +kernel
theorem dX2_read_76 : decode cX2_read 76 = .ok (.ifCond .ne 7, 3) := by decide +kernel
theorem dX2_read_79 : decode cX2_read 79 = .ok (.iconst 1, 1) := by decide +kernel
theorem dX2_read_80 : decode cX2_read 80 = .ok (.goto 4, 3) := by decide +kernel
theorem dX2_read_83 : decode cX2_read 83 = .ok (.iconst 0, 1) := by decide +kernel
theorem dX2_read_84 : decode cX2_read 84 = .ok (.ireturn, 1) := by decide +kernel
theorem dX2_readClause_0 : decode cX2_readClause 0 = .ok (.aload_n 1, 1) := by decide +kernel
theorem dX2_readClause_1 : decode cX2_readClause 1 = .ok (.getfield 41, 3) := by decide +kernel
theorem dX2_readClause_4 : decode cX2_readClause 4 = .ok (.iconst 1, 1) := by decide +kernel
theorem dX2_readClause_5 : decode cX2_readClause 5 = .ok (.if_icmp .ne 10, 3) := by decide +kernel
theorem dX2_readClause_8 : decode cX2_readClause 8 = .ok (.aload_n 1, 1) := by decide +kernel
theorem dX2_readClause_9 : decode cX2_readClause 9 = .ok (.getfield 44, 3) := by decide +kernel
theorem dX2_readClause_12 : decode cX2_readClause 12 = .ok (.goto 4, 3) := by decide +kernel
theorem dX2_readClause_15 : decode cX2_readClause 15 = .ok (.iconst (-1), 1) := by decide +kernel
theorem dX2_readClause_16 : decode cX2_readClause 16 = .ok (.istore 4, 2) := by decide +kernel
theorem dX2_readClause_18 : decode cX2_readClause 18 = .ok (.iload 4, 2) := by decide +kernel
theorem dX2_readClause_20 : decode cX2_readClause 20 = .ok (.bipush 20, 2) := by decide +kernel
theorem dX2_readClause_22 : decode cX2_readClause 22 = .ok (.if_icmp .ne 7, 3) := by decide +kernel
theorem dX2_readClause_25 : decode cX2_readClause 25 = .ok (.iconst 1, 1) := by decide +kernel
theorem dX2_readClause_26 : decode cX2_readClause 26 = .ok (.goto 4, 3) := by decide +kernel
theorem dX2_readClause_29 : decode cX2_readClause 29 = .ok (.iconst 0, 1) := by decide +kernel
theorem dX2_readClause_30 : decode cX2_readClause 30 = .ok (.istore 5, 2) := by decide +kernel
theorem dX2_readClause_32 : decode cX2_readClause 32 = .ok (.iload 4, 2) := by decide +kernel
theorem dX2_readClause_34 : decode cX2_readClause 34 = .ok (.bipush 22, 2) := by decide +kernel
theorem dX2_readClause_36 : decode cX2_readClause 36 = .ok (.if_icmp .ne 7, 3) := by decide +kernel
theorem dX2_readClause_39 : decode cX2_readClause 39 = .ok (.iconst 1, 1) := by decide +kernel
theorem dX2_readClause_40 : decode cX2_readClause 40 = .ok (.goto 4, 3) := by decide +kernel
theorem dX2_readClause_43 : decode cX2_readClause 43 = .ok (.iconst 0, 1) := by decide +kernel
theorem dX2_readClause_44 : decode cX2_readClause 44 = .ok (.istore 6, 2) := by decide +kernel
theorem dX2_readClause_46 : decode cX2_readClause 46 = .ok (.iload 5, 2) := by decide +kernel
theorem dX2_readClause_48 : decode cX2_readClause 48 = .ok (.ifCond .ne 34, 3) := by decide +kernel
theorem dX2_readClause_51 : decode cX2_readClause 51 = .ok (.iload 6, 2) := by decide +kernel
theorem dX2_readClause_53 : decode cX2_readClause 53 = .ok (.ifCond .ne 29, 3) := by decide +kernel
theorem dX2_readClause_56 : decode cX2_readClause 56 = .ok (.iload 4, 2) := by decide +kernel
theorem dX2_readClause_58 : decode cX2_readClause 58 = .ok (.iconst 4, 1) := by decide +kernel
theorem dX2_readClause_59 : decode cX2_readClause 59 = .ok (.if_icmp .eq 23, 3) := by decide +kernel
theorem dX2_readClause_62 : decode cX2_readClause 62 = .ok (.iload 4, 2) := by decide +kernel
theorem dX2_readClause_64 : decode cX2_readClause 64 = .ok (.bipush 6, 2) := by decide +kernel
theorem dX2_readClause_66 : decode cX2_readClause 66 = .ok (.if_icmp .eq 16, 3) := by decide +kernel
theorem dX2_readClause_69 : decode cX2_readClause 69 = .ok (.iload 4, 2) := by decide +kernel
theorem dX2_readClause_71 : decode cX2_readClause 71 = .ok (.bipush 21, 2) := by decide +kernel
theorem dX2_readClause_73 : decode cX2_readClause 73 = .ok (.if_icmp .eq 9, 3) := by decide +kernel
theorem dX2_readClause_76 : decode cX2_readClause 76 = .ok (.aload_n 1, 1) := by decide +kernel
theorem dX2_readClause_77 : decode cX2_readClause 77 = .ok (.iconst 0, 1) := by decide +kernel
theorem dX2_readClause_78 : decode cX2_readClause 78 = .ok (.invokevirtual 47, 3) := by decide +kernel
theorem dX2_readClause_81 : decode cX2_readClause 81 = .ok (.ireturn, 1) := by decide +kernel
theorem dX2_readClause_82 : decode cX2_readClause 82 = .ok (.iload_n 3, 1) := by decide +kernel
theorem dX2_readClause_83 : decode cX2_readClause 83 = .ok (.bipush 24, 2) := by decide +kernel
theorem dX2_readClause_85 : decode cX2_readClause 85 = .ok (.if_icmp .ge 29, 3) := by decide +kernel
theorem dX2_readClause_88 : decode cX2_readClause 88 = .ok (.iload 5, 2) := by decide +kernel
theorem dX2_readClause_90 : decode cX2_readClause 90 = .ok (.ifCond .eq 10, 3) := by decide +kernel
theorem dX2_readClause_93 : decode cX2_readClause 93 = .ok (.aload_n 0, 1) := by decide +kernel
theorem dX2_readClause_94 : decode cX2_readClause 94 = .ok (.getfield 14, 3) := by decide +kernel
theorem dX2_readClause_97 : decode cX2_readClause 97 = .ok (.ifCond .ne 17, 3) := by decide +kernel
theorem dX2_readClause_100 : decode cX2_readClause 100 = .ok (.iload 6, 2) := by decide +kernel
theorem dX2_readClause_102 : decode cX2_readClause 102 = .ok (.ifCond .eq 18, 3) := by decide +kernel
theorem dX2_readClause_105 : decode cX2_readClause 105 = .ok (.aload_n 2, 1) := by decide +kernel
theorem dX2_readClause_106 : decode cX2_readClause 106 = .ok (.getfield 51, 3) := by decide +kernel
theorem dX2_readClause_109 : decode cX2_readClause 109 = .ok (.bipush 6, 2) := by decide +kernel
theorem dX2_readClause_111 : decode cX2_readClause 111 = .ok (.if_icmp .lt 9, 3) := by decide +kernel
theorem dX2_readClause_114 : decode cX2_readClause 114 = .ok (.aload_n 1, 1) := by decide +kernel
theorem dX2_readClause_115 : decode cX2_readClause 115 = .ok (.iconst 4, 1) := by decide +kernel
theorem dX2_readClause_116 : decode cX2_readClause 116 = .ok (.invokevirtual 47, 3) := by decide +kernel
theorem dX2_readClause_119 : decode cX2_readClause 119 = .ok (.ireturn, 1) := by decide +kernel
theorem dX2_readClause_120 : decode cX2_readClause 120 = .ok (.aload_n 1, 1) := by decide +kernel
theorem dX2_readClause_121 : decode cX2_readClause 121 = .ok (.invokevirtual 54, 3) := by decide +kernel
theorem dX2_readClause_124 : decode cX2_readClause 124 = .ok (.iload 4, 2) := by decide +kernel
theorem dX2_readClause_126 : decode cX2_readClause 126 = .ok (.lookupswitch 70 #[(4, 56), (6, 63), (20, 42), (22, 49)], 42) := by decide +kernel
theorem dX2_readClause_168 : decode cX2_readClause 168 = .ok (.aload_n 0, 1) := by decide +kernel
theorem dX2_readClause_169 : decode cX2_readClause 169 = .ok (.aload_n 1, 1) := by decide +kernel
theorem dX2_readClause_170 : decode cX2_readClause 170 = .ok (.aload_n 2, 1) := by decide +kernel
theorem dX2_readClause_171 : decode cX2_readClause 171 = .ok (.invokevirtual 57, 3) := by decide +kernel
theorem dX2_readClause_174 : decode cX2_readClause 174 = .ok (.ireturn, 1) := by decide +kernel
theorem dX2_readClause_175 : decode cX2_readClause 175 = .ok (.aload_n 0, 1) := by decide +kernel
theorem dX2_readClause_176 : decode cX2_readClause 176 = .ok (.aload_n 1, 1) := by decide +kernel
theorem dX2_readClause_177 : decode cX2_readClause 177 = .ok (.aload_n 2, 1) := by decide +kernel
theorem dX2_readClause_178 : decode cX2_readClause 178 = .ok (.invokevirtual 61, 3) := by decide +kernel
theorem dX2_readClause_181 : decode cX2_readClause 181 = .ok (.ireturn, 1) := by decide +kernel
theorem dX2_readClause_182 : decode cX2_readClause 182 = .ok (.aload_n 0, 1) := by decide +kernel
theorem dX2_readClause_183 : decode cX2_readClause 183 = .ok (.aload_n 1, 1) := by decide +kernel
theorem dX2_readClause_184 : decode cX2_readClause 184 = .ok (.aload_n 2, 1) := by decide +kernel
theorem dX2_readClause_185 : decode cX2_readClause 185 = .ok (.invokevirtual 64, 3) := by decide +kernel
theorem dX2_readClause_188 : decode cX2_readClause 188 = .ok (.ireturn, 1) := by decide +kernel
theorem dX2_readClause_189 : decode cX2_readClause 189 = .ok (.aload_n 0, 1) := by decide +kernel
theorem dX2_readClause_190 : decode cX2_readClause 190 = .ok (.aload_n 1, 1) := by decide +kernel
theorem dX2_readClause_191 : decode cX2_readClause 191 = .ok (.aload_n 2, 1) := by decide +kernel
theorem dX2_readClause_192 : decode cX2_readClause 192 = .ok (.invokevirtual 67, 3) := by decide +kernel
theorem dX2_readClause_195 : decode cX2_readClause 195 = .ok (.ireturn, 1) := by decide +kernel
theorem dX2_readClause_196 : decode cX2_readClause 196 = .ok (.aload_n 0, 1) := by decide +kernel
theorem dX2_readClause_197 : decode cX2_readClause 197 = .ok (.aload_n 1, 1) := by decide +kernel
theorem dX2_readClause_198 : decode cX2_readClause 198 = .ok (.aload_n 2, 1) := by decide +kernel
theorem dX2_readClause_199 : decode cX2_readClause 199 = .ok (.invokevirtual 70, 3) := by decide +kernel
theorem dX2_readClause_202 : decode cX2_readClause 202 = .ok (.ireturn, 1) := by decide +kernel
theorem dX2_readWide_0 : decode cX2_readWide 0 = .ok (.aload_n 0, 1) := by decide +kernel
theorem dX2_readWide_1 : decode cX2_readWide 1 = .ok (.iconst 1, 1) := by decide +kernel
theorem dX2_readWide_2 : decode cX2_readWide 2 = .ok (.putfield 14, 3) := by decide +kernel
theorem dX2_readWide_5 : decode cX2_readWide 5 = .ok (.aload_n 1, 1) := by decide +kernel
theorem dX2_readWide_6 : decode cX2_readWide 6 = .ok (.iconst 5, 1) := by decide +kernel
theorem dX2_readWide_7 : decode cX2_readWide 7 = .ok (.bipush 40, 2) := by decide +kernel
theorem dX2_readWide_9 : decode cX2_readWide 9 = .ok (.invokevirtual 73, 3) := by decide +kernel
theorem dX2_readWide_12 : decode cX2_readWide 12 = .ok (.istore_n 3, 1) := by decide +kernel
theorem dX2_readWide_13 : decode cX2_readWide 13 = .ok (.iload_n 3, 1) := by decide +kernel
theorem dX2_readWide_14 : decode cX2_readWide 14 = .ok (.iconst (-1), 1) := by decide +kernel
theorem dX2_readWide_15 : decode cX2_readWide 15 = .ok (.if_icmp .ne 5, 3) := by decide +kernel
theorem dX2_readWide_18 : decode cX2_readWide 18 = .ok (.iconst 0, 1) := by decide +kernel
theorem dX2_readWide_19 : decode cX2_readWide 19 = .ok (.ireturn, 1) := by decide +kernel
theorem dX2_readWide_20 : decode cX2_readWide 20 = .ok (.aload_n 1, 1) := by decide +kernel
theorem dX2_readWide_21 : decode cX2_readWide 21 = .ok (.iconst 5, 1) := by decide +kernel
theorem dX2_readWide_22 : decode cX2_readWide 22 = .ok (.bipush 40, 2) := by decide +kernel
theorem dX2_readWide_24 : decode cX2_readWide 24 = .ok (.invokevirtual 73, 3) := by decide +kernel
theorem dX2_readWide_27 : decode cX2_readWide 27 = .ok (.istore 4, 2) := by decide +kernel
theorem dX2_readWide_29 : decode cX2_readWide 29 = .ok (.iload 4, 2) := by decide +kernel
theorem dX2_readWide_31 : decode cX2_readWide 31 = .ok (.iconst (-1), 1) := by decide +kernel
theorem dX2_readWide_32 : decode cX2_readWide 32 = .ok (.if_icmp .ne 5, 3) := by decide +kernel
theorem dX2_readWide_35 : decode cX2_readWide 35 = .ok (.iconst 0, 1) := by decide +kernel
theorem dX2_readWide_36 : decode cX2_readWide 36 = .ok (.ireturn, 1) := by decide +kernel
theorem dX2_readWide_37 : decode cX2_readWide 37 = .ok (.aload_n 2, 1) := by decide +kernel
theorem dX2_readWide_38 : decode cX2_readWide 38 = .ok (.iload_n 3, 1) := by decide +kernel
theorem dX2_readWide_39 : decode cX2_readWide 39 = .ok (.putfield 77, 3) := by decide +kernel
theorem dX2_readWide_42 : decode cX2_readWide 42 = .ok (.aload_n 2, 1) := by decide +kernel
theorem dX2_readWide_43 : decode cX2_readWide 43 = .ok (.iload 4, 2) := by decide +kernel
theorem dX2_readWide_45 : decode cX2_readWide 45 = .ok (.putfield 80, 3) := by decide +kernel
theorem dX2_readWide_48 : decode cX2_readWide 48 = .ok (.iconst 1, 1) := by decide +kernel
theorem dX2_readWide_49 : decode cX2_readWide 49 = .ok (.ireturn, 1) := by decide +kernel
theorem dX2_readHouse_0 : decode cX2_readHouse 0 = .ok (.aload_n 1, 1) := by decide +kernel
theorem dX2_readHouse_1 : decode cX2_readHouse 1 = .ok (.getfield 83, 3) := by decide +kernel
theorem dX2_readHouse_4 : decode cX2_readHouse 4 = .ok (.istore_n 3, 1) := by decide +kernel
theorem dX2_readHouse_5 : decode cX2_readHouse 5 = .ok (.aload_n 0, 1) := by decide +kernel
theorem dX2_readHouse_6 : decode cX2_readHouse 6 = .ok (.aload_n 1, 1) := by decide +kernel
theorem dX2_readHouse_7 : decode cX2_readHouse 7 = .ok (.invokevirtual 86, 3) := by decide +kernel
theorem dX2_readHouse_10 : decode cX2_readHouse 10 = .ok (.ifCond .ne 5, 3) := by decide +kernel
theorem dX2_readHouse_13 : decode cX2_readHouse 13 = .ok (.iconst 0, 1) := by decide +kernel
theorem dX2_readHouse_14 : decode cX2_readHouse 14 = .ok (.ireturn, 1) := by decide +kernel
theorem dX2_readHouse_15 : decode cX2_readHouse 15 = .ok (.aload_n 2, 1) := by decide +kernel
theorem dX2_readHouse_16 : decode cX2_readHouse 16 = .ok (.getfield 90, 3) := by decide +kernel
theorem dX2_readHouse_19 : decode cX2_readHouse 19 = .ok (.aload_n 2, 1) := by decide +kernel
theorem dX2_readHouse_20 : decode cX2_readHouse 20 = .ok (.getfield 51, 3) := by decide +kernel
theorem dX2_readHouse_23 : decode cX2_readHouse 23 = .ok (.aaload, 1) := by decide +kernel
theorem dX2_readHouse_24 : decode cX2_readHouse 24 = .ok (.astore 4, 2) := by decide +kernel
theorem dX2_readHouse_26 : decode cX2_readHouse 26 = .ok (.aload 4, 2) := by decide +kernel
theorem dX2_readHouse_28 : decode cX2_readHouse 28 = .ok (.aload_n 0, 1) := by decide +kernel
theorem dX2_readHouse_29 : decode cX2_readHouse 29 = .ok (.getfield 94, 3) := by decide +kernel
theorem dX2_readHouse_32 : decode cX2_readHouse 32 = .ok (.aload_n 0, 1) := by decide +kernel
theorem dX2_readHouse_33 : decode cX2_readHouse 33 = .ok (.getfield 97, 3) := by decide +kernel
theorem dX2_readHouse_36 : decode cX2_readHouse 36 = .ok (.aload_n 0, 1) := by decide +kernel
theorem dX2_readHouse_37 : decode cX2_readHouse 37 = .ok (.getfield 100, 3) := by decide +kernel
theorem dX2_readHouse_40 : decode cX2_readHouse 40 = .ok (.aload_n 0, 1) := by decide +kernel
theorem dX2_readHouse_41 : decode cX2_readHouse 41 = .ok (.getfield 103, 3) := by decide +kernel
theorem dX2_readHouse_44 : decode cX2_readHouse 44 = .ok (.iconst (-1), 1) := by decide +kernel
theorem dX2_readHouse_45 : decode cX2_readHouse 45 = .ok (.invokevirtual 106, 3) := by decide +kernel
theorem dX2_readHouse_48 : decode cX2_readHouse 48 = .ok (.iconst 0, 1) := by decide +kernel
theorem dX2_readHouse_49 : decode cX2_readHouse 49 = .ok (.istore 5, 2) := by decide +kernel
theorem dX2_readHouse_51 : decode cX2_readHouse 51 = .ok (.iload 5, 2) := by decide +kernel
theorem dX2_readHouse_53 : decode cX2_readHouse 53 = .ok (.aload_n 2, 1) := by decide +kernel
theorem dX2_readHouse_54 : decode cX2_readHouse 54 = .ok (.getfield 51, 3) := by decide +kernel
theorem dX2_readHouse_57 : decode cX2_readHouse 57 = .ok (.if_icmp .ge 30, 3) := by decide +kernel
theorem dX2_readHouse_60 : decode cX2_readHouse 60 = .ok (.aload_n 0, 1) := by decide +kernel
theorem dX2_readHouse_61 : decode cX2_readHouse 61 = .ok (.aload_n 2, 1) := by decide +kernel
theorem dX2_readHouse_62 : decode cX2_readHouse 62 = .ok (.getfield 90, 3) := by decide +kernel
theorem dX2_readHouse_65 : decode cX2_readHouse 65 = .ok (.iload 5, 2) := by decide +kernel
theorem dX2_readHouse_67 : decode cX2_readHouse 67 = .ok (.aaload, 1) := by decide +kernel
theorem dX2_readHouse_68 : decode cX2_readHouse 68 = .ok (.invokevirtual 112, 3) := by decide +kernel
theorem dX2_readHouse_71 : decode cX2_readHouse 71 = .ok (.ifCond .ne 10, 3) := by decide +kernel
theorem dX2_readHouse_74 : decode cX2_readHouse 74 = .ok (.aload_n 1, 1) := by decide +kernel
theorem dX2_readHouse_75 : decode cX2_readHouse 75 = .ok (.iload_n 3, 1) := by decide +kernel
theorem dX2_readHouse_76 : decode cX2_readHouse 76 = .ok (.iconst 5, 1) := by decide +kernel
theorem dX2_readHouse_77 : decode cX2_readHouse 77 = .ok (.invokevirtual 116, 3) := by decide +kernel
theorem dX2_readHouse_80 : decode cX2_readHouse 80 = .ok (.ireturn, 1) := by decide +kernel
theorem dX2_readHouse_81 : decode cX2_readHouse 81 = .ok (.iinc 5 1, 3) := by decide +kernel
theorem dX2_readHouse_84 : decode cX2_readHouse 84 = .ok (.goto (-33), 3) := by decide +kernel
theorem dX2_readHouse_87 : decode cX2_readHouse 87 = .ok (.aload_n 2, 1) := by decide +kernel
theorem dX2_readHouse_88 : decode cX2_readHouse 88 = .ok (.dup, 1) := by decide +kernel
theorem dX2_readHouse_89 : decode cX2_readHouse 89 = .ok (.getfield 51, 3) := by decide +kernel
theorem dX2_readHouse_92 : decode cX2_readHouse 92 = .ok (.iconst 1, 1) := by decide +kernel
theorem dX2_readHouse_93 : decode cX2_readHouse 93 = .ok (.iadd, 1) := by decide +kernel
theorem dX2_readHouse_94 : decode cX2_readHouse 94 = .ok (.putfield 51, 3) := by decide +kernel
theorem dX2_readHouse_97 : decode cX2_readHouse 97 = .ok (.iconst 1, 1) := by decide +kernel
theorem dX2_readHouse_98 : decode cX2_readHouse 98 = .ok (.ireturn, 1) := by decide +kernel
theorem dX2_isClearOf_0 : decode cX2_isClearOf 0 = .ok (.aload_n 0, 1) := by decide +kernel
theorem dX2_isClearOf_1 : decode cX2_isClearOf 1 = .ok (.getfield 94, 3) := by decide +kernel
theorem dX2_isClearOf_4 : decode cX2_isClearOf 4 = .ok (.aload_n 0, 1) := by decide +kernel
theorem dX2_isClearOf_5 : decode cX2_isClearOf 5 = .ok (.getfield 100, 3) := by decide +kernel
theorem dX2_isClearOf_8 : decode cX2_isClearOf 8 = .ok (.aload_n 1, 1) := by decide +kernel
theorem dX2_isClearOf_9 : decode cX2_isClearOf 9 = .ok (.getfield 120, 3) := by decide +kernel
theorem dX2_isClearOf_12 : decode cX2_isClearOf 12 = .ok (.aload_n 1, 1) := by decide +kernel
theorem dX2_isClearOf_13 : decode cX2_isClearOf 13 = .ok (.getfield 121, 3) := by decide +kernel
theorem dX2_isClearOf_16 : decode cX2_isClearOf 16 = .ok (.invokestatic 122, 3) := by decide +kernel
theorem dX2_isClearOf_19 : decode cX2_isClearOf 19 = .ok (.ifCond .ne 25, 3) := by decide +kernel
theorem dX2_isClearOf_22 : decode cX2_isClearOf 22 = .ok (.aload_n 0, 1) := by decide +kernel
theorem dX2_isClearOf_23 : decode cX2_isClearOf 23 = .ok (.getfield 97, 3) := by decide +kernel
theorem dX2_isClearOf_26 : decode cX2_isClearOf 26 = .ok (.aload_n 0, 1) := by decide +kernel
theorem dX2_isClearOf_27 : decode cX2_isClearOf 27 = .ok (.getfield 103, 3) := by decide +kernel
theorem dX2_isClearOf_30 : decode cX2_isClearOf 30 = .ok (.aload_n 1, 1) := by decide +kernel
theorem dX2_isClearOf_31 : decode cX2_isClearOf 31 = .ok (.getfield 128, 3) := by decide +kernel
theorem dX2_isClearOf_34 : decode cX2_isClearOf 34 = .ok (.aload_n 1, 1) := by decide +kernel
theorem dX2_isClearOf_35 : decode cX2_isClearOf 35 = .ok (.getfield 129, 3) := by decide +kernel
theorem dX2_isClearOf_38 : decode cX2_isClearOf 38 = .ok (.invokestatic 122, 3) := by decide +kernel
theorem dX2_isClearOf_41 : decode cX2_isClearOf 41 = .ok (.ifCond .eq 7, 3) := by decide +kernel
theorem dX2_isClearOf_44 : decode cX2_isClearOf 44 = .ok (.iconst 1, 1) := by decide +kernel
theorem dX2_isClearOf_45 : decode cX2_isClearOf 45 = .ok (.goto 4, 3) := by decide +kernel
theorem dX2_isClearOf_48 : decode cX2_isClearOf 48 = .ok (.iconst 0, 1) := by decide +kernel
theorem dX2_isClearOf_49 : decode cX2_isClearOf 49 = .ok (.ireturn, 1) := by decide +kernel
theorem dX2_readWorth_0 : decode cX2_readWorth 0 = .ok (.aload_n 1, 1) := by decide +kernel
theorem dX2_readWorth_1 : decode cX2_readWorth 1 = .ok (.iconst 0, 1) := by decide +kernel
theorem dX2_readWorth_2 : decode cX2_readWorth 2 = .ok (.bipush 99, 2) := by decide +kernel
theorem dX2_readWorth_4 : decode cX2_readWorth 4 = .ok (.invokevirtual 73, 3) := by decide +kernel
theorem dX2_readWorth_7 : decode cX2_readWorth 7 = .ok (.istore_n 3, 1) := by decide +kernel
theorem dX2_readWorth_8 : decode cX2_readWorth 8 = .ok (.iload_n 3, 1) := by decide +kernel
theorem dX2_readWorth_9 : decode cX2_readWorth 9 = .ok (.iconst (-1), 1) := by decide +kernel
theorem dX2_readWorth_10 : decode cX2_readWorth 10 = .ok (.if_icmp .eq 11, 3) := by decide +kernel
theorem dX2_readWorth_13 : decode cX2_readWorth 13 = .ok (.aload_n 0, 1) := by decide +kernel
theorem dX2_readWorth_14 : decode cX2_readWorth 14 = .ok (.aload_n 1, 1) := by decide +kernel
theorem dX2_readWorth_15 : decode cX2_readWorth 15 = .ok (.invokevirtual 86, 3) := by decide +kernel
theorem dX2_readWorth_18 : decode cX2_readWorth 18 = .ok (.ifCond .ne 5, 3) := by decide +kernel
theorem dX2_readWorth_21 : decode cX2_readWorth 21 = .ok (.iconst 0, 1) := by decide +kernel
theorem dX2_readWorth_22 : decode cX2_readWorth 22 = .ok (.ireturn, 1) := by decide +kernel
theorem dX2_readWorth_23 : decode cX2_readWorth 23 = .ok (.aload_n 0, 1) := by decide +kernel
theorem dX2_readWorth_24 : decode cX2_readWorth 24 = .ok (.aload_n 2, 1) := by decide +kernel
theorem dX2_readWorth_25 : decode cX2_readWorth 25 = .ok (.bipush (-128), 2) := by decide +kernel
theorem dX2_readWorth_27 : decode cX2_readWorth 27 = .ok (.iload_n 3, 1) := by decide +kernel
theorem dX2_readWorth_28 : decode cX2_readWorth 28 = .ok (.invokevirtual 130, 3) := by decide +kernel
theorem dX2_readWorth_31 : decode cX2_readWorth 31 = .ok (.iconst 1, 1) := by decide +kernel
theorem dX2_readWorth_32 : decode cX2_readWorth 32 = .ok (.ireturn, 1) := by decide +kernel
theorem dX2_readRiver_0 : decode cX2_readRiver 0 = .ok (.aload_n 0, 1) := by decide +kernel
theorem dX2_readRiver_1 : decode cX2_readRiver 1 = .ok (.aload_n 1, 1) := by decide +kernel
theorem dX2_readRiver_2 : decode cX2_readRiver 2 = .ok (.invokevirtual 86, 3) := by decide +kernel
theorem dX2_readRiver_5 : decode cX2_readRiver 5 = .ok (.ifCond .ne 5, 3) := by decide +kernel
theorem dX2_readRiver_8 : decode cX2_readRiver 8 = .ok (.iconst 0, 1) := by decide +kernel
theorem dX2_readRiver_9 : decode cX2_readRiver 9 = .ok (.ireturn, 1) := by decide +kernel
theorem dX2_readRiver_10 : decode cX2_readRiver 10 = .ok (.aload_n 0, 1) := by decide +kernel
theorem dX2_readRiver_11 : decode cX2_readRiver 11 = .ok (.aload_n 2, 1) := by decide +kernel
theorem dX2_readRiver_12 : decode cX2_readRiver 12 = .ok (.iconst (-1), 1) := by decide +kernel
theorem dX2_readRiver_13 : decode cX2_readRiver 13 = .ok (.sipush 128, 3) := by decide +kernel
theorem dX2_readRiver_16 : decode cX2_readRiver 16 = .ok (.invokevirtual 130, 3) := by decide +kernel
theorem dX2_readRiver_19 : decode cX2_readRiver 19 = .ok (.iconst 1, 1) := by decide +kernel
theorem dX2_readRiver_20 : decode cX2_readRiver 20 = .ok (.ireturn, 1) := by decide +kernel
theorem dX2_readWell_0 : decode cX2_readWell 0 = .ok (.aload_n 0, 1) := by decide +kernel
theorem dX2_readWell_1 : decode cX2_readWell 1 = .ok (.aload_n 1, 1) := by decide +kernel
theorem dX2_readWell_2 : decode cX2_readWell 2 = .ok (.iconst 0, 1) := by decide +kernel
theorem dX2_readWell_3 : decode cX2_readWell 3 = .ok (.bipush 39, 2) := by decide +kernel
theorem dX2_readWell_5 : decode cX2_readWell 5 = .ok (.invokevirtual 73, 3) := by decide +kernel
theorem dX2_readWell_8 : decode cX2_readWell 8 = .ok (.putfield 94, 3) := by decide +kernel
theorem dX2_readWell_11 : decode cX2_readWell 11 = .ok (.aload_n 0, 1) := by decide +kernel
theorem dX2_readWell_12 : decode cX2_readWell 12 = .ok (.getfield 94, 3) := by decide +kernel
theorem dX2_readWell_15 : decode cX2_readWell 15 = .ok (.iconst (-1), 1) := by decide +kernel
theorem dX2_readWell_16 : decode cX2_readWell 16 = .ok (.if_icmp .ne 5, 3) := by decide +kernel
theorem dX2_readWell_19 : decode cX2_readWell 19 = .ok (.iconst 0, 1) := by decide +kernel
theorem dX2_readWell_20 : decode cX2_readWell 20 = .ok (.ireturn, 1) := by decide +kernel
theorem dX2_readWell_21 : decode cX2_readWell 21 = .ok (.aload_n 0, 1) := by decide +kernel
theorem dX2_readWell_22 : decode cX2_readWell 22 = .ok (.aload_n 1, 1) := by decide +kernel
theorem dX2_readWell_23 : decode cX2_readWell 23 = .ok (.iconst 0, 1) := by decide +kernel
theorem dX2_readWell_24 : decode cX2_readWell 24 = .ok (.bipush 39, 2) := by decide +kernel
theorem dX2_readWell_26 : decode cX2_readWell 26 = .ok (.invokevirtual 73, 3) := by decide +kernel
theorem dX2_readWell_29 : decode cX2_readWell 29 = .ok (.putfield 97, 3) := by decide +kernel
theorem dX2_readWell_32 : decode cX2_readWell 32 = .ok (.aload_n 0, 1) := by decide +kernel
theorem dX2_readWell_33 : decode cX2_readWell 33 = .ok (.getfield 97, 3) := by decide +kernel
theorem dX2_readWell_36 : decode cX2_readWell 36 = .ok (.iconst (-1), 1) := by decide +kernel
theorem dX2_readWell_37 : decode cX2_readWell 37 = .ok (.if_icmp .ne 5, 3) := by decide +kernel
theorem dX2_readWell_40 : decode cX2_readWell 40 = .ok (.iconst 0, 1) := by decide +kernel
theorem dX2_readWell_41 : decode cX2_readWell 41 = .ok (.ireturn, 1) := by decide +kernel
theorem dX2_readWell_42 : decode cX2_readWell 42 = .ok (.aload_n 2, 1) := by decide +kernel
theorem dX2_readWell_43 : decode cX2_readWell 43 = .ok (.getfield 134, 3) := by decide +kernel
theorem dX2_readWell_46 : decode cX2_readWell 46 = .ok (.aload_n 0, 1) := by decide +kernel
theorem dX2_readWell_47 : decode cX2_readWell 47 = .ok (.getfield 97, 3) := by decide +kernel
theorem dX2_readWell_50 : decode cX2_readWell 50 = .ok (.bipush 40, 2) := by decide +kernel
theorem dX2_readWell_52 : decode cX2_readWell 52 = .ok (.imul, 1) := by decide +kernel
theorem dX2_readWell_53 : decode cX2_readWell 53 = .ok (.aload_n 0, 1) := by decide +kernel
theorem dX2_readWell_54 : decode cX2_readWell 54 = .ok (.getfield 94, 3) := by decide +kernel
theorem dX2_readWell_57 : decode cX2_readWell 57 = .ok (.iadd, 1) := by decide +kernel
theorem dX2_readWell_58 : decode cX2_readWell 58 = .ok (.dup2, 1) := by decide +kernel
theorem dX2_readWell_59 : decode cX2_readWell 59 = .ok (.iaload, 1) := by decide +kernel
theorem dX2_readWell_60 : decode cX2_readWell 60 = .ok (.sipush 256, 3) := by decide +kernel
theorem dX2_readWell_63 : decode cX2_readWell 63 = .ok (.ior, 1) := by decide +kernel
theorem dX2_readWell_64 : decode cX2_readWell 64 = .ok (.iastore, 1) := by decide +kernel
theorem dX2_readWell_65 : decode cX2_readWell 65 = .ok (.iconst 1, 1) := by decide +kernel
theorem dX2_readWell_66 : decode cX2_readWell 66 = .ok (.ireturn, 1) := by decide +kernel
theorem dX2_readArea_0 : decode cX2_readArea 0 = .ok (.aload_n 0, 1) := by decide +kernel
theorem dX2_readArea_1 : decode cX2_readArea 1 = .ok (.aload_n 1, 1) := by decide +kernel
theorem dX2_readArea_2 : decode cX2_readArea 2 = .ok (.iconst 0, 1) := by decide +kernel
theorem dX2_readArea_3 : decode cX2_readArea 3 = .ok (.bipush 40, 2) := by decide +kernel
theorem dX2_readArea_5 : decode cX2_readArea 5 = .ok (.invokevirtual 73, 3) := by decide +kernel
theorem dX2_readArea_8 : decode cX2_readArea 8 = .ok (.putfield 94, 3) := by decide +kernel
theorem dX2_readArea_11 : decode cX2_readArea 11 = .ok (.aload_n 0, 1) := by decide +kernel
theorem dX2_readArea_12 : decode cX2_readArea 12 = .ok (.getfield 94, 3) := by decide +kernel
theorem dX2_readArea_15 : decode cX2_readArea 15 = .ok (.iconst (-1), 1) := by decide +kernel
theorem dX2_readArea_16 : decode cX2_readArea 16 = .ok (.if_icmp .ne 5, 3) := by decide +kernel
theorem dX2_readArea_19 : decode cX2_readArea 19 = .ok (.iconst 0, 1) := by decide +kernel
theorem dX2_readArea_20 : decode cX2_readArea 20 = .ok (.ireturn, 1) := by decide +kernel
theorem dX2_readArea_21 : decode cX2_readArea 21 = .ok (.aload_n 0, 1) := by decide +kernel
theorem dX2_readArea_22 : decode cX2_readArea 22 = .ok (.aload_n 1, 1) := by decide +kernel
theorem dX2_readArea_23 : decode cX2_readArea 23 = .ok (.iconst 0, 1) := by decide +kernel
theorem dX2_readArea_24 : decode cX2_readArea 24 = .ok (.bipush 40, 2) := by decide +kernel
theorem dX2_readArea_26 : decode cX2_readArea 26 = .ok (.invokevirtual 73, 3) := by decide +kernel
theorem dX2_readArea_29 : decode cX2_readArea 29 = .ok (.putfield 97, 3) := by decide +kernel
theorem dX2_readArea_32 : decode cX2_readArea 32 = .ok (.aload_n 0, 1) := by decide +kernel
theorem dX2_readArea_33 : decode cX2_readArea 33 = .ok (.getfield 97, 3) := by decide +kernel
theorem dX2_readArea_36 : decode cX2_readArea 36 = .ok (.iconst (-1), 1) := by decide +kernel
theorem dX2_readArea_37 : decode cX2_readArea 37 = .ok (.if_icmp .ne 5, 3) := by decide +kernel
theorem dX2_readArea_40 : decode cX2_readArea 40 = .ok (.iconst 0, 1) := by decide +kernel
theorem dX2_readArea_41 : decode cX2_readArea 41 = .ok (.ireturn, 1) := by decide +kernel
theorem dX2_readArea_42 : decode cX2_readArea 42 = .ok (.aload_n 0, 1) := by decide +kernel
theorem dX2_readArea_43 : decode cX2_readArea 43 = .ok (.aload_n 1, 1) := by decide +kernel
theorem dX2_readArea_44 : decode cX2_readArea 44 = .ok (.aload_n 0, 1) := by decide +kernel
theorem dX2_readArea_45 : decode cX2_readArea 45 = .ok (.getfield 94, 3) := by decide +kernel
theorem dX2_readArea_48 : decode cX2_readArea 48 = .ok (.iconst 1, 1) := by decide +kernel
theorem dX2_readArea_49 : decode cX2_readArea 49 = .ok (.iadd, 1) := by decide +kernel
theorem dX2_readArea_50 : decode cX2_readArea 50 = .ok (.bipush 40, 2) := by decide +kernel
theorem dX2_readArea_52 : decode cX2_readArea 52 = .ok (.invokevirtual 73, 3) := by decide +kernel
theorem dX2_readArea_55 : decode cX2_readArea 55 = .ok (.putfield 100, 3) := by decide +kernel
theorem dX2_readArea_58 : decode cX2_readArea 58 = .ok (.aload_n 0, 1) := by decide +kernel
theorem dX2_readArea_59 : decode cX2_readArea 59 = .ok (.getfield 100, 3) := by decide +kernel
theorem dX2_readArea_62 : decode cX2_readArea 62 = .ok (.iconst (-1), 1) := by decide +kernel
theorem dX2_readArea_63 : decode cX2_readArea 63 = .ok (.if_icmp .ne 5, 3) := by decide +kernel
theorem dX2_readArea_66 : decode cX2_readArea 66 = .ok (.iconst 0, 1) := by decide +kernel
theorem dX2_readArea_67 : decode cX2_readArea 67 = .ok (.ireturn, 1) := by decide +kernel
theorem dX2_readArea_68 : decode cX2_readArea 68 = .ok (.aload_n 0, 1) := by decide +kernel
theorem dX2_readArea_69 : decode cX2_readArea 69 = .ok (.aload_n 1, 1) := by decide +kernel
theorem dX2_readArea_70 : decode cX2_readArea 70 = .ok (.aload_n 0, 1) := by decide +kernel
theorem dX2_readArea_71 : decode cX2_readArea 71 = .ok (.getfield 97, 3) := by decide +kernel
theorem dX2_readArea_74 : decode cX2_readArea 74 = .ok (.iconst 1, 1) := by decide +kernel
theorem dX2_readArea_75 : decode cX2_readArea 75 = .ok (.iadd, 1) := by decide +kernel
theorem dX2_readArea_76 : decode cX2_readArea 76 = .ok (.bipush 40, 2) := by decide +kernel
theorem dX2_readArea_78 : decode cX2_readArea 78 = .ok (.invokevirtual 73, 3) := by decide +kernel
theorem dX2_readArea_81 : decode cX2_readArea 81 = .ok (.putfield 103, 3) := by decide +kernel
theorem dX2_readArea_84 : decode cX2_readArea 84 = .ok (.aload_n 0, 1) := by decide +kernel
theorem dX2_readArea_85 : decode cX2_readArea 85 = .ok (.getfield 103, 3) := by decide +kernel
theorem dX2_readArea_88 : decode cX2_readArea 88 = .ok (.iconst (-1), 1) := by decide +kernel
theorem dX2_readArea_89 : decode cX2_readArea 89 = .ok (.if_icmp .eq 7, 3) := by decide +kernel
theorem dX2_readArea_92 : decode cX2_readArea 92 = .ok (.iconst 1, 1) := by decide +kernel
theorem dX2_readArea_93 : decode cX2_readArea 93 = .ok (.goto 4, 3) := by decide +kernel
theorem dX2_readArea_96 : decode cX2_readArea 96 = .ok (.iconst 0, 1) := by decide +kernel
theorem dX2_readArea_97 : decode cX2_readArea 97 = .ok (.ireturn, 1) := by decide +kernel
theorem dX2_mark_0 : decode cX2_mark 0 = .ok (.aload_n 0, 1) := by decide +kernel
theorem dX2_mark_1 : decode cX2_mark 1 = .ok (.getfield 97, 3) := by decide +kernel
theorem dX2_mark_4 : decode cX2_mark 4 = .ok (.istore 4, 2) := by decide +kernel
theorem dX2_mark_6 : decode cX2_mark 6 = .ok (.iload 4, 2) := by decide +kernel
theorem dX2_mark_8 : decode cX2_mark 8 = .ok (.aload_n 0, 1) := by decide +kernel
theorem dX2_mark_9 : decode cX2_mark 9 = .ok (.getfield 103, 3) := by decide +kernel
theorem dX2_mark_12 : decode cX2_mark 12 = .ok (.if_icmp .ge 58, 3) := by decide +kernel
theorem dX2_mark_15 : decode cX2_mark 15 = .ok (.aload_n 0, 1) := by decide +kernel
theorem dX2_mark_16 : decode cX2_mark 16 = .ok (.getfield 94, 3) := by decide +kernel
theorem dX2_mark_19 : decode cX2_mark 19 = .ok (.istore 5, 2) := by decide +kernel
theorem dX2_mark_21 : decode cX2_mark 21 = .ok (.iload 5, 2) := by decide +kernel
theorem dX2_mark_23 : decode cX2_mark 23 = .ok (.aload_n 0, 1) := by decide +kernel
theorem dX2_mark_24 : decode cX2_mark 24 = .ok (.getfield 100, 3) := by decide +kernel
theorem dX2_mark_27 : decode cX2_mark 27 = .ok (.if_icmp .ge 37, 3) := by decide +kernel
theorem dX2_mark_30 : decode cX2_mark 30 = .ok (.iload 4, 2) := by decide +kernel
theorem dX2_mark_32 : decode cX2_mark 32 = .ok (.bipush 40, 2) := by decide +kernel
theorem dX2_mark_34 : decode cX2_mark 34 = .ok (.imul, 1) := by decide +kernel
theorem dX2_mark_35 : decode cX2_mark 35 = .ok (.iload 5, 2) := by decide +kernel
theorem dX2_mark_37 : decode cX2_mark 37 = .ok (.iadd, 1) := by decide +kernel
theorem dX2_mark_38 : decode cX2_mark 38 = .ok (.istore 6, 2) := by decide +kernel
theorem dX2_mark_40 : decode cX2_mark 40 = .ok (.aload_n 1, 1) := by decide +kernel
theorem dX2_mark_41 : decode cX2_mark 41 = .ok (.getfield 134, 3) := by decide +kernel
theorem dX2_mark_44 : decode cX2_mark 44 = .ok (.iload 6, 2) := by decide +kernel
theorem dX2_mark_46 : decode cX2_mark 46 = .ok (.aload_n 1, 1) := by decide +kernel
theorem dX2_mark_47 : decode cX2_mark 47 = .ok (.getfield 134, 3) := by decide +kernel
theorem dX2_mark_50 : decode cX2_mark 50 = .ok (.iload 6, 2) := by decide +kernel
theorem dX2_mark_52 : decode cX2_mark 52 = .ok (.iaload, 1) := by decide +kernel
theorem dX2_mark_53 : decode cX2_mark 53 = .ok (.iload_n 2, 1) := by decide +kernel
theorem dX2_mark_54 : decode cX2_mark 54 = .ok (.iand, 1) := by decide +kernel
theorem dX2_mark_55 : decode cX2_mark 55 = .ok (.iload_n 3, 1) := by decide +kernel
theorem dX2_mark_56 : decode cX2_mark 56 = .ok (.ior, 1) := by decide +kernel
theorem dX2_mark_57 : decode cX2_mark 57 = .ok (.iastore, 1) := by decide +kernel
theorem dX2_mark_58 : decode cX2_mark 58 = .ok (.iinc 5 1, 3) := by decide +kernel
theorem dX2_mark_61 : decode cX2_mark 61 = .ok (.goto (-40), 3) := by decide +kernel
theorem dX2_mark_64 : decode cX2_mark 64 = .ok (.iinc 4 1, 3) := by decide +kernel
theorem dX2_mark_67 : decode cX2_mark 67 = .ok (.goto (-61), 3) := by decide +kernel
theorem dX2_mark_70 : decode cX2_mark 70 = .ok (.return_, 1) := by decide +kernel
theorem dX2_checkHouses_0 : decode cX2_checkHouses 0 = .ok (.iconst 0, 1) := by decide +kernel
theorem dX2_checkHouses_1 : decode cX2_checkHouses 1 = .ok (.istore_n 3, 1) := by decide +kernel
theorem dX2_checkHouses_2 : decode cX2_checkHouses 2 = .ok (.iload_n 3, 1) := by decide +kernel
theorem dX2_checkHouses_3 : decode cX2_checkHouses 3 = .ok (.aload_n 2, 1) := by decide +kernel
theorem dX2_checkHouses_4 : decode cX2_checkHouses 4 = .ok (.getfield 51, 3) := by decide +kernel
theorem dX2_checkHouses_7 : decode cX2_checkHouses 7 = .ok (.if_icmp .ge 51, 3) := by decide +kernel
theorem dX2_checkHouses_10 : decode cX2_checkHouses 10 = .ok (.aload_n 2, 1) := by decide +kernel
theorem dX2_checkHouses_11 : decode cX2_checkHouses 11 = .ok (.getfield 90, 3) := by decide +kernel
theorem dX2_checkHouses_14 : decode cX2_checkHouses 14 = .ok (.iload_n 3, 1) := by decide +kernel
theorem dX2_checkHouses_15 : decode cX2_checkHouses 15 = .ok (.aaload, 1) := by decide +kernel
theorem dX2_checkHouses_16 : decode cX2_checkHouses 16 = .ok (.getfield 121, 3) := by decide +kernel
theorem dX2_checkHouses_19 : decode cX2_checkHouses 19 = .ok (.aload_n 2, 1) := by decide +kernel
theorem dX2_checkHouses_20 : decode cX2_checkHouses 20 = .ok (.getfield 77, 3) := by decide +kernel
theorem dX2_checkHouses_23 : decode cX2_checkHouses 23 = .ok (.if_icmp .gt 19, 3) := by decide +kernel
theorem dX2_checkHouses_26 : decode cX2_checkHouses 26 = .ok (.aload_n 2, 1) := by decide +kernel
theorem dX2_checkHouses_27 : decode cX2_checkHouses 27 = .ok (.getfield 90, 3) := by decide +kernel
theorem dX2_checkHouses_30 : decode cX2_checkHouses 30 = .ok (.iload_n 3, 1) := by decide +kernel
theorem dX2_checkHouses_31 : decode cX2_checkHouses 31 = .ok (.aaload, 1) := by decide +kernel
theorem dX2_checkHouses_32 : decode cX2_checkHouses 32 = .ok (.getfield 129, 3) := by decide +kernel
theorem dX2_checkHouses_35 : decode cX2_checkHouses 35 = .ok (.aload_n 2, 1) := by decide +kernel
theorem dX2_checkHouses_36 : decode cX2_checkHouses 36 = .ok (.getfield 80, 3) := by decide +kernel
theorem dX2_checkHouses_39 : decode cX2_checkHouses 39 = .ok (.if_icmp .le 13, 3) := by decide +kernel
theorem dX2_checkHouses_42 : decode cX2_checkHouses 42 = .ok (.aload_n 1, 1) := by decide +kernel
theorem dX2_checkHouses_43 : decode cX2_checkHouses 43 = .ok (.aload_n 1, 1) := by decide +kernel
theorem dX2_checkHouses_44 : decode cX2_checkHouses 44 = .ok (.getfield 138, 3) := by decide +kernel
theorem dX2_checkHouses_47 : decode cX2_checkHouses 47 = .ok (.iconst 5, 1) := by decide +kernel
theorem dX2_checkHouses_48 : decode cX2_checkHouses 48 = .ok (.invokevirtual 116, 3) := by decide +kernel
theorem dX2_checkHouses_51 : decode cX2_checkHouses 51 = .ok (.pop, 1) := by decide +kernel
theorem dX2_checkHouses_52 : decode cX2_checkHouses 52 = .ok (.iinc 3 1, 3) := by decide +kernel
theorem dX2_checkHouses_55 : decode cX2_checkHouses 55 = .ok (.goto (-53), 3) := by decide +kernel
theorem dX2_checkHouses_58 : decode cX2_checkHouses 58 = .ok (.return_, 1) := by decide +kernel
theorem dX3_init_0 : decode cX3_init 0 = .ok (.aload_n 0, 1) := by decide +kernel
theorem dX3_init_1 : decode cX3_init 1 = .ok (.invokespecial 3, 3) := by decide +kernel
theorem dX3_init_4 : decode cX3_init 4 = .ok (.aload_n 0, 1) := by decide +kernel
theorem dX3_init_5 : decode cX3_init 5 = .ok (.iconst (-1), 1) := by decide +kernel
theorem dX3_init_6 : decode cX3_init 6 = .ok (.putfield 9, 3) := by decide +kernel
theorem dX3_init_9 : decode cX3_init 9 = .ok (.aload_n 0, 1) := by decide +kernel
theorem dX3_init_10 : decode cX3_init 10 = .ok (.bipush 12, 2) := by decide +kernel
theorem dX3_init_12 : decode cX3_init 12 = .ok (.newarray .long, 2) := by decide +kernel
theorem dX3_init_14 : decode cX3_init 14 = .ok (.putfield 15, 3) := by decide +kernel
theorem dX3_init_17 : decode cX3_init 17 = .ok (.return_, 1) := by decide +kernel
theorem dX3_set_0 : decode cX3_set 0 = .ok (.aload_n 0, 1) := by decide +kernel
theorem dX3_set_1 : decode cX3_set 1 = .ok (.iload_n 1, 1) := by decide +kernel
theorem dX3_set_2 : decode cX3_set 2 = .ok (.putfield 19, 3) := by decide +kernel
theorem dX3_set_5 : decode cX3_set 5 = .ok (.aload_n 0, 1) := by decide +kernel
theorem dX3_set_6 : decode cX3_set 6 = .ok (.iload_n 2, 1) := by decide +kernel
theorem dX3_set_7 : decode cX3_set 7 = .ok (.putfield 22, 3) := by decide +kernel
theorem dX3_set_10 : decode cX3_set 10 = .ok (.aload_n 0, 1) := by decide +kernel
theorem dX3_set_11 : decode cX3_set 11 = .ok (.iload_n 3, 1) := by decide +kernel
theorem dX3_set_12 : decode cX3_set 12 = .ok (.putfield 25, 3) := by decide +kernel
theorem dX3_set_15 : decode cX3_set 15 = .ok (.aload_n 0, 1) := by decide +kernel
theorem dX3_set_16 : decode cX3_set 16 = .ok (.iload 4, 2) := by decide +kernel
theorem dX3_set_18 : decode cX3_set 18 = .ok (.putfield 28, 3) := by decide +kernel
theorem dX3_set_21 : decode cX3_set 21 = .ok (.aload_n 0, 1) := by decide +kernel
theorem dX3_set_22 : decode cX3_set 22 = .ok (.iload 5, 2) := by decide +kernel
theorem dX3_set_24 : decode cX3_set 24 = .ok (.putfield 31, 3) := by decide +kernel
theorem dX3_set_27 : decode cX3_set 27 = .ok (.aload_n 0, 1) := by decide +kernel
theorem dX3_set_28 : decode cX3_set 28 = .ok (.iload 6, 2) := by decide +kernel
theorem dX3_set_30 : decode cX3_set 30 = .ok (.putfield 34, 3) := by decide +kernel
theorem dX3_set_33 : decode cX3_set 33 = .ok (.aload_n 0, 1) := by decide +kernel
theorem dX3_set_34 : decode cX3_set 34 = .ok (.iload 7, 2) := by decide +kernel
theorem dX3_set_36 : decode cX3_set 36 = .ok (.putfield 9, 3) := by decide +kernel
theorem dX3_set_39 : decode cX3_set 39 = .ok (.aload_n 0, 1) := by decide +kernel
theorem dX3_set_40 : decode cX3_set 40 = .ok (.iconst 0, 1) := by decide +kernel
theorem dX3_set_41 : decode cX3_set 41 = .ok (.putfield 37, 3) := by decide +kernel
theorem dX3_set_44 : decode cX3_set 44 = .ok (.return_, 1) := by decide +kernel
theorem dX3_surround_0 : decode cX3_surround 0 = .ok (.aload_n 0, 1) := by decide +kernel
theorem dX3_surround_1 : decode cX3_surround 1 = .ok (.aload_n 2, 1) := by decide +kernel
theorem dX3_surround_2 : decode cX3_surround 2 = .ok (.ifnonnull 10, 3) := by decide +kernel
theorem dX3_surround_5 : decode cX3_surround 5 = .ok (.aload_n 1, 1) := by decide +kernel
theorem dX3_surround_6 : decode cX3_surround 6 = .ok (.getfield 40, 3) := by decide +kernel
theorem dX3_surround_9 : decode cX3_surround 9 = .ok (.goto 14, 3) := by decide +kernel
theorem dX3_surround_12 : decode cX3_surround 12 = .ok (.aload_n 1, 1) := by decide +kernel
theorem dX3_surround_13 : decode cX3_surround 13 = .ok (.getfield 40, 3) := by decide +kernel
theorem dX3_surround_16 : decode cX3_surround 16 = .ok (.aload_n 2, 1) := by decide +kernel
theorem dX3_surround_17 : decode cX3_surround 17 = .ok (.getfield 40, 3) := by decide +kernel
theorem dX3_surround_20 : decode cX3_surround 20 = .ok (.invokestatic 43, 3) := by decide +kernel
theorem dX3_surround_23 : decode cX3_surround 23 = .ok (.putfield 49, 3) := by decide +kernel
theorem dX3_surround_26 : decode cX3_surround 26 = .ok (.aload_n 0, 1) := by decide +kernel
theorem dX3_surround_27 : decode cX3_surround 27 = .ok (.aload_n 2, 1) := by decide +kernel
theorem dX3_surround_28 : decode cX3_surround 28 = .ok (.ifnonnull 10, 3) := by decide +kernel
theorem dX3_surround_31 : decode cX3_surround 31 = .ok (.aload_n 1, 1) := by decide +kernel
theorem dX3_surround_32 : decode cX3_surround 32 = .ok (.getfield 52, 3) := by decide +kernel
theorem dX3_surround_35 : decode cX3_surround 35 = .ok (.goto 14, 3) := by decide +kernel
theorem dX3_surround_38 : decode cX3_surround 38 = .ok (.aload_n 1, 1) := by decide +kernel
theorem dX3_surround_39 : decode cX3_surround 39 = .ok (.getfield 52, 3) := by decide +kernel
theorem dX3_surround_42 : decode cX3_surround 42 = .ok (.aload_n 2, 1) := by decide +kernel
theorem dX3_surround_43 : decode cX3_surround 43 = .ok (.getfield 52, 3) := by decide +kernel
theorem dX3_surround_46 : decode cX3_surround 46 = .ok (.invokestatic 43, 3) := by decide +kernel
theorem dX3_surround_49 : decode cX3_surround 49 = .ok (.putfield 53, 3) := by decide +kernel
theorem dX3_surround_52 : decode cX3_surround 52 = .ok (.aload_n 0, 1) := by decide +kernel
theorem dX3_surround_53 : decode cX3_surround 53 = .ok (.aload_n 2, 1) := by decide +kernel
theorem dX3_surround_54 : decode cX3_surround 54 = .ok (.ifnonnull 10, 3) := by decide +kernel
theorem dX3_surround_57 : decode cX3_surround 57 = .ok (.aload_n 1, 1) := by decide +kernel
theorem dX3_surround_58 : decode cX3_surround 58 = .ok (.getfield 56, 3) := by decide +kernel
theorem dX3_surround_61 : decode cX3_surround 61 = .ok (.goto 14, 3) := by decide +kernel
theorem dX3_surround_64 : decode cX3_surround 64 = .ok (.aload_n 1, 1) := by decide +kernel
theorem dX3_surround_65 : decode cX3_surround 65 = .ok (.getfield 56, 3) := by decide +kernel
theorem dX3_surround_68 : decode cX3_surround 68 = .ok (.aload_n 2, 1) := by decide +kernel
theorem dX3_surround_69 : decode cX3_surround 69 = .ok (.getfield 56, 3) := by decide +kernel
theorem dX3_surround_72 : decode cX3_surround 72 = .ok (.invokestatic 57, 3) := by decide +kernel
theorem dX3_surround_75 : decode cX3_surround 75 = .ok (.putfield 60, 3) := by decide +kernel
theorem dX3_surround_78 : decode cX3_surround 78 = .ok (.aload_n 0, 1) := by decide +kernel
theorem dX3_surround_79 : decode cX3_surround 79 = .ok (.aload_n 2, 1) := by decide +kernel
theorem dX3_surround_80 : decode cX3_surround 80 = .ok (.ifnonnull 10, 3) := by decide +kernel
theorem dX3_surround_83 : decode cX3_surround 83 = .ok (.aload_n 1, 1) := by decide +kernel
theorem dX3_surround_84 : decode cX3_surround 84 = .ok (.getfield 63, 3) := by decide +kernel
theorem dX3_surround_87 : decode cX3_surround 87 = .ok (.goto 14, 3) := by decide +kernel
theorem dX3_surround_90 : decode cX3_surround 90 = .ok (.aload_n 1, 1) := by decide +kernel
theorem dX3_surround_91 : decode cX3_surround 91 = .ok (.getfield 63, 3) := by decide +kernel
theorem dX3_surround_94 : decode cX3_surround 94 = .ok (.aload_n 2, 1) := by decide +kernel
theorem dX3_surround_95 : decode cX3_surround 95 = .ok (.getfield 63, 3) := by decide +kernel
theorem dX3_surround_98 : decode cX3_surround 98 = .ok (.invokestatic 57, 3) := by decide +kernel
theorem dX3_surround_101 : decode cX3_surround 101 = .ok (.putfield 64, 3) := by decide +kernel
theorem dX3_surround_104 : decode cX3_surround 104 = .ok (.return_, 1) := by decide +kernel
theorem dX3_spread_0 : decode cX3_spread 0 = .ok (.aload_n 0, 1) := by decide +kernel
theorem dX3_spread_1 : decode cX3_spread 1 = .ok (.iload_n 1, 1) := by decide +kernel
theorem dX3_spread_2 : decode cX3_spread 2 = .ok (.putfield 67, 3) := by decide +kernel
theorem dX3_spread_5 : decode cX3_spread 5 = .ok (.aload_n 0, 1) := by decide +kernel
theorem dX3_spread_6 : decode cX3_spread 6 = .ok (.iload_n 2, 1) := by decide +kernel
theorem dX3_spread_7 : decode cX3_spread 7 = .ok (.putfield 70, 3) := by decide +kernel
theorem dX3_spread_10 : decode cX3_spread 10 = .ok (.aload_n 0, 1) := by decide +kernel
theorem dX3_spread_11 : decode cX3_spread 11 = .ok (.iload_n 3, 1) := by decide +kernel
theorem dX3_spread_12 : decode cX3_spread 12 = .ok (.putfield 73, 3) := by decide +kernel
theorem dX3_spread_15 : decode cX3_spread 15 = .ok (.aload_n 0, 1) := by decide +kernel
theorem dX3_spread_16 : decode cX3_spread 16 = .ok (.iload 4, 2) := by decide +kernel
theorem dX3_spread_18 : decode cX3_spread 18 = .ok (.putfield 76, 3) := by decide +kernel
theorem dX3_spread_21 : decode cX3_spread 21 = .ok (.aload_n 0, 1) := by decide +kernel
theorem dX3_spread_22 : decode cX3_spread 22 = .ok (.aload_n 0, 1) := by decide +kernel
theorem dX3_spread_23 : decode cX3_spread 23 = .ok (.getfield 49, 3) := by decide +kernel
theorem dX3_spread_26 : decode cX3_spread 26 = .ok (.iload_n 1, 1) := by decide +kernel
theorem dX3_spread_27 : decode cX3_spread 27 = .ok (.isub, 1) := by decide +kernel
theorem dX3_spread_28 : decode cX3_spread 28 = .ok (.putfield 22, 3) := by decide +kernel
theorem dX3_spread_31 : decode cX3_spread 31 = .ok (.aload_n 0, 1) := by decide +kernel
theorem dX3_spread_32 : decode cX3_spread 32 = .ok (.aload_n 0, 1) := by decide +kernel
theorem dX3_spread_33 : decode cX3_spread 33 = .ok (.getfield 53, 3) := by decide +kernel
theorem dX3_spread_36 : decode cX3_spread 36 = .ok (.iload_n 2, 1) := by decide +kernel
theorem dX3_spread_37 : decode cX3_spread 37 = .ok (.isub, 1) := by decide +kernel
theorem dX3_spread_38 : decode cX3_spread 38 = .ok (.putfield 25, 3) := by decide +kernel
theorem dX3_spread_41 : decode cX3_spread 41 = .ok (.aload_n 0, 1) := by decide +kernel
theorem dX3_spread_42 : decode cX3_spread 42 = .ok (.aload_n 0, 1) := by decide +kernel
theorem dX3_spread_43 : decode cX3_spread 43 = .ok (.getfield 60, 3) := by decide +kernel
theorem dX3_spread_46 : decode cX3_spread 46 = .ok (.iload_n 3, 1) := by decide +kernel
theorem dX3_spread_47 : decode cX3_spread 47 = .ok (.iadd, 1) := by decide +kernel
theorem dX3_spread_48 : decode cX3_spread 48 = .ok (.putfield 28, 3) := by decide +kernel
theorem dX3_spread_51 : decode cX3_spread 51 = .ok (.aload_n 0, 1) := by decide +kernel
theorem dX3_spread_52 : decode cX3_spread 52 = .ok (.aload_n 0, 1) := by decide +kernel
theorem dX3_spread_53 : decode cX3_spread 53 = .ok (.getfield 64, 3) := by decide +kernel
theorem dX3_spread_56 : decode cX3_spread 56 = .ok (.iload 4, 2) := by decide +kernel
theorem dX3_spread_58 : decode cX3_spread 58 = .ok (.iadd, 1) := by decide +kernel
theorem dX3_spread_59 : decode cX3_spread 59 = .ok (.putfield 31, 3) := by decide +kernel
theorem dX3_spread_62 : decode cX3_spread 62 = .ok (.return_, 1) := by decide +kernel
theorem dX3_spreadBy_0 : decode cX3_spreadBy 0 = .ok (.iload_n 2, 1) := by decide +kernel
theorem dX3_spreadBy_1 : decode cX3_spreadBy 1 = .ok (.ifCond .le 39, 3) := by decide +kernel
theorem dX3_spreadBy_4 : decode cX3_spreadBy 4 = .ok (.aload_n 0, 1) := by decide +kernel
theorem dX3_spreadBy_5 : decode cX3_spreadBy 5 = .ok (.iconst 1, 1) := by decide +kernel
theorem dX3_spreadBy_6 : decode cX3_spreadBy 6 = .ok (.iload_n 1, 1) := by decide +kernel
theorem dX3_spreadBy_7 : decode cX3_spreadBy 7 = .ok (.iload_n 2, 1) := by decide +kernel
theorem dX3_spreadBy_8 : decode cX3_spreadBy 8 = .ok (.iload_n 2, 1) := by decide +kernel
theorem dX3_spreadBy_9 : decode cX3_spreadBy 9 = .ok (.imul, 1) := by decide +kernel
theorem dX3_spreadBy_10 : decode cX3_spreadBy 10 = .ok (.iload_n 2, 1) := by decide +kernel
theorem dX3_spreadBy_11 : decode cX3_spreadBy 11 = .ok (.imul, 1) := by decide +kernel
theorem dX3_spreadBy_12 : decode cX3_spreadBy 12 = .ok (.idiv, 1) := by decide +kernel
theorem dX3_spreadBy_13 : decode cX3_spreadBy 13 = .ok (.iload_n 2, 1) := by decide +kernel
theorem dX3_spreadBy_14 : decode cX3_spreadBy 14 = .ok (.irem, 1) := by decide +kernel
theorem dX3_spreadBy_15 : decode cX3_spreadBy 15 = .ok (.iadd, 1) := by decide +kernel
theorem dX3_spreadBy_16 : decode cX3_spreadBy 16 = .ok (.iconst 1, 1) := by decide +kernel
theorem dX3_spreadBy_17 : decode cX3_spreadBy 17 = .ok (.iload_n 1, 1) := by decide +kernel
theorem dX3_spreadBy_18 : decode cX3_spreadBy 18 = .ok (.iload_n 2, 1) := by decide +kernel
theorem dX3_spreadBy_19 : decode cX3_spreadBy 19 = .ok (.iload_n 2, 1) := by decide +kernel
theorem dX3_spreadBy_20 : decode cX3_spreadBy 20 = .ok (.imul, 1) := by decide +kernel
theorem dX3_spreadBy_21 : decode cX3_spreadBy 21 = .ok (.idiv, 1) := by decide +kernel
theorem dX3_spreadBy_22 : decode cX3_spreadBy 22 = .ok (.iload_n 2, 1) := by decide +kernel
theorem dX3_spreadBy_23 : decode cX3_spreadBy 23 = .ok (.irem, 1) := by decide +kernel
theorem dX3_spreadBy_24 : decode cX3_spreadBy 24 = .ok (.iadd, 1) := by decide +kernel
theorem dX3_spreadBy_25 : decode cX3_spreadBy 25 = .ok (.iconst 1, 1) := by decide +kernel
theorem dX3_spreadBy_26 : decode cX3_spreadBy 26 = .ok (.iload_n 1, 1) := by decide +kernel
theorem dX3_spreadBy_27 : decode cX3_spreadBy 27 = .ok (.iload_n 2, 1) := by decide +kernel
theorem dX3_spreadBy_28 : decode cX3_spreadBy 28 = .ok (.idiv, 1) := by decide +kernel
theorem dX3_spreadBy_29 : decode cX3_spreadBy 29 = .ok (.iload_n 2, 1) := by decide +kernel
theorem dX3_spreadBy_30 : decode cX3_spreadBy 30 = .ok (.irem, 1) := by decide +kernel
theorem dX3_spreadBy_31 : decode cX3_spreadBy 31 = .ok (.iadd, 1) := by decide +kernel
theorem dX3_spreadBy_32 : decode cX3_spreadBy 32 = .ok (.iconst 1, 1) := by decide +kernel
theorem dX3_spreadBy_33 : decode cX3_spreadBy 33 = .ok (.iload_n 1, 1) := by decide +kernel
theorem dX3_spreadBy_34 : decode cX3_spreadBy 34 = .ok (.iload_n 2, 1) := by decide +kernel
theorem dX3_spreadBy_35 : decode cX3_spreadBy 35 = .ok (.irem, 1) := by decide +kernel
theorem dX3_spreadBy_36 : decode cX3_spreadBy 36 = .ok (.iadd, 1) := by decide +kernel
theorem dX3_spreadBy_37 : decode cX3_spreadBy 37 = .ok (.invokevirtual 79, 3) := by decide +kernel
theorem dX3_spreadBy_40 : decode cX3_spreadBy 40 = .ok (.return_, 1) := by decide +kernel
theorem dX3_area_0 : decode cX3_area 0 = .ok (.aload_n 0, 1) := by decide +kernel
theorem dX3_area_1 : decode cX3_area 1 = .ok (.getfield 28, 3) := by decide +kernel
theorem dX3_area_4 : decode cX3_area 4 = .ok (.aload_n 0, 1) := by decide +kernel
theorem dX3_area_5 : decode cX3_area 5 = .ok (.getfield 22, 3) := by decide +kernel
theorem dX3_area_8 : decode cX3_area 8 = .ok (.isub, 1) := by decide +kernel
theorem dX3_area_9 : decode cX3_area 9 = .ok (.aload_n 0, 1) := by decide +kernel
theorem dX3_area_10 : decode cX3_area 10 = .ok (.getfield 31, 3) := by decide +kernel
theorem dX3_area_13 : decode cX3_area 13 = .ok (.aload_n 0, 1) := by decide +kernel
theorem dX3_area_14 : decode cX3_area 14 = .ok (.getfield 25, 3) := by decide +kernel
theorem dX3_area_17 : decode cX3_area 17 = .ok (.isub, 1) := by decide +kernel
theorem dX3_area_18 : decode cX3_area 18 = .ok (.imul, 1) := by decide +kernel
theorem dX3_area_19 : decode cX3_area 19 = .ok (.ireturn, 1) := by decide +kernel
theorem dX3_line_0 : decode cX3_line 0 = .ok (.iconst 2, 1) := by decide +kernel
theorem dX3_line_1 : decode cX3_line 1 = .ok (.aload_n 0, 1) := by decide +kernel
theorem dX3_line_2 : decode cX3_line 2 = .ok (.getfield 28, 3) := by decide +kernel
theorem dX3_line_5 : decode cX3_line 5 = .ok (.aload_n 0, 1) := by decide +kernel
theorem dX3_line_6 : decode cX3_line 6 = .ok (.getfield 22, 3) := by decide +kernel
theorem dX3_line_9 : decode cX3_line 9 = .ok (.isub, 1) := by decide +kernel
theorem dX3_line_10 : decode cX3_line 10 = .ok (.aload_n 0, 1) := by decide +kernel
theorem dX3_line_11 : decode cX3_line 11 = .ok (.getfield 31, 3) := by decide +kernel
theorem dX3_line_14 : decode cX3_line 14 = .ok (.iadd, 1) := by decide +kernel
theorem dX3_line_15 : decode cX3_line 15 = .ok (.aload_n 0, 1) := by decide +kernel
theorem dX3_line_16 : decode cX3_line 16 = .ok (.getfield 25, 3) := by decide +kernel
theorem dX3_line_19 : decode cX3_line 19 = .ok (.isub, 1) := by decide +kernel
theorem dX3_line_20 : decode cX3_line 20 = .ok (.imul, 1) := by decide +kernel
theorem dX3_line_21 : decode cX3_line 21 = .ok (.ireturn, 1) := by decide +kernel
theorem dX3_gapTo_0 : decode cX3_gapTo 0 = .ok (.aload_n 1, 1) := by decide +kernel
theorem dX3_gapTo_1 : decode cX3_gapTo 1 = .ok (.getfield 40, 3) := by decide +kernel
theorem dX3_gapTo_4 : decode cX3_gapTo 4 = .ok (.aload_n 0, 1) := by decide +kernel
theorem dX3_gapTo_5 : decode cX3_gapTo 5 = .ok (.getfield 22, 3) := by decide +kernel
theorem dX3_gapTo_8 : decode cX3_gapTo 8 = .ok (.isub, 1) := by decide +kernel
theorem dX3_gapTo_9 : decode cX3_gapTo 9 = .ok (.aload_n 1, 1) := by decide +kernel
theorem dX3_gapTo_10 : decode cX3_gapTo 10 = .ok (.getfield 52, 3) := by decide +kernel
theorem dX3_gapTo_13 : decode cX3_gapTo 13 = .ok (.aload_n 0, 1) := by decide +kernel
theorem dX3_gapTo_14 : decode cX3_gapTo 14 = .ok (.getfield 25, 3) := by decide +kernel
theorem dX3_gapTo_17 : decode cX3_gapTo 17 = .ok (.isub, 1) := by decide +kernel
theorem dX3_gapTo_18 : decode cX3_gapTo 18 = .ok (.invokestatic 43, 3) := by decide +kernel
theorem dX3_gapTo_21 : decode cX3_gapTo 21 = .ok (.aload_n 0, 1) := by decide +kernel
theorem dX3_gapTo_22 : decode cX3_gapTo 22 = .ok (.getfield 28, 3) := by decide +kernel
theorem dX3_gapTo_25 : decode cX3_gapTo 25 = .ok (.aload_n 1, 1) := by decide +kernel
theorem dX3_gapTo_26 : decode cX3_gapTo 26 = .ok (.getfield 56, 3) := by decide +kernel
theorem dX3_gapTo_29 : decode cX3_gapTo 29 = .ok (.isub, 1) := by decide +kernel
theorem dX3_gapTo_30 : decode cX3_gapTo 30 = .ok (.aload_n 0, 1) := by decide +kernel
theorem dX3_gapTo_31 : decode cX3_gapTo 31 = .ok (.getfield 31, 3) := by decide +kernel
theorem dX3_gapTo_34 : decode cX3_gapTo 34 = .ok (.aload_n 1, 1) := by decide +kernel
theorem dX3_gapTo_35 : decode cX3_gapTo 35 = .ok (.getfield 63, 3) := by decide +kernel
theorem dX3_gapTo_38 : decode cX3_gapTo 38 = .ok (.isub, 1) := by decide +kernel
theorem dX3_gapTo_39 : decode cX3_gapTo 39 = .ok (.invokestatic 43, 3) := by decide +kernel
theorem dX3_gapTo_42 : decode cX3_gapTo 42 = .ok (.invokestatic 43, 3) := by decide +kernel
theorem dX3_gapTo_45 : decode cX3_gapTo 45 = .ok (.ireturn, 1) := by decide +kernel
theorem dX3_isClearOf_0 : decode cX3_isClearOf 0 = .ok (.aload_n 0, 1) := by decide +kernel
theorem dX3_isClearOf_1 : decode cX3_isClearOf 1 = .ok (.getfield 22, 3) := by decide +kernel
theorem dX3_isClearOf_4 : decode cX3_isClearOf 4 = .ok (.aload_n 0, 1) := by decide +kernel
theorem dX3_isClearOf_5 : decode cX3_isClearOf 5 = .ok (.getfield 28, 3) := by decide +kernel
theorem dX3_isClearOf_8 : decode cX3_isClearOf 8 = .ok (.aload_n 1, 1) := by decide +kernel
theorem dX3_isClearOf_9 : decode cX3_isClearOf 9 = .ok (.getfield 40, 3) := by decide +kernel
theorem dX3_isClearOf_12 : decode cX3_isClearOf 12 = .ok (.aload_n 1, 1) := by decide +kernel
theorem dX3_isClearOf_13 : decode cX3_isClearOf 13 = .ok (.getfield 56, 3) := by decide +kernel
theorem dX3_isClearOf_16 : decode cX3_isClearOf 16 = .ok (.invokestatic 83, 3) := by decide +kernel
theorem dX3_isClearOf_19 : decode cX3_isClearOf 19 = .ok (.ifCond .ne 25, 3) := by decide +kernel
theorem dX3_isClearOf_22 : decode cX3_isClearOf 22 = .ok (.aload_n 0, 1) := by decide +kernel
theorem dX3_isClearOf_23 : decode cX3_isClearOf 23 = .ok (.getfield 25, 3) := by decide +kernel
theorem dX3_isClearOf_26 : decode cX3_isClearOf 26 = .ok (.aload_n 0, 1) := by decide +kernel
theorem dX3_isClearOf_27 : decode cX3_isClearOf 27 = .ok (.getfield 31, 3) := by decide +kernel
theorem dX3_isClearOf_30 : decode cX3_isClearOf 30 = .ok (.aload_n 1, 1) := by decide +kernel
theorem dX3_isClearOf_31 : decode cX3_isClearOf 31 = .ok (.getfield 52, 3) := by decide +kernel
theorem dX3_isClearOf_34 : decode cX3_isClearOf 34 = .ok (.aload_n 1, 1) := by decide +kernel
theorem dX3_isClearOf_35 : decode cX3_isClearOf 35 = .ok (.getfield 63, 3) := by decide +kernel
theorem dX3_isClearOf_38 : decode cX3_isClearOf 38 = .ok (.invokestatic 83, 3) := by decide +kernel
theorem dX3_isClearOf_41 : decode cX3_isClearOf 41 = .ok (.ifCond .eq 7, 3) := by decide +kernel
theorem dX3_isClearOf_44 : decode cX3_isClearOf 44 = .ok (.iconst 1, 1) := by decide +kernel
theorem dX3_isClearOf_45 : decode cX3_isClearOf 45 = .ok (.goto 4, 3) := by decide +kernel
theorem dX3_isClearOf_48 : decode cX3_isClearOf 48 = .ok (.iconst 0, 1) := by decide +kernel
theorem dX3_isClearOf_49 : decode cX3_isClearOf 49 = .ok (.ireturn, 1) := by decide +kernel
theorem dX3_areClear_0 : decode cX3_areClear 0 = .ok (.iload_n 1, 1) := by decide +kernel
theorem dX3_areClear_1 : decode cX3_areClear 1 = .ok (.iconst 1, 1) := by decide +kernel
theorem dX3_areClear_2 : decode cX3_areClear 2 = .ok (.iadd, 1) := by decide +kernel
theorem dX3_areClear_3 : decode cX3_areClear 3 = .ok (.iload_n 2, 1) := by decide +kernel
theorem dX3_areClear_4 : decode cX3_areClear 4 = .ok (.if_icmp .le 10, 3) := by decide +kernel
theorem dX3_areClear_7 : decode cX3_areClear 7 = .ok (.iload_n 3, 1) := by decide +kernel
theorem dX3_areClear_8 : decode cX3_areClear 8 = .ok (.iconst 1, 1) := by decide +kernel
theorem dX3_areClear_9 : decode cX3_areClear 9 = .ok (.iadd, 1) := by decide +kernel
theorem dX3_areClear_10 : decode cX3_areClear 10 = .ok (.iload_n 0, 1) := by decide +kernel
theorem dX3_areClear_11 : decode cX3_areClear 11 = .ok (.if_icmp .gt 7, 3) := by decide +kernel
theorem dX3_areClear_14 : decode cX3_areClear 14 = .ok (.iconst 1, 1) := by decide +kernel
theorem dX3_areClear_15 : decode cX3_areClear 15 = .ok (.goto 4, 3) := by decide +kernel
theorem dX3_areClear_18 : decode cX3_areClear 18 = .ok (.iconst 0, 1) := by decide +kernel
theorem dX3_areClear_19 : decode cX3_areClear 19 = .ok (.ireturn, 1) := by decide +kernel
theorem dX4_init_0 : decode cX4_init 0 = .ok (.aload_n 0, 1) := by decide +kernel
theorem dX4_init_1 : decode cX4_init 1 = .ok (.invokespecial 3, 3) := by decide +kernel
theorem dX4_init_4 : decode cX4_init 4 = .ok (.aload_n 0, 1) := by decide +kernel
theorem dX4_init_5 : decode cX4_init 5 = .ok (.bipush 64, 2) := by decide +kernel
theorem dX4_init_7 : decode cX4_init 7 = .ok (.newarray .long, 2) := by decide +kernel
theorem dX4_init_9 : decode cX4_init 9 = .ok (.putfield 9, 3) := by decide +kernel
theorem dX4_init_12 : decode cX4_init 12 = .ok (.aload_n 0, 1) := by decide +kernel
theorem dX4_init_13 : decode cX4_init 13 = .ok (.aload_n 1, 1) := by decide +kernel
theorem dX4_init_14 : decode cX4_init 14 = .ok (.putfield 15, 3) := by decide +kernel
theorem dX4_init_17 : decode cX4_init 17 = .ok (.aload_n 0, 1) := by decide +kernel
theorem dX4_init_18 : decode cX4_init 18 = .ok (.aload_n 2, 1) := by decide +kernel
theorem dX4_init_19 : decode cX4_init 19 = .ok (.putfield 19, 3) := by decide +kernel
theorem dX4_init_22 : decode cX4_init 22 = .ok (.aload_n 0, 1) := by decide +kernel
theorem dX4_init_23 : decode cX4_init 23 = .ok (.aload_n 3, 1) := by decide +kernel
theorem dX4_init_24 : decode cX4_init 24 = .ok (.putfield 22, 3) := by decide +kernel
theorem dX4_init_27 : decode cX4_init 27 = .ok (.aload_n 0, 1) := by decide +kernel
theorem dX4_init_28 : decode cX4_init 28 = .ok (.aload 4, 2) := by decide +kernel
theorem dX4_init_30 : decode cX4_init 30 = .ok (.putfield 25, 3) := by decide +kernel
theorem dX4_init_33 : decode cX4_init 33 = .ok (.aload_n 0, 1) := by decide +kernel
theorem dX4_init_34 : decode cX4_init 34 = .ok (.iload 5, 2) := by decide +kernel
theorem dX4_init_36 : decode cX4_init 36 = .ok (.putfield 28, 3) := by decide +kernel
theorem dX4_init_39 : decode cX4_init 39 = .ok (.return_, 1) := by decide +kernel
theorem dX4_arithmeticOf_0 : decode cX4_arithmeticOf 0 = .ok (.iload_n 0, 1) := by decide +kernel
theorem dX4_arithmeticOf_1 : decode cX4_arithmeticOf 1 = .ok (.tableswitch 51 42 47 #[45, 39, 51, 42, 51, 48], 39) := by decide +kernel
theorem dX4_arithmeticOf_40 : decode cX4_arithmeticOf 40 = .ok (.bipush (-2), 2) := by decide +kernel
theorem dX4_arithmeticOf_42 : decode cX4_arithmeticOf 42 = .ok (.ireturn, 1) := by decide +kernel
theorem dX4_arithmeticOf_43 : decode cX4_arithmeticOf 43 = .ok (.bipush (-3), 2) := by decide +kernel
theorem dX4_arithmeticOf_45 : decode cX4_arithmeticOf 45 = .ok (.ireturn, 1) := by decide +kernel
theorem dX4_arithmeticOf_46 : decode cX4_arithmeticOf 46 = .ok (.bipush (-4), 2) := by decide +kernel
theorem dX4_arithmeticOf_48 : decode cX4_arithmeticOf 48 = .ok (.ireturn, 1) := by decide +kernel
theorem dX4_arithmeticOf_49 : decode cX4_arithmeticOf 49 = .ok (.bipush (-5), 2) := by decide +kernel
theorem dX4_arithmeticOf_51 : decode cX4_arithmeticOf 51 = .ok (.ireturn, 1) := by decide +kernel
theorem dX4_arithmeticOf_52 : decode cX4_arithmeticOf 52 = .ok (.iconst (-1), 1) := by decide +kernel
theorem dX4_arithmeticOf_53 : decode cX4_arithmeticOf 53 = .ok (.ireturn, 1) := by decide +kernel
theorem dX4_comparisonOf_0 : decode cX4_comparisonOf 0 = .ok (.iload_n 0, 1) := by decide +kernel
theorem dX4_comparisonOf_1 : decode cX4_comparisonOf 1 = .ok (.lookupswitch 66 #[(60, 51), (61, 57), (62, 63), (256, 54), (257, 60)], 51) := by decide +kernel
theorem dX4_comparisonOf_52 : decode cX4_comparisonOf 52 = .ok (.bipush (-6), 2) := by decide +kernel
theorem dX4_comparisonOf_54 : decode cX4_comparisonOf 54 = .ok (.ireturn, 1) := by decide +kernel
theorem dX4_comparisonOf_55 : decode cX4_comparisonOf 55 = .ok (.bipush (-7), 2) := by decide +kernel
theorem dX4_comparisonOf_57 : decode cX4_comparisonOf 57 = .ok (.ireturn, 1) := by decide +kernel
theorem dX4_comparisonOf_58 : decode cX4_comparisonOf 58 = .ok (.bipush (-8), 2) := by decide +kernel
theorem dX4_comparisonOf_60 : decode cX4_comparisonOf 60 = .ok (.ireturn, 1) := by decide +kernel
theorem dX4_comparisonOf_61 : decode cX4_comparisonOf 61 = .ok (.bipush (-9), 2) := by decide +kernel
theorem dX4_comparisonOf_63 : decode cX4_comparisonOf 63 = .ok (.ireturn, 1) := by decide +kernel
theorem dX4_comparisonOf_64 : decode cX4_comparisonOf 64 = .ok (.bipush (-10), 2) := by decide +kernel
theorem dX4_comparisonOf_66 : decode cX4_comparisonOf 66 = .ok (.ireturn, 1) := by decide +kernel
theorem dX4_comparisonOf_67 : decode cX4_comparisonOf 67 = .ok (.iconst (-1), 1) := by decide +kernel
theorem dX4_comparisonOf_68 : decode cX4_comparisonOf 68 = .ok (.ireturn, 1) := by decide +kernel
theorem dX4_distance_0 : decode cX4_distance 0 = .ok (.iconst 0, 1) := by decide +kernel
theorem dX4_distance_1 : decode cX4_distance 1 = .ok (.istore_n 2, 1) := by decide +kernel
theorem dX4_distance_2 : decode cX4_distance 2 = .ok (.iload_n 2, 1) := by decide +kernel
theorem dX4_distance_3 : decode cX4_distance 3 = .ok (.aload_n 0, 1) := by decide +kernel
theorem dX4_distance_4 : decode cX4_distance 4 = .ok (.getfield 19, 3) := by decide +kernel
theorem dX4_distance_7 : decode cX4_distance 7 = .ok (.arraylength, 1) := by decide +kernel
theorem dX4_distance_8 : decode cX4_distance 8 = .ok (.if_icmp .ge 69, 3) := by decide +kernel
theorem dX4_distance_11 : decode cX4_distance 11 = .ok (.aload_n 0, 1) := by decide +kernel
theorem dX4_distance_12 : decode cX4_distance 12 = .ok (.getfield 19, 3) := by decide +kernel
theorem dX4_distance_15 : decode cX4_distance 15 = .ok (.iload_n 2, 1) := by decide +kernel
theorem dX4_distance_16 : decode cX4_distance 16 = .ok (.iaload, 1) := by decide +kernel
theorem dX4_distance_17 : decode cX4_distance 17 = .ok (.bipush 12, 2) := by decide +kernel
theorem dX4_distance_19 : decode cX4_distance 19 = .ok (.if_icmp .ne 52, 3) := by decide +kernel
theorem dX4_distance_22 : decode cX4_distance 22 = .ok (.aload_n 0, 1) := by decide +kernel
theorem dX4_distance_23 : decode cX4_distance 23 = .ok (.getfield 25, 3) := by decide +kernel
theorem dX4_distance_26 : decode cX4_distance 26 = .ok (.iload_n 2, 1) := by decide +kernel
theorem dX4_distance_27 : decode cX4_distance 27 = .ok (.iaload, 1) := by decide +kernel
theorem dX4_distance_28 : decode cX4_distance 28 = .ok (.iconst (-1), 1) := by decide +kernel
theorem dX4_distance_29 : decode cX4_distance 29 = .ok (.if_icmp .eq 19, 3) := by decide +kernel
theorem dX4_distance_32 : decode cX4_distance 32 = .ok (.aload_n 0, 1) := by decide +kernel
theorem dX4_distance_33 : decode cX4_distance 33 = .ok (.aload_n 0, 1) := by decide +kernel
theorem dX4_distance_34 : decode cX4_distance 34 = .ok (.getfield 25, 3) := by decide +kernel
theorem dX4_distance_37 : decode cX4_distance 37 = .ok (.iload_n 2, 1) := by decide +kernel
theorem dX4_distance_38 : decode cX4_distance 38 = .ok (.iaload, 1) := by decide +kernel
theorem dX4_distance_39 : decode cX4_distance 39 = .ok (.aload_n 1, 1) := by decide +kernel
theorem dX4_distance_40 : decode cX4_distance 40 = .ok (.invokevirtual 32, 3) := by decide +kernel
theorem dX4_distance_43 : decode cX4_distance 43 = .ok (.lconst 0, 1) := by decide +kernel
theorem dX4_distance_44 : decode cX4_distance 44 = .ok (.lcmp, 1) := by decide +kernel
theorem dX4_distance_45 : decode cX4_distance 45 = .ok (.ifCond .eq 26, 3) := by decide +kernel
theorem dX4_distance_48 : decode cX4_distance 48 = .ok (.lconst 1, 1) := by decide +kernel
theorem dX4_distance_49 : decode cX4_distance 49 = .ok (.ldc2_w 36, 3) := by decide +kernel
theorem dX4_distance_52 : decode cX4_distance 52 = .ok (.aload_n 0, 1) := by decide +kernel
theorem dX4_distance_53 : decode cX4_distance 53 = .ok (.aload_n 0, 1) := by decide +kernel
theorem dX4_distance_54 : decode cX4_distance 54 = .ok (.getfield 22, 3) := by decide +kernel
theorem dX4_distance_57 : decode cX4_distance 57 = .ok (.iload_n 2, 1) := by decide +kernel
theorem dX4_distance_58 : decode cX4_distance 58 = .ok (.iaload, 1) := by decide +kernel
theorem dX4_distance_59 : decode cX4_distance 59 = .ok (.aload_n 1, 1) := by decide +kernel
theorem dX4_distance_60 : decode cX4_distance 60 = .ok (.invokevirtual 32, 3) := by decide +kernel
theorem dX4_distance_63 : decode cX4_distance 63 = .ok (.invokestatic 38, 3) := by decide +kernel
theorem dX4_distance_66 : decode cX4_distance 66 = .ok (.invokestatic 44, 3) := by decide +kernel
theorem dX4_distance_69 : decode cX4_distance 69 = .ok (.l2i, 1) := by decide +kernel
theorem dX4_distance_70 : decode cX4_distance 70 = .ok (.ireturn, 1) := by decide +kernel
theorem dX4_distance_71 : decode cX4_distance 71 = .ok (.iinc 2 1, 3) := by decide +kernel
theorem dX4_distance_74 : decode cX4_distance 74 = .ok (.goto (-72), 3) := by decide +kernel
theorem dX4_distance_77 : decode cX4_distance 77 = .ok (.iconst 1, 1) := by decide +kernel
theorem dX4_distance_78 : decode cX4_distance 78 = .ok (.ireturn, 1) := by decide +kernel
theorem dX4_allows_0 : decode cX4_allows 0 = .ok (.iconst 0, 1) := by decide +kernel
theorem dX4_allows_1 : decode cX4_allows 1 = .ok (.istore_n 2, 1) := by decide +kernel
theorem dX4_allows_2 : decode cX4_allows 2 = .ok (.iconst 0, 1) := by decide +kernel
theorem dX4_allows_3 : decode cX4_allows 3 = .ok (.istore_n 3, 1) := by decide +kernel
theorem dX4_allows_4 : decode cX4_allows 4 = .ok (.iconst 0, 1) := by decide +kernel
theorem dX4_allows_5 : decode cX4_allows 5 = .ok (.istore 4, 2) := by decide +kernel
theorem dX4_allows_7 : decode cX4_allows 7 = .ok (.iload 4, 2) := by decide +kernel
theorem dX4_allows_9 : decode cX4_allows 9 = .ok (.aload_n 0, 1) := by decide +kernel
theorem dX4_allows_10 : decode cX4_allows 10 = .ok (.getfield 19, 3) := by decide +kernel
theorem dX4_allows_13 : decode cX4_allows 13 = .ok (.arraylength, 1) := by decide +kernel
theorem dX4_allows_14 : decode cX4_allows 14 = .ok (.if_icmp .ge 81, 3) := by decide +kernel
theorem dX4_allows_17 : decode cX4_allows 17 = .ok (.aload_n 0, 1) := by decide +kernel
theorem dX4_allows_18 : decode cX4_allows 18 = .ok (.getfield 19, 3) := by decide +kernel
theorem dX4_allows_21 : decode cX4_allows 21 = .ok (.iload 4, 2) := by decide +kernel
theorem dX4_allows_23 : decode cX4_allows 23 = .ok (.iaload, 1) := by decide +kernel
theorem dX4_allows_24 : decode cX4_allows 24 = .ok (.bipush 14, 2) := by decide +kernel
theorem dX4_allows_26 : decode cX4_allows 26 = .ok (.if_icmp .ne 22, 3) := by decide +kernel
theorem dX4_allows_29 : decode cX4_allows 29 = .ok (.aload_n 0, 1) := by decide +kernel
theorem dX4_allows_30 : decode cX4_allows 30 = .ok (.aload_n 0, 1) := by decide +kernel
theorem dX4_allows_31 : decode cX4_allows 31 = .ok (.getfield 25, 3) := by decide +kernel
theorem dX4_allows_34 : decode cX4_allows 34 = .ok (.iload 4, 2) := by decide +kernel
theorem dX4_allows_36 : decode cX4_allows 36 = .ok (.iaload, 1) := by decide +kernel
theorem dX4_allows_37 : decode cX4_allows 37 = .ok (.aload_n 1, 1) := by decide +kernel
theorem dX4_allows_38 : decode cX4_allows 38 = .ok (.invokevirtual 32, 3) := by decide +kernel
theorem dX4_allows_41 : decode cX4_allows 41 = .ok (.lconst 0, 1) := by decide +kernel
theorem dX4_allows_42 : decode cX4_allows 42 = .ok (.lcmp, 1) := by decide +kernel
theorem dX4_allows_43 : decode cX4_allows 43 = .ok (.ifCond .eq 5, 3) := by decide +kernel
theorem dX4_allows_46 : decode cX4_allows 46 = .ok (.iconst 0, 1) := by decide +kernel
theorem dX4_allows_47 : decode cX4_allows 47 = .ok (.ireturn, 1) := by decide +kernel
theorem dX4_allows_48 : decode cX4_allows 48 = .ok (.aload_n 0, 1) := by decide +kernel
theorem dX4_allows_49 : decode cX4_allows 49 = .ok (.getfield 19, 3) := by decide +kernel
theorem dX4_allows_52 : decode cX4_allows 52 = .ok (.iload 4, 2) := by decide +kernel
theorem dX4_allows_54 : decode cX4_allows 54 = .ok (.iaload, 1) := by decide +kernel
theorem dX4_allows_55 : decode cX4_allows 55 = .ok (.bipush 13, 2) := by decide +kernel
theorem dX4_allows_57 : decode cX4_allows 57 = .ok (.if_icmp .ne 32, 3) := by decide +kernel
theorem dX4_allows_60 : decode cX4_allows 60 = .ok (.iconst 1, 1) := by decide +kernel
theorem dX4_allows_61 : decode cX4_allows 61 = .ok (.istore_n 2, 1) := by decide +kernel
theorem dX4_allows_62 : decode cX4_allows 62 = .ok (.iload_n 3, 1) := by decide +kernel
theorem dX4_allows_63 : decode cX4_allows 63 = .ok (.ifCond .ne 20, 3) := by decide +kernel
theorem dX4_allows_66 : decode cX4_allows 66 = .ok (.aload_n 0, 1) := by decide +kernel
theorem dX4_allows_67 : decode cX4_allows 67 = .ok (.aload_n 0, 1) := by decide +kernel
theorem dX4_allows_68 : decode cX4_allows 68 = .ok (.getfield 25, 3) := by decide +kernel
theorem dX4_allows_71 : decode cX4_allows 71 = .ok (.iload 4, 2) := by decide +kernel
theorem dX4_allows_73 : decode cX4_allows 73 = .ok (.iaload, 1) := by decide +kernel
theorem dX4_allows_74 : decode cX4_allows 74 = .ok (.aload_n 1, 1) := by decide +kernel
theorem dX4_allows_75 : decode cX4_allows 75 = .ok (.invokevirtual 32, 3) := by decide +kernel
theorem dX4_allows_78 : decode cX4_allows 78 = .ok (.lconst 0, 1) := by decide +kernel
theorem dX4_allows_79 : decode cX4_allows 79 = .ok (.lcmp, 1) := by decide +kernel
theorem dX4_allows_80 : decode cX4_allows 80 = .ok (.ifCond .eq 7, 3) := by decide +kernel
theorem dX4_allows_83 : decode cX4_allows 83 = .ok (.iconst 1, 1) := by decide +kernel
theorem dX4_allows_84 : decode cX4_allows 84 = .ok (.goto 4, 3) := by decide +kernel
theorem dX4_allows_87 : decode cX4_allows 87 = .ok (.iconst 0, 1) := by decide +kernel
theorem dX4_allows_88 : decode cX4_allows 88 = .ok (.istore_n 3, 1) := by decide +kernel
theorem dX4_allows_89 : decode cX4_allows 89 = .ok (.iinc 4 1, 3) := by decide +kernel
theorem dX4_allows_92 : decode cX4_allows 92 = .ok (.goto (-85), 3) := by decide +kernel
theorem dX4_allows_95 : decode cX4_allows 95 = .ok (.iload_n 3, 1) := by decide +kernel
theorem dX4_allows_96 : decode cX4_allows 96 = .ok (.ifCond .ne 7, 3) := by decide +kernel
theorem dX4_allows_99 : decode cX4_allows 99 = .ok (.iload_n 2, 1) := by decide +kernel
theorem dX4_allows_100 : decode cX4_allows 100 = .ok (.ifCond .ne 7, 3) := by decide +kernel
theorem dX4_allows_103 : decode cX4_allows 103 = .ok (.iconst 1, 1) := by decide +kernel
theorem dX4_allows_104 : decode cX4_allows 104 = .ok (.goto 4, 3) := by decide +kernel
theorem dX4_allows_107 : decode cX4_allows 107 = .ok (.iconst 0, 1) := by decide +kernel
theorem dX4_allows_108 : decode cX4_allows 108 = .ok (.ireturn, 1) := by decide +kernel
theorem dX4_total_0 : decode cX4_total 0 = .ok (.lconst 0, 1) := by decide +kernel
theorem dX4_total_1 : decode cX4_total 1 = .ok (.lstore_n 2, 1) := by decide +kernel
theorem dX4_total_2 : decode cX4_total 2 = .ok (.iconst 0, 1) := by decide +kernel
theorem dX4_total_3 : decode cX4_total 3 = .ok (.istore 4, 2) := by decide +kernel
theorem dX4_total_5 : decode cX4_total 5 = .ok (.iload 4, 2) := by decide +kernel
theorem dX4_total_7 : decode cX4_total 7 = .ok (.aload_n 0, 1) := by decide +kernel
theorem dX4_total_8 : decode cX4_total 8 = .ok (.getfield 19, 3) := by decide +kernel
theorem dX4_total_11 : decode cX4_total 11 = .ok (.arraylength, 1) := by decide +kernel
theorem dX4_total_12 : decode cX4_total 12 = .ok (.if_icmp .ge 64, 3) := by decide +kernel
theorem dX4_total_15 : decode cX4_total 15 = .ok (.aload_n 0, 1) := by decide +kernel
theorem dX4_total_16 : decode cX4_total 16 = .ok (.getfield 19, 3) := by decide +kernel
theorem dX4_total_19 : decode cX4_total 19 = .ok (.iload 4, 2) := by decide +kernel
theorem dX4_total_21 : decode cX4_total 21 = .ok (.iaload, 1) := by decide +kernel
theorem dX4_total_22 : decode cX4_total 22 = .ok (.bipush 16, 2) := by decide +kernel
theorem dX4_total_24 : decode cX4_total 24 = .ok (.if_icmp .ne 46, 3) := by decide +kernel
theorem dX4_total_27 : decode cX4_total 27 = .ok (.aload_n 0, 1) := by decide +kernel
theorem dX4_total_28 : decode cX4_total 28 = .ok (.getfield 25, 3) := by decide +kernel
theorem dX4_total_31 : decode cX4_total 31 = .ok (.iload 4, 2) := by decide +kernel
theorem dX4_total_33 : decode cX4_total 33 = .ok (.iaload, 1) := by decide +kernel
theorem dX4_total_34 : decode cX4_total 34 = .ok (.iconst (-1), 1) := by decide +kernel
theorem dX4_total_35 : decode cX4_total 35 = .ok (.if_icmp .eq 20, 3) := by decide +kernel
theorem dX4_total_38 : decode cX4_total 38 = .ok (.aload_n 0, 1) := by decide +kernel
theorem dX4_total_39 : decode cX4_total 39 = .ok (.aload_n 0, 1) := by decide +kernel
theorem dX4_total_40 : decode cX4_total 40 = .ok (.getfield 25, 3) := by decide +kernel
theorem dX4_total_43 : decode cX4_total 43 = .ok (.iload 4, 2) := by decide +kernel
theorem dX4_total_45 : decode cX4_total 45 = .ok (.iaload, 1) := by decide +kernel
theorem dX4_total_46 : decode cX4_total 46 = .ok (.aload_n 1, 1) := by decide +kernel
theorem dX4_total_47 : decode cX4_total 47 = .ok (.invokevirtual 32, 3) := by decide +kernel
theorem dX4_total_50 : decode cX4_total 50 = .ok (.lconst 0, 1) := by decide +kernel
theorem dX4_total_51 : decode cX4_total 51 = .ok (.lcmp, 1) := by decide +kernel
theorem dX4_total_52 : decode cX4_total 52 = .ok (.ifCond .eq 18, 3) := by decide +kernel
theorem dX4_total_55 : decode cX4_total 55 = .ok (.lload_n 2, 1) := by decide +kernel
theorem dX4_total_56 : decode cX4_total 56 = .ok (.aload_n 0, 1) := by decide +kernel
theorem dX4_total_57 : decode cX4_total 57 = .ok (.aload_n 0, 1) := by decide +kernel
theorem dX4_total_58 : decode cX4_total 58 = .ok (.getfield 22, 3) := by decide +kernel
theorem dX4_total_61 : decode cX4_total 61 = .ok (.iload 4, 2) := by decide +kernel
theorem dX4_total_63 : decode cX4_total 63 = .ok (.iaload, 1) := by decide +kernel
theorem dX4_total_64 : decode cX4_total 64 = .ok (.aload_n 1, 1) := by decide +kernel
theorem dX4_total_65 : decode cX4_total 65 = .ok (.invokevirtual 32, 3) := by decide +kernel
theorem dX4_total_68 : decode cX4_total 68 = .ok (.ladd, 1) := by decide +kernel
theorem dX4_total_69 : decode cX4_total 69 = .ok (.lstore_n 2, 1) := by decide +kernel
theorem dX4_total_70 : decode cX4_total 70 = .ok (.iinc 4 1, 3) := by decide +kernel
theorem dX4_total_73 : decode cX4_total 73 = .ok (.goto (-68), 3) := by decide +kernel
theorem dX4_total_76 : decode cX4_total 76 = .ok (.lload_n 2, 1) := by decide +kernel
theorem dX4_total_77 : decode cX4_total 77 = .ok (.lreturn, 1) := by decide +kernel
theorem dX4_run_0 : decode cX4_run 0 = .ok (.iconst 0, 1) := by decide +kernel
theorem dX4_run_1 : decode cX4_run 1 = .ok (.istore_n 3, 1) := by decide +kernel
theorem dX4_run_2 : decode cX4_run 2 = .ok (.iconst 0, 1) := by decide +kernel
theorem dX4_run_3 : decode cX4_run 3 = .ok (.iload_n 1, 1) := by decide +kernel
theorem dX4_run_4 : decode cX4_run 4 = .ok (.invokestatic 47, 3) := by decide +kernel
theorem dX4_run_7 : decode cX4_run 7 = .ok (.istore 4, 2) := by decide +kernel
theorem dX4_run_9 : decode cX4_run 9 = .ok (.iload 4, 2) := by decide +kernel
theorem dX4_run_11 : decode cX4_run 11 = .ok (.aload_n 0, 1) := by decide +kernel
theorem dX4_run_12 : decode cX4_run 12 = .ok (.getfield 15, 3) := by decide +kernel
theorem dX4_run_15 : decode cX4_run 15 = .ok (.arraylength, 1) := by decide +kernel
theorem dX4_run_16 : decode cX4_run 16 = .ok (.if_icmp .ge 147, 3) := by decide +kernel
theorem dX4_run_19 : decode cX4_run 19 = .ok (.aload_n 0, 1) := by decide +kernel
theorem dX4_run_20 : decode cX4_run 20 = .ok (.getfield 15, 3) := by decide +kernel
theorem dX4_run_23 : decode cX4_run 23 = .ok (.iload 4, 2) := by decide +kernel
theorem dX4_run_25 : decode cX4_run 25 = .ok (.iaload, 1) := by decide +kernel
theorem dX4_run_26 : decode cX4_run 26 = .ok (.iconst (-1), 1) := by decide +kernel
theorem dX4_run_27 : decode cX4_run 27 = .ok (.if_icmp .eq 136, 3) := by decide +kernel
theorem dX4_run_30 : decode cX4_run 30 = .ok (.aload_n 0, 1) := by decide +kernel
theorem dX4_run_31 : decode cX4_run 31 = .ok (.getfield 15, 3) := by decide +kernel
theorem dX4_run_34 : decode cX4_run 34 = .ok (.iload 4, 2) := by decide +kernel
theorem dX4_run_36 : decode cX4_run 36 = .ok (.iaload, 1) := by decide +kernel
theorem dX4_run_37 : decode cX4_run 37 = .ok (.istore 5, 2) := by decide +kernel
theorem dX4_run_39 : decode cX4_run 39 = .ok (.iload 5, 2) := by decide +kernel
theorem dX4_run_41 : decode cX4_run 41 = .ok (.ifCond .ge 10, 3) := by decide +kernel
theorem dX4_run_44 : decode cX4_run 44 = .ok (.iload 5, 2) := by decide +kernel
theorem dX4_run_46 : decode cX4_run 46 = .ok (.bipush (-20), 2) := by decide +kernel
theorem dX4_run_48 : decode cX4_run 48 = .ok (.if_icmp .gt 42, 3) := by decide +kernel
theorem dX4_run_51 : decode cX4_run 51 = .ok (.iload_n 3, 1) := by decide +kernel
theorem dX4_run_52 : decode cX4_run 52 = .ok (.aload_n 0, 1) := by decide +kernel
theorem dX4_run_53 : decode cX4_run 53 = .ok (.getfield 9, 3) := by decide +kernel
theorem dX4_run_56 : decode cX4_run 56 = .ok (.arraylength, 1) := by decide +kernel
theorem dX4_run_57 : decode cX4_run 57 = .ok (.if_icmp .ge 100, 3) := by decide +kernel
theorem dX4_run_60 : decode cX4_run 60 = .ok (.aload_n 0, 1) := by decide +kernel
theorem dX4_run_61 : decode cX4_run 61 = .ok (.getfield 9, 3) := by decide +kernel
theorem dX4_run_64 : decode cX4_run 64 = .ok (.iload_n 3, 1) := by decide +kernel
theorem dX4_run_65 : decode cX4_run 65 = .ok (.iload 5, 2) := by decide +kernel
theorem dX4_run_67 : decode cX4_run 67 = .ok (.ifCond .lt 9, 3) := by decide +kernel
theorem dX4_run_70 : decode cX4_run 70 = .ok (.iload 5, 2) := by decide +kernel
theorem dX4_run_72 : decode cX4_run 72 = .ok (.i2l, 1) := by decide +kernel
theorem dX4_run_73 : decode cX4_run 73 = .ok (.goto 10, 3) := by decide +kernel
theorem dX4_run_76 : decode cX4_run 76 = .ok (.aload_n 2, 1) := by decide +kernel
theorem dX4_run_77 : decode cX4_run 77 = .ok (.bipush (-20), 2) := by decide +kernel
theorem dX4_run_79 : decode cX4_run 79 = .ok (.iload 5, 2) := by decide +kernel
theorem dX4_run_81 : decode cX4_run 81 = .ok (.isub, 1) := by decide +kernel
theorem dX4_run_82 : decode cX4_run 82 = .ok (.laload, 1) := by decide +kernel
theorem dX4_run_83 : decode cX4_run 83 = .ok (.lastore, 1) := by decide +kernel
theorem dX4_run_84 : decode cX4_run 84 = .ok (.iinc 3 1, 3) := by decide +kernel
theorem dX4_run_87 : decode cX4_run 87 = .ok (.goto 70, 3) := by decide +kernel
theorem dX4_run_90 : decode cX4_run 90 = .ok (.iload 5, 2) := by decide +kernel
theorem dX4_run_92 : decode cX4_run 92 = .ok (.bipush (-13), 2) := by decide +kernel
theorem dX4_run_94 : decode cX4_run 94 = .ok (.if_icmp .ne 28, 3) := by decide +kernel
theorem dX4_run_97 : decode cX4_run 97 = .ok (.iload_n 3, 1) := by decide +kernel
theorem dX4_run_98 : decode cX4_run 98 = .ok (.ifCond .le 59, 3) := by decide +kernel
theorem dX4_run_101 : decode cX4_run 101 = .ok (.aload_n 0, 1) := by decide +kernel
theorem dX4_run_102 : decode cX4_run 102 = .ok (.getfield 9, 3) := by decide +kernel
theorem dX4_run_105 : decode cX4_run 105 = .ok (.iload_n 3, 1) := by decide +kernel
theorem dX4_run_106 : decode cX4_run 106 = .ok (.iconst 1, 1) := by decide +kernel
theorem dX4_run_107 : decode cX4_run 107 = .ok (.isub, 1) := by decide +kernel
theorem dX4_run_108 : decode cX4_run 108 = .ok (.lconst 1, 1) := by decide +kernel
theorem dX4_run_109 : decode cX4_run 109 = .ok (.aload_n 0, 1) := by decide +kernel
theorem dX4_run_110 : decode cX4_run 110 = .ok (.getfield 9, 3) := by decide +kernel
theorem dX4_run_113 : decode cX4_run 113 = .ok (.iload_n 3, 1) := by decide +kernel
theorem dX4_run_114 : decode cX4_run 114 = .ok (.iconst 1, 1) := by decide +kernel
theorem dX4_run_115 : decode cX4_run 115 = .ok (.isub, 1) := by decide +kernel
theorem dX4_run_116 : decode cX4_run 116 = .ok (.laload, 1) := by decide +kernel
theorem dX4_run_117 : decode cX4_run 117 = .ok (.lsub, 1) := by decide +kernel
theorem dX4_run_118 : decode cX4_run 118 = .ok (.lastore, 1) := by decide +kernel
theorem dX4_run_119 : decode cX4_run 119 = .ok (.goto 38, 3) := by decide +kernel
theorem dX4_run_122 : decode cX4_run 122 = .ok (.iload_n 3, 1) := by decide +kernel
theorem dX4_run_123 : decode cX4_run 123 = .ok (.iconst 1, 1) := by decide +kernel
theorem dX4_run_124 : decode cX4_run 124 = .ok (.if_icmp .le 33, 3) := by decide +kernel
theorem dX4_run_127 : decode cX4_run 127 = .ok (.iinc 3 (-1), 3) := by decide +kernel
theorem dX4_run_130 : decode cX4_run 130 = .ok (.aload_n 0, 1) := by decide +kernel
theorem dX4_run_131 : decode cX4_run 131 = .ok (.getfield 9, 3) := by decide +kernel
theorem dX4_run_134 : decode cX4_run 134 = .ok (.iload_n 3, 1) := by decide +kernel
theorem dX4_run_135 : decode cX4_run 135 = .ok (.iconst 1, 1) := by decide +kernel
theorem dX4_run_136 : decode cX4_run 136 = .ok (.isub, 1) := by decide +kernel
theorem dX4_run_137 : decode cX4_run 137 = .ok (.iload 5, 2) := by decide +kernel
theorem dX4_run_139 : decode cX4_run 139 = .ok (.aload_n 0, 1) := by decide +kernel
theorem dX4_run_140 : decode cX4_run 140 = .ok (.getfield 9, 3) := by decide +kernel
theorem dX4_run_143 : decode cX4_run 143 = .ok (.iload_n 3, 1) := by decide +kernel
theorem dX4_run_144 : decode cX4_run 144 = .ok (.iconst 1, 1) := by decide +kernel
theorem dX4_run_145 : decode cX4_run 145 = .ok (.isub, 1) := by decide +kernel
theorem dX4_run_146 : decode cX4_run 146 = .ok (.laload, 1) := by decide +kernel
theorem dX4_run_147 : decode cX4_run 147 = .ok (.aload_n 0, 1) := by decide +kernel
theorem dX4_run_148 : decode cX4_run 148 = .ok (.getfield 9, 3) := by decide +kernel
theorem dX4_run_151 : decode cX4_run 151 = .ok (.iload_n 3, 1) := by decide +kernel
theorem dX4_run_152 : decode cX4_run 152 = .ok (.laload, 1) := by decide +kernel
theorem dX4_run_153 : decode cX4_run 153 = .ok (.invokestatic 50, 3) := by decide +kernel
theorem dX4_run_156 : decode cX4_run 156 = .ok (.lastore, 1) := by decide +kernel
theorem dX4_run_157 : decode cX4_run 157 = .ok (.iinc 4 1, 3) := by decide +kernel
theorem dX4_run_160 : decode cX4_run 160 = .ok (.goto (-151), 3) := by decide +kernel
theorem dX4_run_163 : decode cX4_run 163 = .ok (.iload_n 3, 1) := by decide +kernel
theorem dX4_run_164 : decode cX4_run 164 = .ok (.ifCond .le 12, 3) := by decide +kernel
theorem dX4_run_167 : decode cX4_run 167 = .ok (.aload_n 0, 1) := by decide +kernel
theorem dX4_run_168 : decode cX4_run 168 = .ok (.getfield 9, 3) := by decide +kernel
theorem dX4_run_171 : decode cX4_run 171 = .ok (.iconst 0, 1) := by decide +kernel
theorem dX4_run_172 : decode cX4_run 172 = .ok (.laload, 1) := by decide +kernel
theorem dX4_run_173 : decode cX4_run 173 = .ok (.goto 4, 3) := by decide +kernel
theorem dX4_run_176 : decode cX4_run 176 = .ok (.lconst 0, 1) := by decide +kernel
theorem dX4_run_177 : decode cX4_run 177 = .ok (.lreturn, 1) := by decide +kernel
theorem dX4_apply_0 : decode cX4_apply 0 = .ok (.iload_n 0, 1) := by decide +kernel
theorem dX4_apply_1 : decode cX4_apply 1 = .ok (.tableswitch 145 (-11) (-2) #[141, 129, 117, 105, 93, 81, 67, 63, 59, 55], 55) := by decide +kernel
theorem dX4_apply_56 : decode cX4_apply 56 = .ok (.lload_n 1, 1) := by decide +kernel
theorem dX4_apply_57 : decode cX4_apply 57 = .ok (.lload_n 3, 1) := by decide +kernel
theorem dX4_apply_58 : decode cX4_apply 58 = .ok (.ladd, 1) := by decide +kernel
theorem dX4_apply_59 : decode cX4_apply 59 = .ok (.lreturn, 1) := by decide +kernel
theorem dX4_apply_60 : decode cX4_apply 60 = .ok (.lload_n 1, 1) := by decide +kernel
theorem dX4_apply_61 : decode cX4_apply 61 = .ok (.lload_n 3, 1) := by decide +kernel
theorem dX4_apply_62 : decode cX4_apply 62 = .ok (.lsub, 1) := by decide +kernel
theorem dX4_apply_63 : decode cX4_apply 63 = .ok (.lreturn, 1) := by decide +kernel
theorem dX4_apply_64 : decode cX4_apply 64 = .ok (.lload_n 1, 1) := by decide +kernel
theorem dX4_apply_65 : decode cX4_apply 65 = .ok (.lload_n 3, 1) := by decide +kernel
theorem dX4_apply_66 : decode cX4_apply 66 = .ok (.lmul, 1) := by decide +kernel
theorem dX4_apply_67 : decode cX4_apply 67 = .ok (.lreturn, 1) := by decide +kernel
theorem dX4_apply_68 : decode cX4_apply 68 = .ok (.lload_n 3, 1) := by decide +kernel
theorem dX4_apply_69 : decode cX4_apply 69 = .ok (.lconst 0, 1) := by decide +kernel
theorem dX4_apply_70 : decode cX4_apply 70 = .ok (.lcmp, 1) := by decide +kernel
theorem dX4_apply_71 : decode cX4_apply 71 = .ok (.ifCond .ne 7, 3) := by decide +kernel
theorem dX4_apply_74 : decode cX4_apply 74 = .ok (.lconst 0, 1) := by decide +kernel
theorem dX4_apply_75 : decode cX4_apply 75 = .ok (.goto 6, 3) := by decide +kernel
theorem dX4_apply_78 : decode cX4_apply 78 = .ok (.lload_n 1, 1) := by decide +kernel
theorem dX4_apply_79 : decode cX4_apply 79 = .ok (.lload_n 3, 1) := by decide +kernel
theorem dX4_apply_80 : decode cX4_apply 80 = .ok (.ldiv, 1) := by decide +kernel
theorem dX4_apply_81 : decode cX4_apply 81 = .ok (.lreturn, 1) := by decide +kernel
theorem dX4_apply_82 : decode cX4_apply 82 = .ok (.lload_n 1, 1) := by decide +kernel
theorem dX4_apply_83 : decode cX4_apply 83 = .ok (.lload_n 3, 1) := by decide +kernel
theorem dX4_apply_84 : decode cX4_apply 84 = .ok (.lcmp, 1) := by decide +kernel
theorem dX4_apply_85 : decode cX4_apply 85 = .ok (.ifCond .ge 7, 3) := by decide +kernel
theorem dX4_apply_88 : decode cX4_apply 88 = .ok (.lconst 1, 1) := by decide +kernel
theorem dX4_apply_89 : decode cX4_apply 89 = .ok (.goto 4, 3) := by decide +kernel
theorem dX4_apply_92 : decode cX4_apply 92 = .ok (.lconst 0, 1) := by decide +kernel
theorem dX4_apply_93 : decode cX4_apply 93 = .ok (.lreturn, 1) := by decide +kernel
theorem dX4_apply_94 : decode cX4_apply 94 = .ok (.lload_n 1, 1) := by decide +kernel
theorem dX4_apply_95 : decode cX4_apply 95 = .ok (.lload_n 3, 1) := by decide +kernel
theorem dX4_apply_96 : decode cX4_apply 96 = .ok (.lcmp, 1) := by decide +kernel
theorem dX4_apply_97 : decode cX4_apply 97 = .ok (.ifCond .gt 7, 3) := by decide +kernel
theorem dX4_apply_100 : decode cX4_apply 100 = .ok (.lconst 1, 1) := by decide +kernel
theorem dX4_apply_101 : decode cX4_apply 101 = .ok (.goto 4, 3) := by decide +kernel
theorem dX4_apply_104 : decode cX4_apply 104 = .ok (.lconst 0, 1) := by decide +kernel
theorem dX4_apply_105 : decode cX4_apply 105 = .ok (.lreturn, 1) := by decide +kernel
theorem dX4_apply_106 : decode cX4_apply 106 = .ok (.lload_n 1, 1) := by decide +kernel
theorem dX4_apply_107 : decode cX4_apply 107 = .ok (.lload_n 3, 1) := by decide +kernel
theorem dX4_apply_108 : decode cX4_apply 108 = .ok (.lcmp, 1) := by decide +kernel
theorem dX4_apply_109 : decode cX4_apply 109 = .ok (.ifCond .ne 7, 3) := by decide +kernel
theorem dX4_apply_112 : decode cX4_apply 112 = .ok (.lconst 1, 1) := by decide +kernel
theorem dX4_apply_113 : decode cX4_apply 113 = .ok (.goto 4, 3) := by decide +kernel
theorem dX4_apply_116 : decode cX4_apply 116 = .ok (.lconst 0, 1) := by decide +kernel
theorem dX4_apply_117 : decode cX4_apply 117 = .ok (.lreturn, 1) := by decide +kernel
theorem dX4_apply_118 : decode cX4_apply 118 = .ok (.lload_n 1, 1) := by decide +kernel
theorem dX4_apply_119 : decode cX4_apply 119 = .ok (.lload_n 3, 1) := by decide +kernel
theorem dX4_apply_120 : decode cX4_apply 120 = .ok (.lcmp, 1) := by decide +kernel
theorem dX4_apply_121 : decode cX4_apply 121 = .ok (.ifCond .lt 7, 3) := by decide +kernel
theorem dX4_apply_124 : decode cX4_apply 124 = .ok (.lconst 1, 1) := by decide +kernel
theorem dX4_apply_125 : decode cX4_apply 125 = .ok (.goto 4, 3) := by decide +kernel
theorem dX4_apply_128 : decode cX4_apply 128 = .ok (.lconst 0, 1) := by decide +kernel
theorem dX4_apply_129 : decode cX4_apply 129 = .ok (.lreturn, 1) := by decide +kernel
theorem dX4_apply_130 : decode cX4_apply 130 = .ok (.lload_n 1, 1) := by decide +kernel
theorem dX4_apply_131 : decode cX4_apply 131 = .ok (.lload_n 3, 1) := by decide +kernel
theorem dX4_apply_132 : decode cX4_apply 132 = .ok (.lcmp, 1) := by decide +kernel
theorem dX4_apply_133 : decode cX4_apply 133 = .ok (.ifCond .le 7, 3) := by decide +kernel
theorem dX4_apply_136 : decode cX4_apply 136 = .ok (.lconst 1, 1) := by decide +kernel
theorem dX4_apply_137 : decode cX4_apply 137 = .ok (.goto 4, 3) := by decide +kernel
theorem dX4_apply_140 : decode cX4_apply 140 = .ok (.lconst 0, 1) := by decide +kernel
theorem dX4_apply_141 : decode cX4_apply 141 = .ok (.lreturn, 1) := by decide +kernel
theorem dX4_apply_142 : decode cX4_apply 142 = .ok (.lload_n 1, 1) := by decide +kernel
theorem dX4_apply_143 : decode cX4_apply 143 = .ok (.lload_n 3, 1) := by decide +kernel
theorem dX4_apply_144 : decode cX4_apply 144 = .ok (.land, 1) := by decide +kernel
theorem dX4_apply_145 : decode cX4_apply 145 = .ok (.lreturn, 1) := by decide +kernel
theorem dX4_apply_146 : decode cX4_apply 146 = .ok (.lload_n 1, 1) := by decide +kernel
theorem dX4_apply_147 : decode cX4_apply 147 = .ok (.lload_n 3, 1) := by decide +kernel
theorem dX4_apply_148 : decode cX4_apply 148 = .ok (.lor, 1) := by decide +kernel
theorem dX4_apply_149 : decode cX4_apply 149 = .ok (.lreturn, 1) := by decide +kernel
theorem dX5_init_0 : decode cX5_init 0 = .ok (.aload_n 0, 1) := by decide +kernel
theorem dX5_init_1 : decode cX5_init 1 = .ok (.invokespecial 3, 3) := by decide +kernel
theorem dX5_init_4 : decode cX5_init 4 = .ok (.aload_n 0, 1) := by decide +kernel
theorem dX5_init_5 : decode cX5_init 5 = .ok (.sipush 424, 3) := by decide +kernel
theorem dX5_init_8 : decode cX5_init 8 = .ok (.newarray .int, 2) := by decide +kernel
theorem dX5_init_10 : decode cX5_init 10 = .ok (.putfield 13, 3) := by decide +kernel
theorem dX5_init_13 : decode cX5_init 13 = .ok (.aload_n 0, 1) := by decide +kernel
theorem dX5_init_14 : decode cX5_init 14 = .ok (.bipush 12, 2) := by decide +kernel
theorem dX5_init_16 : decode cX5_init 16 = .ok (.newarray .int, 2) := by decide +kernel
theorem dX5_init_18 : decode cX5_init 18 = .ok (.putfield 17, 3) := by decide +kernel
theorem dX5_init_21 : decode cX5_init 21 = .ok (.aload_n 0, 1) := by decide +kernel
theorem dX5_init_22 : decode cX5_init 22 = .ok (.bipush 12, 2) := by decide +kernel
theorem dX5_init_24 : decode cX5_init 24 = .ok (.newarray .int, 2) := by decide +kernel
theorem dX5_init_26 : decode cX5_init 26 = .ok (.putfield 20, 3) := by decide +kernel
theorem dX5_init_29 : decode cX5_init 29 = .ok (.aload_n 0, 1) := by decide +kernel
theorem dX5_init_30 : decode cX5_init 30 = .ok (.bipush 12, 2) := by decide +kernel
theorem dX5_init_32 : decode cX5_init 32 = .ok (.newarray .int, 2) := by decide +kernel
theorem dX5_init_34 : decode cX5_init 34 = .ok (.putfield 23, 3) := by decide +kernel
theorem dX5_init_37 : decode cX5_init 37 = .ok (.return_, 1) := by decide +kernel
theorem dX5_read_0 : decode cX5_read 0 = .ok (.aload_n 0, 1) := by decide +kernel
theorem dX5_read_1 : decode cX5_read 1 = .ok (.aload_n 1, 1) := by decide +kernel
theorem dX5_read_2 : decode cX5_read 2 = .ok (.putfield 26, 3) := by decide +kernel
theorem dX5_read_5 : decode cX5_read 5 = .ok (.aload_n 0, 1) := by decide +kernel
theorem dX5_read_6 : decode cX5_read 6 = .ok (.iconst 0, 1) := by decide +kernel
theorem dX5_read_7 : decode cX5_read 7 = .ok (.putfield 30, 3) := by decide +kernel
theorem dX5_read_10 : decode cX5_read 10 = .ok (.aload_n 0, 1) := by decide +kernel
theorem dX5_read_11 : decode cX5_read 11 = .ok (.iconst 0, 1) := by decide +kernel
theorem dX5_read_12 : decode cX5_read 12 = .ok (.putfield 34, 3) := by decide +kernel
theorem dX5_read_15 : decode cX5_read 15 = .ok (.aload_n 0, 1) := by decide +kernel
theorem dX5_read_16 : decode cX5_read 16 = .ok (.iconst 0, 1) := by decide +kernel
theorem dX5_read_17 : decode cX5_read 17 = .ok (.putfield 37, 3) := by decide +kernel
theorem dX5_read_20 : decode cX5_read 20 = .ok (.aload_n 0, 1) := by decide +kernel
theorem dX5_read_21 : decode cX5_read 21 = .ok (.iconst (-1), 1) := by decide +kernel
theorem dX5_read_22 : decode cX5_read 22 = .ok (.putfield 40, 3) := by decide +kernel
theorem dX5_read_25 : decode cX5_read 25 = .ok (.aload_n 0, 1) := by decide +kernel
theorem dX5_read_26 : decode cX5_read 26 = .ok (.getfield 26, 3) := by decide +kernel
theorem dX5_read_29 : decode cX5_read 29 = .ok (.invokevirtual 43, 3) := by decide +kernel
theorem dX5_read_32 : decode cX5_read 32 = .ok (.iconst 1, 1) := by decide +kernel
theorem dX5_read_33 : decode cX5_read 33 = .ok (.istore_n 3, 1) := by decide +kernel
theorem dX5_read_34 : decode cX5_read 34 = .ok (.iconst 0, 1) := by decide +kernel
theorem dX5_read_35 : decode cX5_read 35 = .ok (.istore 4, 2) := by decide +kernel
theorem dX5_read_37 : decode cX5_read 37 = .ok (.iload 4, 2) := by decide +kernel
theorem dX5_read_39 : decode cX5_read 39 = .ok (.bipush 12, 2) := by decide +kernel
theorem dX5_read_41 : decode cX5_read 41 = .ok (.if_icmp .gt 37, 3) := by decide +kernel
theorem dX5_read_44 : decode cX5_read 44 = .ok (.iload_n 3, 1) := by decide +kernel
theorem dX5_read_45 : decode cX5_read 45 = .ok (.ifCond .eq 33, 3) := by decide +kernel
theorem dX5_read_48 : decode cX5_read 48 = .ok (.aload_n 0, 1) := by decide +kernel
theorem dX5_read_49 : decode cX5_read 49 = .ok (.iload_n 2, 1) := by decide +kernel
theorem dX5_read_50 : decode cX5_read 50 = .ok (.invokevirtual 46, 3) := by decide +kernel
theorem dX5_read_53 : decode cX5_read 53 = .ok (.ifCond .eq 17, 3) := by decide +kernel
theorem dX5_read_56 : decode cX5_read 56 = .ok (.aload_n 0, 1) := by decide +kernel
theorem dX5_read_57 : decode cX5_read 57 = .ok (.getfield 26, 3) := by decide +kernel
theorem dX5_read_60 : decode cX5_read 60 = .ok (.invokevirtual 50, 3) := by decide +kernel
theorem dX5_read_63 : decode cX5_read 63 = .ok (.ifCond .eq 7, 3) := by decide +kernel
theorem dX5_read_66 : decode cX5_read 66 = .ok (.iconst 1, 1) := by decide +kernel
theorem dX5_read_67 : decode cX5_read 67 = .ok (.goto 4, 3) := by decide +kernel
theorem dX5_read_70 : decode cX5_read 70 = .ok (.iconst 0, 1) := by decide +kernel
theorem dX5_read_71 : decode cX5_read 71 = .ok (.istore_n 3, 1) := by decide +kernel
theorem dX5_read_72 : decode cX5_read 72 = .ok (.iinc 4 1, 3) := by decide +kernel
theorem dX5_read_75 : decode cX5_read 75 = .ok (.goto (-38), 3) := by decide +kernel
theorem dX5_read_78 : decode cX5_read 78 = .ok (.aload_n 0, 1) := by decide +kernel
theorem dX5_read_79 : decode cX5_read 79 = .ok (.getfield 26, 3) := by decide +kernel
theorem dX5_read_82 : decode cX5_read 82 = .ok (.getfield 54, 3) := by decide +kernel
theorem dX5_read_85 : decode cX5_read 85 = .ok (.ifCond .eq 5, 3) := by decide +kernel
theorem dX5_read_88 : decode cX5_read 88 = .ok (.aconst_null, 1) := by decide +kernel
theorem dX5_read_89 : decode cX5_read 89 = .ok (.areturn, 1) := by decide +kernel
theorem dX5_read_90 : decode cX5_read 90 = .ok (.new 57, 3) := by decide +kernel
theorem dX5_read_93 : decode cX5_read 93 = .ok (.dup, 1) := by decide +kernel
theorem dX5_read_94 : decode cX5_read 94 = .ok (.aload_n 0, 1) := by decide +kernel
theorem dX5_read_95 : decode cX5_read 95 = .ok (.getfield 13, 3) := by decide +kernel
theorem dX5_read_98 : decode cX5_read 98 = .ok (.aload_n 0, 1) := by decide +kernel
theorem dX5_read_99 : decode cX5_read 99 = .ok (.getfield 30, 3) := by decide +kernel
theorem dX5_read_102 : decode cX5_read 102 = .ok (.invokestatic 59, 3) := by decide +kernel
theorem dX5_read_105 : decode cX5_read 105 = .ok (.aload_n 0, 1) := by decide +kernel
theorem dX5_read_106 : decode cX5_read 106 = .ok (.getfield 17, 3) := by decide +kernel
theorem dX5_read_109 : decode cX5_read 109 = .ok (.aload_n 0, 1) := by decide +kernel
theorem dX5_read_110 : decode cX5_read 110 = .ok (.getfield 34, 3) := by decide +kernel
theorem dX5_read_113 : decode cX5_read 113 = .ok (.invokestatic 59, 3) := by decide +kernel
theorem dX5_read_116 : decode cX5_read 116 = .ok (.aload_n 0, 1) := by decide +kernel
theorem dX5_read_117 : decode cX5_read 117 = .ok (.getfield 20, 3) := by decide +kernel
theorem dX5_read_120 : decode cX5_read 120 = .ok (.aload_n 0, 1) := by decide +kernel
theorem dX5_read_121 : decode cX5_read 121 = .ok (.getfield 34, 3) := by decide +kernel
theorem dX5_read_124 : decode cX5_read 124 = .ok (.invokestatic 59, 3) := by decide +kernel
theorem dX5_read_127 : decode cX5_read 127 = .ok (.aload_n 0, 1) := by decide +kernel
theorem dX5_read_128 : decode cX5_read 128 = .ok (.getfield 23, 3) := by decide +kernel
theorem dX5_read_131 : decode cX5_read 131 = .ok (.aload_n 0, 1) := by decide +kernel
theorem dX5_read_132 : decode cX5_read 132 = .ok (.getfield 34, 3) := by decide +kernel
theorem dX5_read_135 : decode cX5_read 135 = .ok (.invokestatic 59, 3) := by decide +kernel
theorem dX5_read_138 : decode cX5_read 138 = .ok (.aload_n 0, 1) := by decide +kernel
theorem dX5_read_139 : decode cX5_read 139 = .ok (.getfield 40, 3) := by decide +kernel
theorem dX5_read_142 : decode cX5_read 142 = .ok (.iconst 1, 1) := by decide +kernel
theorem dX5_read_143 : decode cX5_read 143 = .ok (.if_icmp .ne 7, 3) := by decide +kernel
theorem dX5_read_146 : decode cX5_read 146 = .ok (.iconst 1, 1) := by decide +kernel
theorem dX5_read_147 : decode cX5_read 147 = .ok (.goto 4, 3) := by decide +kernel
theorem dX5_read_150 : decode cX5_read 150 = .ok (.iconst 0, 1) := by decide +kernel
theorem dX5_read_151 : decode cX5_read 151 = .ok (.invokespecial 65, 3) := by decide +kernel
theorem dX5_read_154 : decode cX5_read 154 = .ok (.areturn, 1) := by decide +kernel
theorem dX5_readClause_0 : decode cX5_readClause 0 = .ok (.aload_n 0, 1) := by decide +kernel
theorem dX5_readClause_1 : decode cX5_readClause 1 = .ok (.getfield 26, 3) := by decide +kernel
theorem dX5_readClause_4 : decode cX5_readClause 4 = .ok (.getfield 68, 3) := by decide +kernel
theorem dX5_readClause_7 : decode cX5_readClause 7 = .ok (.iconst 1, 1) := by decide +kernel
theorem dX5_readClause_8 : decode cX5_readClause 8 = .ok (.if_icmp .ne 13, 3) := by decide +kernel
theorem dX5_readClause_11 : decode cX5_readClause 11 = .ok (.aload_n 0, 1) := by decide +kernel
theorem dX5_readClause_12 : decode cX5_readClause 12 = .ok (.getfield 26, 3) := by decide +kernel
theorem dX5_readClause_15 : decode cX5_readClause 15 = .ok (.getfield 71, 3) := by decide +kernel
theorem dX5_readClause_18 : decode cX5_readClause 18 = .ok (.goto 4, 3) := by decide +kernel
theorem dX5_readClause_21 : decode cX5_readClause 21 = .ok (.iconst (-1), 1) := by decide +kernel
theorem dX5_readClause_22 : decode cX5_readClause 22 = .ok (.istore_n 2, 1) := by decide +kernel
theorem dX5_readClause_23 : decode cX5_readClause 23 = .ok (.iload_n 1, 1) := by decide +kernel
theorem dX5_readClause_24 : decode cX5_readClause 24 = .ok (.ifCond .eq 17, 3) := by decide +kernel
theorem dX5_readClause_27 : decode cX5_readClause 27 = .ok (.iload_n 2, 1) := by decide +kernel
theorem dX5_readClause_28 : decode cX5_readClause 28 = .ok (.bipush 16, 2) := by decide +kernel
theorem dX5_readClause_30 : decode cX5_readClause 30 = .ok (.if_icmp .ne 7, 3) := by decide +kernel
theorem dX5_readClause_33 : decode cX5_readClause 33 = .ok (.iconst 1, 1) := by decide +kernel
theorem dX5_readClause_34 : decode cX5_readClause 34 = .ok (.goto 24, 3) := by decide +kernel
theorem dX5_readClause_37 : decode cX5_readClause 37 = .ok (.iconst 0, 1) := by decide +kernel
theorem dX5_readClause_38 : decode cX5_readClause 38 = .ok (.goto 20, 3) := by decide +kernel
theorem dX5_readClause_41 : decode cX5_readClause 41 = .ok (.iload_n 2, 1) := by decide +kernel
theorem dX5_readClause_42 : decode cX5_readClause 42 = .ok (.bipush 12, 2) := by decide +kernel
theorem dX5_readClause_44 : decode cX5_readClause 44 = .ok (.if_icmp .lt 13, 3) := by decide +kernel
theorem dX5_readClause_47 : decode cX5_readClause 47 = .ok (.iload_n 2, 1) := by decide +kernel
theorem dX5_readClause_48 : decode cX5_readClause 48 = .ok (.bipush 15, 2) := by decide +kernel
theorem dX5_readClause_50 : decode cX5_readClause 50 = .ok (.if_icmp .gt 7, 3) := by decide +kernel
theorem dX5_readClause_53 : decode cX5_readClause 53 = .ok (.iconst 1, 1) := by decide +kernel
theorem dX5_readClause_54 : decode cX5_readClause 54 = .ok (.goto 4, 3) := by decide +kernel
theorem dX5_readClause_57 : decode cX5_readClause 57 = .ok (.iconst 0, 1) := by decide +kernel
theorem dX5_readClause_58 : decode cX5_readClause 58 = .ok (.istore_n 3, 1) := by decide +kernel
theorem dX5_readClause_59 : decode cX5_readClause 59 = .ok (.iload_n 3, 1) := by decide +kernel
theorem dX5_readClause_60 : decode cX5_readClause 60 = .ok (.ifCond .ne 12, 3) := by decide +kernel
theorem dX5_readClause_63 : decode cX5_readClause 63 = .ok (.aload_n 0, 1) := by decide +kernel
theorem dX5_readClause_64 : decode cX5_readClause 64 = .ok (.getfield 26, 3) := by decide +kernel
theorem dX5_readClause_67 : decode cX5_readClause 67 = .ok (.iconst 0, 1) := by decide +kernel
theorem dX5_readClause_68 : decode cX5_readClause 68 = .ok (.invokevirtual 74, 3) := by decide +kernel
theorem dX5_readClause_71 : decode cX5_readClause 71 = .ok (.ireturn, 1) := by decide +kernel
theorem dX5_readClause_72 : decode cX5_readClause 72 = .ok (.aload_n 0, 1) := by decide +kernel
theorem dX5_readClause_73 : decode cX5_readClause 73 = .ok (.getfield 34, 3) := by decide +kernel
theorem dX5_readClause_76 : decode cX5_readClause 76 = .ok (.bipush 12, 2) := by decide +kernel
theorem dX5_readClause_78 : decode cX5_readClause 78 = .ok (.if_icmp .ge 17, 3) := by decide +kernel
theorem dX5_readClause_81 : decode cX5_readClause 81 = .ok (.iload_n 2, 1) := by decide +kernel
theorem dX5_readClause_82 : decode cX5_readClause 82 = .ok (.bipush 15, 2) := by decide +kernel
theorem dX5_readClause_84 : decode cX5_readClause 84 = .ok (.if_icmp .ne 20, 3) := by decide +kernel
theorem dX5_readClause_87 : decode cX5_readClause 87 = .ok (.aload_n 0, 1) := by decide +kernel
theorem dX5_readClause_88 : decode cX5_readClause 88 = .ok (.getfield 40, 3) := by decide +kernel
theorem dX5_readClause_91 : decode cX5_readClause 91 = .ok (.iconst (-1), 1) := by decide +kernel
theorem dX5_readClause_92 : decode cX5_readClause 92 = .ok (.if_icmp .eq 12, 3) := by decide +kernel
theorem dX5_readClause_95 : decode cX5_readClause 95 = .ok (.aload_n 0, 1) := by decide +kernel
theorem dX5_readClause_96 : decode cX5_readClause 96 = .ok (.getfield 26, 3) := by decide +kernel
theorem dX5_readClause_99 : decode cX5_readClause 99 = .ok (.iconst 4, 1) := by decide +kernel
theorem dX5_readClause_100 : decode cX5_readClause 100 = .ok (.invokevirtual 74, 3) := by decide +kernel
theorem dX5_readClause_103 : decode cX5_readClause 103 = .ok (.ireturn, 1) := by decide +kernel
theorem dX5_readClause_104 : decode cX5_readClause 104 = .ok (.aload_n 0, 1) := by decide +kernel
theorem dX5_readClause_105 : decode cX5_readClause 105 = .ok (.getfield 17, 3) := by decide +kernel
theorem dX5_readClause_108 : decode cX5_readClause 108 = .ok (.aload_n 0, 1) := by decide +kernel
theorem dX5_readClause_109 : decode cX5_readClause 109 = .ok (.getfield 34, 3) := by decide +kernel
theorem dX5_readClause_112 : decode cX5_readClause 112 = .ok (.iload_n 2, 1) := by decide +kernel
theorem dX5_readClause_113 : decode cX5_readClause 113 = .ok (.iastore, 1) := by decide +kernel
theorem dX5_readClause_114 : decode cX5_readClause 114 = .ok (.aload_n 0, 1) := by decide +kernel
theorem dX5_readClause_115 : decode cX5_readClause 115 = .ok (.getfield 20, 3) := by decide +kernel
theorem dX5_readClause_118 : decode cX5_readClause 118 = .ok (.aload_n 0, 1) := by decide +kernel
theorem dX5_readClause_119 : decode cX5_readClause 119 = .ok (.getfield 34, 3) := by decide +kernel
theorem dX5_readClause_122 : decode cX5_readClause 122 = .ok (.iconst (-1), 1) := by decide +kernel
theorem dX5_readClause_123 : decode cX5_readClause 123 = .ok (.iastore, 1) := by decide +kernel
theorem dX5_readClause_124 : decode cX5_readClause 124 = .ok (.aload_n 0, 1) := by decide +kernel
theorem dX5_readClause_125 : decode cX5_readClause 125 = .ok (.getfield 23, 3) := by decide +kernel
theorem dX5_readClause_128 : decode cX5_readClause 128 = .ok (.aload_n 0, 1) := by decide +kernel
theorem dX5_readClause_129 : decode cX5_readClause 129 = .ok (.getfield 34, 3) := by decide +kernel
theorem dX5_readClause_132 : decode cX5_readClause 132 = .ok (.iconst (-1), 1) := by decide +kernel
theorem dX5_readClause_133 : decode cX5_readClause 133 = .ok (.iastore, 1) := by decide +kernel
theorem dX5_readClause_134 : decode cX5_readClause 134 = .ok (.aload_n 0, 1) := by decide +kernel
theorem dX5_readClause_135 : decode cX5_readClause 135 = .ok (.dup, 1) := by decide +kernel
theorem dX5_readClause_136 : decode cX5_readClause 136 = .ok (.getfield 34, 3) := by decide +kernel
theorem dX5_readClause_139 : decode cX5_readClause 139 = .ok (.iconst 1, 1) := by decide +kernel
theorem dX5_readClause_140 : decode cX5_readClause 140 = .ok (.iadd, 1) := by decide +kernel
theorem dX5_readClause_141 : decode cX5_readClause 141 = .ok (.putfield 34, 3) := by decide +kernel
theorem dX5_readClause_144 : decode cX5_readClause 144 = .ok (.aload_n 0, 1) := by decide +kernel
theorem dX5_readClause_145 : decode cX5_readClause 145 = .ok (.getfield 26, 3) := by decide +kernel
theorem dX5_readClause_148 : decode cX5_readClause 148 = .ok (.invokevirtual 78, 3) := by decide +kernel
theorem dX5_readClause_151 : decode cX5_readClause 151 = .ok (.iload_n 2, 1) := by decide +kernel
theorem dX5_readClause_152 : decode cX5_readClause 152 = .ok (.bipush 15, 2) := by decide +kernel
theorem dX5_readClause_154 : decode cX5_readClause 154 = .ok (.if_icmp .ne 30, 3) := by decide +kernel
theorem dX5_readClause_157 : decode cX5_readClause 157 = .ok (.aload_n 0, 1) := by decide +kernel
theorem dX5_readClause_158 : decode cX5_readClause 158 = .ok (.aload_n 0, 1) := by decide +kernel
theorem dX5_readClause_159 : decode cX5_readClause 159 = .ok (.getfield 26, 3) := by decide +kernel
theorem dX5_readClause_162 : decode cX5_readClause 162 = .ok (.iconst 0, 1) := by decide +kernel
theorem dX5_readClause_163 : decode cX5_readClause 163 = .ok (.iconst 1, 1) := by decide +kernel
theorem dX5_readClause_164 : decode cX5_readClause 164 = .ok (.invokevirtual 81, 3) := by decide +kernel
theorem dX5_readClause_167 : decode cX5_readClause 167 = .ok (.putfield 40, 3) := by decide +kernel
theorem dX5_readClause_170 : decode cX5_readClause 170 = .ok (.aload_n 0, 1) := by decide +kernel
theorem dX5_readClause_171 : decode cX5_readClause 171 = .ok (.getfield 40, 3) := by decide +kernel
theorem dX5_readClause_174 : decode cX5_readClause 174 = .ok (.iconst (-1), 1) := by decide +kernel
theorem dX5_readClause_175 : decode cX5_readClause 175 = .ok (.if_icmp .eq 7, 3) := by decide +kernel
theorem dX5_readClause_178 : decode cX5_readClause 178 = .ok (.iconst 1, 1) := by decide +kernel
theorem dX5_readClause_179 : decode cX5_readClause 179 = .ok (.goto 4, 3) := by decide +kernel
theorem dX5_readClause_182 : decode cX5_readClause 182 = .ok (.iconst 0, 1) := by decide +kernel
theorem dX5_readClause_183 : decode cX5_readClause 183 = .ok (.ireturn, 1) := by decide +kernel
theorem dX5_readClause_184 : decode cX5_readClause 184 = .ok (.iconst 1, 1) := by decide +kernel
theorem dX5_readClause_185 : decode cX5_readClause 185 = .ok (.istore 4, 2) := by decide +kernel
theorem dX5_readClause_187 : decode cX5_readClause 187 = .ok (.iload_n 2, 1) := by decide +kernel
theorem dX5_readClause_188 : decode cX5_readClause 188 = .ok (.bipush 13, 2) := by decide +kernel
theorem dX5_readClause_190 : decode cX5_readClause 190 = .ok (.if_icmp .eq 9, 3) := by decide +kernel
theorem dX5_readClause_193 : decode cX5_readClause 193 = .ok (.iload_n 2, 1) := by decide +kernel
theorem dX5_readClause_194 : decode cX5_readClause 194 = .ok (.bipush 14, 2) := by decide +kernel
theorem dX5_readClause_196 : decode cX5_readClause 196 = .ok (.if_icmp .ne 7, 3) := by decide +kernel
theorem dX5_readClause_199 : decode cX5_readClause 199 = .ok (.iconst 1, 1) := by decide +kernel
theorem dX5_readClause_200 : decode cX5_readClause 200 = .ok (.goto 4, 3) := by decide +kernel
theorem dX5_readClause_203 : decode cX5_readClause 203 = .ok (.iconst 0, 1) := by decide +kernel
theorem dX5_readClause_204 : decode cX5_readClause 204 = .ok (.istore 5, 2) := by decide +kernel
theorem dX5_readClause_206 : decode cX5_readClause 206 = .ok (.iload 5, 2) := by decide +kernel
theorem dX5_readClause_208 : decode cX5_readClause 208 = .ok (.ifCond .ne 65, 3) := by decide +kernel
theorem dX5_readClause_211 : decode cX5_readClause 211 = .ok (.aload_n 0, 1) := by decide +kernel
theorem dX5_readClause_212 : decode cX5_readClause 212 = .ok (.getfield 20, 3) := by decide +kernel
theorem dX5_readClause_215 : decode cX5_readClause 215 = .ok (.aload_n 0, 1) := by decide +kernel
theorem dX5_readClause_216 : decode cX5_readClause 216 = .ok (.getfield 34, 3) := by decide +kernel
theorem dX5_readClause_219 : decode cX5_readClause 219 = .ok (.iconst 1, 1) := by decide +kernel
theorem dX5_readClause_220 : decode cX5_readClause 220 = .ok (.isub, 1) := by decide +kernel
theorem dX5_readClause_221 : decode cX5_readClause 221 = .ok (.aload_n 0, 1) := by decide +kernel
theorem dX5_readClause_222 : decode cX5_readClause 222 = .ok (.getfield 30, 3) := by decide +kernel
theorem dX5_readClause_225 : decode cX5_readClause 225 = .ok (.iastore, 1) := by decide +kernel
theorem dX5_readClause_226 : decode cX5_readClause 226 = .ok (.aload_n 0, 1) := by decide +kernel
theorem dX5_readClause_227 : decode cX5_readClause 227 = .ok (.invokevirtual 85, 3) := by decide +kernel
theorem dX5_readClause_230 : decode cX5_readClause 230 = .ok (.istore 4, 2) := by decide +kernel
theorem dX5_readClause_232 : decode cX5_readClause 232 = .ok (.aload_n 0, 1) := by decide +kernel
theorem dX5_readClause_233 : decode cX5_readClause 233 = .ok (.iconst (-1), 1) := by decide +kernel
theorem dX5_readClause_234 : decode cX5_readClause 234 = .ok (.invokevirtual 88, 3) := by decide +kernel
theorem dX5_readClause_237 : decode cX5_readClause 237 = .ok (.iload 4, 2) := by decide +kernel
theorem dX5_readClause_239 : decode cX5_readClause 239 = .ok (.ifCond .eq 19, 3) := by decide +kernel
theorem dX5_readClause_242 : decode cX5_readClause 242 = .ok (.aload_n 0, 1) := by decide +kernel
theorem dX5_readClause_243 : decode cX5_readClause 243 = .ok (.getfield 26, 3) := by decide +kernel
theorem dX5_readClause_246 : decode cX5_readClause 246 = .ok (.bipush 17, 2) := by decide +kernel
theorem dX5_readClause_248 : decode cX5_readClause 248 = .ok (.invokevirtual 92, 3) := by decide +kernel
theorem dX5_readClause_251 : decode cX5_readClause 251 = .ok (.ifCond .eq 7, 3) := by decide +kernel
theorem dX5_readClause_254 : decode cX5_readClause 254 = .ok (.iconst 1, 1) := by decide +kernel
theorem dX5_readClause_255 : decode cX5_readClause 255 = .ok (.goto 4, 3) := by decide +kernel
theorem dX5_readClause_258 : decode cX5_readClause 258 = .ok (.iconst 0, 1) := by decide +kernel
theorem dX5_readClause_259 : decode cX5_readClause 259 = .ok (.istore 5, 2) := by decide +kernel
theorem dX5_readClause_261 : decode cX5_readClause 261 = .ok (.iload 5, 2) := by decide +kernel
theorem dX5_readClause_263 : decode cX5_readClause 263 = .ok (.ifCond .eq 10, 3) := by decide +kernel
theorem dX5_readClause_266 : decode cX5_readClause 266 = .ok (.aload_n 0, 1) := by decide +kernel
theorem dX5_readClause_267 : decode cX5_readClause 267 = .ok (.getfield 26, 3) := by decide +kernel
theorem dX5_readClause_270 : decode cX5_readClause 270 = .ok (.invokevirtual 78, 3) := by decide +kernel
theorem dX5_readClause_273 : decode cX5_readClause 273 = .ok (.iload 5, 2) := by decide +kernel
theorem dX5_readClause_275 : decode cX5_readClause 275 = .ok (.ifCond .eq 30, 3) := by decide +kernel
theorem dX5_readClause_278 : decode cX5_readClause 278 = .ok (.aload_n 0, 1) := by decide +kernel
theorem dX5_readClause_279 : decode cX5_readClause 279 = .ok (.getfield 23, 3) := by decide +kernel
theorem dX5_readClause_282 : decode cX5_readClause 282 = .ok (.aload_n 0, 1) := by decide +kernel
theorem dX5_readClause_283 : decode cX5_readClause 283 = .ok (.getfield 34, 3) := by decide +kernel
theorem dX5_readClause_286 : decode cX5_readClause 286 = .ok (.iconst 1, 1) := by decide +kernel
theorem dX5_readClause_287 : decode cX5_readClause 287 = .ok (.isub, 1) := by decide +kernel
theorem dX5_readClause_288 : decode cX5_readClause 288 = .ok (.aload_n 0, 1) := by decide +kernel
theorem dX5_readClause_289 : decode cX5_readClause 289 = .ok (.getfield 30, 3) := by decide +kernel
theorem dX5_readClause_292 : decode cX5_readClause 292 = .ok (.iastore, 1) := by decide +kernel
theorem dX5_readClause_293 : decode cX5_readClause 293 = .ok (.aload_n 0, 1) := by decide +kernel
theorem dX5_readClause_294 : decode cX5_readClause 294 = .ok (.iconst 0, 1) := by decide +kernel
theorem dX5_readClause_295 : decode cX5_readClause 295 = .ok (.invokevirtual 95, 3) := by decide +kernel
theorem dX5_readClause_298 : decode cX5_readClause 298 = .ok (.istore 4, 2) := by decide +kernel
theorem dX5_readClause_300 : decode cX5_readClause 300 = .ok (.aload_n 0, 1) := by decide +kernel
theorem dX5_readClause_301 : decode cX5_readClause 301 = .ok (.iconst (-1), 1) := by decide +kernel
theorem dX5_readClause_302 : decode cX5_readClause 302 = .ok (.invokevirtual 88, 3) := by decide +kernel
theorem dX5_readClause_305 : decode cX5_readClause 305 = .ok (.iload 4, 2) := by decide +kernel
theorem dX5_readClause_307 : decode cX5_readClause 307 = .ok (.ireturn, 1) := by decide +kernel
theorem dX5_readTest_0 : decode cX5_readTest 0 = .ok (.aload_n 0, 1) := by decide +kernel
theorem dX5_readTest_1 : decode cX5_readTest 1 = .ok (.iload_n 1, 1) := by decide +kernel
theorem dX5_readTest_2 : decode cX5_readTest 2 = .ok (.invokevirtual 98, 3) := by decide +kernel
theorem dX5_readTest_5 : decode cX5_readTest 5 = .ok (.istore_n 2, 1) := by decide +kernel
theorem dX5_readTest_6 : decode cX5_readTest 6 = .ok (.iconst 0, 1) := by decide +kernel
theorem dX5_readTest_7 : decode cX5_readTest 7 = .ok (.istore_n 3, 1) := by decide +kernel
theorem dX5_readTest_8 : decode cX5_readTest 8 = .ok (.iconst 0, 1) := by decide +kernel
theorem dX5_readTest_9 : decode cX5_readTest 9 = .ok (.istore 4, 2) := by decide +kernel
theorem dX5_readTest_11 : decode cX5_readTest 11 = .ok (.iload 4, 2) := by decide +kernel
theorem dX5_readTest_13 : decode cX5_readTest 13 = .ok (.sipush 400, 3) := by decide +kernel
theorem dX5_readTest_16 : decode cX5_readTest 16 = .ok (.if_icmp .ge 84, 3) := by decide +kernel
theorem dX5_readTest_19 : decode cX5_readTest 19 = .ok (.iload_n 2, 1) := by decide +kernel
theorem dX5_readTest_20 : decode cX5_readTest 20 = .ok (.ifCond .eq 80, 3) := by decide +kernel
theorem dX5_readTest_23 : decode cX5_readTest 23 = .ok (.aload_n 0, 1) := by decide +kernel
theorem dX5_readTest_24 : decode cX5_readTest 24 = .ok (.getfield 26, 3) := by decide +kernel
theorem dX5_readTest_27 : decode cX5_readTest 27 = .ok (.bipush 18, 2) := by decide +kernel
theorem dX5_readTest_29 : decode cX5_readTest 29 = .ok (.invokevirtual 92, 3) := by decide +kernel
theorem dX5_readTest_32 : decode cX5_readTest 32 = .ok (.ifCond .eq 25, 3) := by decide +kernel
theorem dX5_readTest_35 : decode cX5_readTest 35 = .ok (.aload_n 0, 1) := by decide +kernel
theorem dX5_readTest_36 : decode cX5_readTest 36 = .ok (.getfield 26, 3) := by decide +kernel
theorem dX5_readTest_39 : decode cX5_readTest 39 = .ok (.invokevirtual 78, 3) := by decide +kernel
theorem dX5_readTest_42 : decode cX5_readTest 42 = .ok (.aload_n 0, 1) := by decide +kernel
theorem dX5_readTest_43 : decode cX5_readTest 43 = .ok (.iload_n 1, 1) := by decide +kernel
theorem dX5_readTest_44 : decode cX5_readTest 44 = .ok (.invokevirtual 98, 3) := by decide +kernel
theorem dX5_readTest_47 : decode cX5_readTest 47 = .ok (.istore_n 2, 1) := by decide +kernel
theorem dX5_readTest_48 : decode cX5_readTest 48 = .ok (.aload_n 0, 1) := by decide +kernel
theorem dX5_readTest_49 : decode cX5_readTest 49 = .ok (.bipush (-11), 2) := by decide +kernel
theorem dX5_readTest_51 : decode cX5_readTest 51 = .ok (.invokevirtual 88, 3) := by decide +kernel
theorem dX5_readTest_54 : decode cX5_readTest 54 = .ok (.goto 40, 3) := by decide +kernel
theorem dX5_readTest_57 : decode cX5_readTest 57 = .ok (.aload_n 0, 1) := by decide +kernel
theorem dX5_readTest_58 : decode cX5_readTest 58 = .ok (.getfield 26, 3) := by decide +kernel
theorem dX5_readTest_61 : decode cX5_readTest 61 = .ok (.bipush 19, 2) := by decide +kernel
theorem dX5_readTest_63 : decode cX5_readTest 63 = .ok (.invokevirtual 92, 3) := by decide +kernel
theorem dX5_readTest_66 : decode cX5_readTest 66 = .ok (.ifCond .eq 34, 3) := by decide +kernel
theorem dX5_readTest_69 : decode cX5_readTest 69 = .ok (.iload_n 3, 1) := by decide +kernel
theorem dX5_readTest_70 : decode cX5_readTest 70 = .ok (.ifCond .eq 9, 3) := by decide +kernel
theorem dX5_readTest_73 : decode cX5_readTest 73 = .ok (.aload_n 0, 1) := by decide +kernel
theorem dX5_readTest_74 : decode cX5_readTest 74 = .ok (.bipush (-12), 2) := by decide +kernel
theorem dX5_readTest_76 : decode cX5_readTest 76 = .ok (.invokevirtual 88, 3) := by decide +kernel
theorem dX5_readTest_79 : decode cX5_readTest 79 = .ok (.iconst 1, 1) := by decide +kernel
theorem dX5_readTest_80 : decode cX5_readTest 80 = .ok (.istore_n 3, 1) := by decide +kernel
theorem dX5_readTest_81 : decode cX5_readTest 81 = .ok (.aload_n 0, 1) := by decide +kernel
theorem dX5_readTest_82 : decode cX5_readTest 82 = .ok (.getfield 26, 3) := by decide +kernel
theorem dX5_readTest_85 : decode cX5_readTest 85 = .ok (.invokevirtual 78, 3) := by decide +kernel
theorem dX5_readTest_88 : decode cX5_readTest 88 = .ok (.aload_n 0, 1) := by decide +kernel
theorem dX5_readTest_89 : decode cX5_readTest 89 = .ok (.iload_n 1, 1) := by decide +kernel
theorem dX5_readTest_90 : decode cX5_readTest 90 = .ok (.invokevirtual 98, 3) := by decide +kernel
theorem dX5_readTest_93 : decode cX5_readTest 93 = .ok (.istore_n 2, 1) := by decide +kernel
theorem dX5_readTest_94 : decode cX5_readTest 94 = .ok (.iinc 4 1, 3) := by decide +kernel
theorem dX5_readTest_97 : decode cX5_readTest 97 = .ok (.goto (-86), 3) := by decide +kernel
theorem dX5_readTest_100 : decode cX5_readTest 100 = .ok (.iload_n 3, 1) := by decide +kernel
theorem dX5_readTest_101 : decode cX5_readTest 101 = .ok (.ifCond .eq 9, 3) := by decide +kernel
theorem dX5_readTest_104 : decode cX5_readTest 104 = .ok (.aload_n 0, 1) := by decide +kernel
theorem dX5_readTest_105 : decode cX5_readTest 105 = .ok (.bipush (-12), 2) := by decide +kernel
theorem dX5_readTest_107 : decode cX5_readTest 107 = .ok (.invokevirtual 88, 3) := by decide +kernel
theorem dX5_readTest_110 : decode cX5_readTest 110 = .ok (.iload_n 2, 1) := by decide +kernel
theorem dX5_readTest_111 : decode cX5_readTest 111 = .ok (.ireturn, 1) := by decide +kernel
theorem dX5_readFact_0 : decode cX5_readFact 0 = .ok (.aload_n 0, 1) := by decide +kernel
theorem dX5_readFact_1 : decode cX5_readFact 1 = .ok (.getfield 26, 3) := by decide +kernel
theorem dX5_readFact_4 : decode cX5_readFact 4 = .ok (.bipush 14, 2) := by decide +kernel
theorem dX5_readFact_6 : decode cX5_readFact 6 = .ok (.invokevirtual 92, 3) := by decide +kernel
theorem dX5_readFact_9 : decode cX5_readFact 9 = .ok (.ifCond .ne 15, 3) := by decide +kernel
theorem dX5_readFact_12 : decode cX5_readFact 12 = .ok (.aload_n 0, 1) := by decide +kernel
theorem dX5_readFact_13 : decode cX5_readFact 13 = .ok (.getfield 26, 3) := by decide +kernel
theorem dX5_readFact_16 : decode cX5_readFact 16 = .ok (.bipush 91, 2) := by decide +kernel
theorem dX5_readFact_18 : decode cX5_readFact 18 = .ok (.invokevirtual 101, 3) := by decide +kernel
theorem dX5_readFact_21 : decode cX5_readFact 21 = .ok (.ifCond .eq 9, 3) := by decide +kernel
theorem dX5_readFact_24 : decode cX5_readFact 24 = .ok (.aload_n 0, 1) := by decide +kernel
theorem dX5_readFact_25 : decode cX5_readFact 25 = .ok (.iload_n 1, 1) := by decide +kernel
theorem dX5_readFact_26 : decode cX5_readFact 26 = .ok (.invokevirtual 104, 3) := by decide +kernel
theorem dX5_readFact_29 : decode cX5_readFact 29 = .ok (.ireturn, 1) := by decide +kernel
theorem dX5_readFact_30 : decode cX5_readFact 30 = .ok (.aload_n 0, 1) := by decide +kernel
theorem dX5_readFact_31 : decode cX5_readFact 31 = .ok (.invokevirtual 85, 3) := by decide +kernel
theorem dX5_readFact_34 : decode cX5_readFact 34 = .ok (.ifCond .ne 5, 3) := by decide +kernel
theorem dX5_readFact_37 : decode cX5_readFact 37 = .ok (.iconst 0, 1) := by decide +kernel
theorem dX5_readFact_38 : decode cX5_readFact 38 = .ok (.ireturn, 1) := by decide +kernel
theorem dX5_readFact_39 : decode cX5_readFact 39 = .ok (.aload_n 0, 1) := by decide +kernel
theorem dX5_readFact_40 : decode cX5_readFact 40 = .ok (.getfield 26, 3) := by decide +kernel
theorem dX5_readFact_43 : decode cX5_readFact 43 = .ok (.getfield 68, 3) := by decide +kernel
theorem dX5_readFact_46 : decode cX5_readFact 46 = .ok (.iconst 3, 1) := by decide +kernel
theorem dX5_readFact_47 : decode cX5_readFact 47 = .ok (.if_icmp .ne 16, 3) := by decide +kernel
theorem dX5_readFact_50 : decode cX5_readFact 50 = .ok (.aload_n 0, 1) := by decide +kernel
theorem dX5_readFact_51 : decode cX5_readFact 51 = .ok (.getfield 26, 3) := by decide +kernel
theorem dX5_readFact_54 : decode cX5_readFact 54 = .ok (.getfield 71, 3) := by decide +kernel
theorem dX5_readFact_57 : decode cX5_readFact 57 = .ok (.invokestatic 107, 3) := by decide +kernel
theorem dX5_readFact_60 : decode cX5_readFact 60 = .ok (.goto 4, 3) := by decide +kernel
theorem dX5_readFact_63 : decode cX5_readFact 63 = .ok (.iconst (-1), 1) := by decide +kernel
theorem dX5_readFact_64 : decode cX5_readFact 64 = .ok (.istore_n 2, 1) := by decide +kernel
theorem dX5_readFact_65 : decode cX5_readFact 65 = .ok (.iload_n 2, 1) := by decide +kernel
theorem dX5_readFact_66 : decode cX5_readFact 66 = .ok (.iconst (-1), 1) := by decide +kernel
theorem dX5_readFact_67 : decode cX5_readFact 67 = .ok (.if_icmp .ne 12, 3) := by decide +kernel
theorem dX5_readFact_70 : decode cX5_readFact 70 = .ok (.aload_n 0, 1) := by decide +kernel
theorem dX5_readFact_71 : decode cX5_readFact 71 = .ok (.getfield 26, 3) := by decide +kernel
theorem dX5_readFact_74 : decode cX5_readFact 74 = .ok (.iconst 0, 1) := by decide +kernel
theorem dX5_readFact_75 : decode cX5_readFact 75 = .ok (.invokevirtual 74, 3) := by decide +kernel
theorem dX5_readFact_78 : decode cX5_readFact 78 = .ok (.ireturn, 1) := by decide +kernel
theorem dX5_readFact_79 : decode cX5_readFact 79 = .ok (.aload_n 0, 1) := by decide +kernel
theorem dX5_readFact_80 : decode cX5_readFact 80 = .ok (.getfield 37, 3) := by decide +kernel
theorem dX5_readFact_83 : decode cX5_readFact 83 = .ok (.bipush 60, 2) := by decide +kernel
theorem dX5_readFact_85 : decode cX5_readFact 85 = .ok (.if_icmp .lt 12, 3) := by decide +kernel
theorem dX5_readFact_88 : decode cX5_readFact 88 = .ok (.aload_n 0, 1) := by decide +kernel
theorem dX5_readFact_89 : decode cX5_readFact 89 = .ok (.getfield 26, 3) := by decide +kernel
theorem dX5_readFact_92 : decode cX5_readFact 92 = .ok (.iconst 3, 1) := by decide +kernel
theorem dX5_readFact_93 : decode cX5_readFact 93 = .ok (.invokevirtual 74, 3) := by decide +kernel
theorem dX5_readFact_96 : decode cX5_readFact 96 = .ok (.ireturn, 1) := by decide +kernel
theorem dX5_readFact_97 : decode cX5_readFact 97 = .ok (.aload_n 0, 1) := by decide +kernel
theorem dX5_readFact_98 : decode cX5_readFact 98 = .ok (.dup, 1) := by decide +kernel
theorem dX5_readFact_99 : decode cX5_readFact 99 = .ok (.getfield 37, 3) := by decide +kernel
theorem dX5_readFact_102 : decode cX5_readFact 102 = .ok (.iconst 1, 1) := by decide +kernel
theorem dX5_readFact_103 : decode cX5_readFact 103 = .ok (.iadd, 1) := by decide +kernel
theorem dX5_readFact_104 : decode cX5_readFact 104 = .ok (.putfield 37, 3) := by decide +kernel
theorem dX5_readFact_107 : decode cX5_readFact 107 = .ok (.aload_n 0, 1) := by decide +kernel
theorem dX5_readFact_108 : decode cX5_readFact 108 = .ok (.getfield 26, 3) := by decide +kernel
theorem dX5_readFact_111 : decode cX5_readFact 111 = .ok (.invokevirtual 78, 3) := by decide +kernel
theorem dX5_readFact_114 : decode cX5_readFact 114 = .ok (.aload_n 0, 1) := by decide +kernel
theorem dX5_readFact_115 : decode cX5_readFact 115 = .ok (.invokevirtual 85, 3) := by decide +kernel
theorem dX5_readFact_118 : decode cX5_readFact 118 = .ok (.istore_n 3, 1) := by decide +kernel
theorem dX5_readFact_119 : decode cX5_readFact 119 = .ok (.aload_n 0, 1) := by decide +kernel
theorem dX5_readFact_120 : decode cX5_readFact 120 = .ok (.iload_n 2, 1) := by decide +kernel
theorem dX5_readFact_121 : decode cX5_readFact 121 = .ok (.invokevirtual 88, 3) := by decide +kernel
theorem dX5_readFact_124 : decode cX5_readFact 124 = .ok (.iload_n 3, 1) := by decide +kernel
theorem dX5_readFact_125 : decode cX5_readFact 125 = .ok (.ireturn, 1) := by decide +kernel
theorem dX5_readNested_0 : decode cX5_readNested 0 = .ok (.iload_n 1, 1) := by decide +kernel
theorem dX5_readNested_1 : decode cX5_readNested 1 = .ok (.bipush 10, 2) := by decide +kernel
theorem dX5_readNested_3 : decode cX5_readNested 3 = .ok (.if_icmp .lt 12, 3) := by decide +kernel
theorem dX5_readNested_6 : decode cX5_readNested 6 = .ok (.aload_n 0, 1) := by decide +kernel
theorem dX5_readNested_7 : decode cX5_readNested 7 = .ok (.getfield 26, 3) := by decide +kernel
theorem dX5_readNested_10 : decode cX5_readNested 10 = .ok (.iconst 2, 1) := by decide +kernel
theorem dX5_readNested_11 : decode cX5_readNested 11 = .ok (.invokevirtual 74, 3) := by decide +kernel
theorem dX5_readNested_14 : decode cX5_readNested 14 = .ok (.ireturn, 1) := by decide +kernel
theorem dX5_readNested_15 : decode cX5_readNested 15 = .ok (.aload_n 0, 1) := by decide +kernel
theorem dX5_readNested_16 : decode cX5_readNested 16 = .ok (.getfield 26, 3) := by decide +kernel
theorem dX5_readNested_19 : decode cX5_readNested 19 = .ok (.bipush 14, 2) := by decide +kernel
theorem dX5_readNested_21 : decode cX5_readNested 21 = .ok (.invokevirtual 92, 3) := by decide +kernel
theorem dX5_readNested_24 : decode cX5_readNested 24 = .ok (.istore_n 2, 1) := by decide +kernel
theorem dX5_readNested_25 : decode cX5_readNested 25 = .ok (.aload_n 0, 1) := by decide +kernel
theorem dX5_readNested_26 : decode cX5_readNested 26 = .ok (.getfield 26, 3) := by decide +kernel
theorem dX5_readNested_29 : decode cX5_readNested 29 = .ok (.invokevirtual 78, 3) := by decide +kernel
theorem dX5_readNested_32 : decode cX5_readNested 32 = .ok (.iload_n 2, 1) := by decide +kernel
theorem dX5_readNested_33 : decode cX5_readNested 33 = .ok (.ifCond .eq 19, 3) := by decide +kernel
theorem dX5_readNested_36 : decode cX5_readNested 36 = .ok (.aload_n 0, 1) := by decide +kernel
theorem dX5_readNested_37 : decode cX5_readNested 37 = .ok (.iload_n 1, 1) := by decide +kernel
theorem dX5_readNested_38 : decode cX5_readNested 38 = .ok (.iconst 1, 1) := by decide +kernel
theorem dX5_readNested_39 : decode cX5_readNested 39 = .ok (.iadd, 1) := by decide +kernel
theorem dX5_readNested_40 : decode cX5_readNested 40 = .ok (.invokevirtual 98, 3) := by decide +kernel
theorem dX5_readNested_43 : decode cX5_readNested 43 = .ok (.istore_n 3, 1) := by decide +kernel
theorem dX5_readNested_44 : decode cX5_readNested 44 = .ok (.aload_n 0, 1) := by decide +kernel
theorem dX5_readNested_45 : decode cX5_readNested 45 = .ok (.bipush (-13), 2) := by decide +kernel
theorem dX5_readNested_47 : decode cX5_readNested 47 = .ok (.invokevirtual 88, 3) := by decide +kernel
theorem dX5_readNested_50 : decode cX5_readNested 50 = .ok (.iload_n 3, 1) := by decide +kernel
theorem dX5_readNested_51 : decode cX5_readNested 51 = .ok (.ireturn, 1) := by decide +kernel
theorem dX5_readNested_52 : decode cX5_readNested 52 = .ok (.aload_n 0, 1) := by decide +kernel
theorem dX5_readNested_53 : decode cX5_readNested 53 = .ok (.iload_n 1, 1) := by decide +kernel
theorem dX5_readNested_54 : decode cX5_readNested 54 = .ok (.iconst 1, 1) := by decide +kernel
theorem dX5_readNested_55 : decode cX5_readNested 55 = .ok (.iadd, 1) := by decide +kernel
theorem dX5_readNested_56 : decode cX5_readNested 56 = .ok (.invokevirtual 95, 3) := by decide +kernel
theorem dX5_readNested_59 : decode cX5_readNested 59 = .ok (.ifCond .ne 5, 3) := by decide +kernel
theorem dX5_readNested_62 : decode cX5_readNested 62 = .ok (.iconst 0, 1) := by decide +kernel
theorem dX5_readNested_63 : decode cX5_readNested 63 = .ok (.ireturn, 1) := by decide +kernel
theorem dX5_readNested_64 : decode cX5_readNested 64 = .ok (.aload_n 0, 1) := by decide +kernel
theorem dX5_readNested_65 : decode cX5_readNested 65 = .ok (.getfield 26, 3) := by decide +kernel
theorem dX5_readNested_68 : decode cX5_readNested 68 = .ok (.bipush 93, 2) := by decide +kernel
theorem dX5_readNested_70 : decode cX5_readNested 70 = .ok (.invokevirtual 101, 3) := by decide +kernel
theorem dX5_readNested_73 : decode cX5_readNested 73 = .ok (.ifCond .ne 12, 3) := by decide +kernel
theorem dX5_readNested_76 : decode cX5_readNested 76 = .ok (.aload_n 0, 1) := by decide +kernel
theorem dX5_readNested_77 : decode cX5_readNested 77 = .ok (.getfield 26, 3) := by decide +kernel
theorem dX5_readNested_80 : decode cX5_readNested 80 = .ok (.iconst 0, 1) := by decide +kernel
theorem dX5_readNested_81 : decode cX5_readNested 81 = .ok (.invokevirtual 74, 3) := by decide +kernel
theorem dX5_readNested_84 : decode cX5_readNested 84 = .ok (.ireturn, 1) := by decide +kernel
theorem dX5_readNested_85 : decode cX5_readNested 85 = .ok (.aload_n 0, 1) := by decide +kernel
theorem dX5_readNested_86 : decode cX5_readNested 86 = .ok (.getfield 26, 3) := by decide +kernel
theorem dX5_readNested_89 : decode cX5_readNested 89 = .ok (.invokevirtual 78, 3) := by decide +kernel
theorem dX5_readNested_92 : decode cX5_readNested 92 = .ok (.iconst 1, 1) := by decide +kernel
theorem dX5_readNested_93 : decode cX5_readNested 93 = .ok (.ireturn, 1) := by decide +kernel
theorem dX5_readSum_0 : decode cX5_readSum 0 = .ok (.aload_n 0, 1) := by decide +kernel
theorem dX5_readSum_1 : decode cX5_readSum 1 = .ok (.invokevirtual 111, 3) := by decide +kernel
theorem dX5_readSum_4 : decode cX5_readSum 4 = .ok (.istore_n 1, 1) := by decide +kernel
theorem dX5_readSum_5 : decode cX5_readSum 5 = .ok (.iconst (-1), 1) := by decide +kernel
theorem dX5_readSum_6 : decode cX5_readSum 6 = .ok (.istore_n 2, 1) := by decide +kernel
theorem dX5_readSum_7 : decode cX5_readSum 7 = .ok (.iconst 0, 1) := by decide +kernel
theorem dX5_readSum_8 : decode cX5_readSum 8 = .ok (.istore_n 3, 1) := by decide +kernel
theorem dX5_readSum_9 : decode cX5_readSum 9 = .ok (.iload_n 3, 1) := by decide +kernel
theorem dX5_readSum_10 : decode cX5_readSum 10 = .ok (.sipush 400, 3) := by decide +kernel
theorem dX5_readSum_13 : decode cX5_readSum 13 = .ok (.if_icmp .ge 107, 3) := by decide +kernel
theorem dX5_readSum_16 : decode cX5_readSum 16 = .ok (.iload_n 1, 1) := by decide +kernel
theorem dX5_readSum_17 : decode cX5_readSum 17 = .ok (.ifCond .eq 103, 3) := by decide +kernel
theorem dX5_readSum_20 : decode cX5_readSum 20 = .ok (.aload_n 0, 1) := by decide +kernel
theorem dX5_readSum_21 : decode cX5_readSum 21 = .ok (.getfield 26, 3) := by decide +kernel
theorem dX5_readSum_24 : decode cX5_readSum 24 = .ok (.getfield 68, 3) := by decide +kernel
theorem dX5_readSum_27 : decode cX5_readSum 27 = .ok (.iconst 3, 1) := by decide +kernel
theorem dX5_readSum_28 : decode cX5_readSum 28 = .ok (.if_icmp .ne 92, 3) := by decide +kernel
theorem dX5_readSum_31 : decode cX5_readSum 31 = .ok (.aload_n 0, 1) := by decide +kernel
theorem dX5_readSum_32 : decode cX5_readSum 32 = .ok (.getfield 26, 3) := by decide +kernel
theorem dX5_readSum_35 : decode cX5_readSum 35 = .ok (.getfield 71, 3) := by decide +kernel
theorem dX5_readSum_38 : decode cX5_readSum 38 = .ok (.invokestatic 114, 3) := by decide +kernel
theorem dX5_readSum_41 : decode cX5_readSum 41 = .ok (.istore 4, 2) := by decide +kernel
theorem dX5_readSum_43 : decode cX5_readSum 43 = .ok (.iload 4, 2) := by decide +kernel
theorem dX5_readSum_45 : decode cX5_readSum 45 = .ok (.iconst (-1), 1) := by decide +kernel
theorem dX5_readSum_46 : decode cX5_readSum 46 = .ok (.if_icmp .ne 6, 3) := by decide +kernel
theorem dX5_readSum_49 : decode cX5_readSum 49 = .ok (.goto 71, 3) := by decide +kernel
theorem dX5_readSum_52 : decode cX5_readSum 52 = .ok (.iload 4, 2) := by decide +kernel
theorem dX5_readSum_54 : decode cX5_readSum 54 = .ok (.bipush (-2), 2) := by decide +kernel
theorem dX5_readSum_56 : decode cX5_readSum 56 = .ok (.if_icmp .eq 10, 3) := by decide +kernel
theorem dX5_readSum_59 : decode cX5_readSum 59 = .ok (.iload 4, 2) := by decide +kernel
theorem dX5_readSum_61 : decode cX5_readSum 61 = .ok (.bipush (-3), 2) := by decide +kernel
theorem dX5_readSum_63 : decode cX5_readSum 63 = .ok (.if_icmp .ne 7, 3) := by decide +kernel
theorem dX5_readSum_66 : decode cX5_readSum 66 = .ok (.iconst 1, 1) := by decide +kernel
theorem dX5_readSum_67 : decode cX5_readSum 67 = .ok (.goto 4, 3) := by decide +kernel
theorem dX5_readSum_70 : decode cX5_readSum 70 = .ok (.iconst 0, 1) := by decide +kernel
theorem dX5_readSum_71 : decode cX5_readSum 71 = .ok (.istore 5, 2) := by decide +kernel
theorem dX5_readSum_73 : decode cX5_readSum 73 = .ok (.iload 5, 2) := by decide +kernel
theorem dX5_readSum_75 : decode cX5_readSum 75 = .ok (.ifCond .eq 16, 3) := by decide +kernel
theorem dX5_readSum_78 : decode cX5_readSum 78 = .ok (.iload_n 2, 1) := by decide +kernel
theorem dX5_readSum_79 : decode cX5_readSum 79 = .ok (.iconst (-1), 1) := by decide +kernel
theorem dX5_readSum_80 : decode cX5_readSum 80 = .ok (.if_icmp .eq 8, 3) := by decide +kernel
theorem dX5_readSum_83 : decode cX5_readSum 83 = .ok (.aload_n 0, 1) := by decide +kernel
theorem dX5_readSum_84 : decode cX5_readSum 84 = .ok (.iload_n 2, 1) := by decide +kernel
theorem dX5_readSum_85 : decode cX5_readSum 85 = .ok (.invokevirtual 88, 3) := by decide +kernel
theorem dX5_readSum_88 : decode cX5_readSum 88 = .ok (.iload 4, 2) := by decide +kernel
theorem dX5_readSum_90 : decode cX5_readSum 90 = .ok (.istore_n 2, 1) := by decide +kernel
theorem dX5_readSum_91 : decode cX5_readSum 91 = .ok (.aload_n 0, 1) := by decide +kernel
theorem dX5_readSum_92 : decode cX5_readSum 92 = .ok (.getfield 26, 3) := by decide +kernel
theorem dX5_readSum_95 : decode cX5_readSum 95 = .ok (.invokevirtual 78, 3) := by decide +kernel
theorem dX5_readSum_98 : decode cX5_readSum 98 = .ok (.aload_n 0, 1) := by decide +kernel
theorem dX5_readSum_99 : decode cX5_readSum 99 = .ok (.invokevirtual 111, 3) := by decide +kernel
theorem dX5_readSum_102 : decode cX5_readSum 102 = .ok (.istore_n 1, 1) := by decide +kernel
theorem dX5_readSum_103 : decode cX5_readSum 103 = .ok (.iload 5, 2) := by decide +kernel
theorem dX5_readSum_105 : decode cX5_readSum 105 = .ok (.ifCond .ne 9, 3) := by decide +kernel
theorem dX5_readSum_108 : decode cX5_readSum 108 = .ok (.aload_n 0, 1) := by decide +kernel
theorem dX5_readSum_109 : decode cX5_readSum 109 = .ok (.iload 4, 2) := by decide +kernel
theorem dX5_readSum_111 : decode cX5_readSum 111 = .ok (.invokevirtual 88, 3) := by decide +kernel
theorem dX5_readSum_114 : decode cX5_readSum 114 = .ok (.iinc 3 1, 3) := by decide +kernel
theorem dX5_readSum_117 : decode cX5_readSum 117 = .ok (.goto (-108), 3) := by decide +kernel
theorem dX5_readSum_120 : decode cX5_readSum 120 = .ok (.iload_n 2, 1) := by decide +kernel
theorem dX5_readSum_121 : decode cX5_readSum 121 = .ok (.iconst (-1), 1) := by decide +kernel
theorem dX5_readSum_122 : decode cX5_readSum 122 = .ok (.if_icmp .eq 8, 3) := by decide +kernel
theorem dX5_readSum_125 : decode cX5_readSum 125 = .ok (.aload_n 0, 1) := by decide +kernel
theorem dX5_readSum_126 : decode cX5_readSum 126 = .ok (.iload_n 2, 1) := by decide +kernel
theorem dX5_readSum_127 : decode cX5_readSum 127 = .ok (.invokevirtual 88, 3) := by decide +kernel
theorem dX5_readSum_130 : decode cX5_readSum 130 = .ok (.iload_n 1, 1) := by decide +kernel
theorem dX5_readSum_131 : decode cX5_readSum 131 = .ok (.ireturn, 1) := by decide +kernel
theorem dX5_readValue_0 : decode cX5_readValue 0 = .ok (.aload_n 0, 1) := by decide +kernel
theorem dX5_readValue_1 : decode cX5_readValue 1 = .ok (.getfield 26, 3) := by decide +kernel
theorem dX5_readValue_4 : decode cX5_readValue 4 = .ok (.getfield 68, 3) := by decide +kernel
theorem dX5_readValue_7 : decode cX5_readValue 7 = .ok (.iconst 2, 1) := by decide +kernel
theorem dX5_readValue_8 : decode cX5_readValue 8 = .ok (.if_icmp .ne 7, 3) := by decide +kernel
theorem dX5_readValue_11 : decode cX5_readValue 11 = .ok (.iconst 1, 1) := by decide +kernel
theorem dX5_readValue_12 : decode cX5_readValue 12 = .ok (.goto 4, 3) := by decide +kernel
theorem dX5_readValue_15 : decode cX5_readValue 15 = .ok (.iconst 0, 1) := by decide +kernel
theorem dX5_readValue_16 : decode cX5_readValue 16 = .ok (.istore_n 1, 1) := by decide +kernel
theorem dX5_readValue_17 : decode cX5_readValue 17 = .ok (.aload_n 0, 1) := by decide +kernel
theorem dX5_readValue_18 : decode cX5_readValue 18 = .ok (.getfield 26, 3) := by decide +kernel
theorem dX5_readValue_21 : decode cX5_readValue 21 = .ok (.getfield 68, 3) := by decide +kernel
theorem dX5_readValue_24 : decode cX5_readValue 24 = .ok (.iconst 1, 1) := by decide +kernel
theorem dX5_readValue_25 : decode cX5_readValue 25 = .ok (.if_icmp .ne 29, 3) := by decide +kernel
theorem dX5_readValue_28 : decode cX5_readValue 28 = .ok (.aload_n 0, 1) := by decide +kernel
theorem dX5_readValue_29 : decode cX5_readValue 29 = .ok (.getfield 26, 3) := by decide +kernel
theorem dX5_readValue_32 : decode cX5_readValue 32 = .ok (.getfield 71, 3) := by decide +kernel
theorem dX5_readValue_35 : decode cX5_readValue 35 = .ok (.ifCond .lt 19, 3) := by decide +kernel
theorem dX5_readValue_38 : decode cX5_readValue 38 = .ok (.aload_n 0, 1) := by decide +kernel
theorem dX5_readValue_39 : decode cX5_readValue 39 = .ok (.getfield 26, 3) := by decide +kernel
theorem dX5_readValue_42 : decode cX5_readValue 42 = .ok (.getfield 71, 3) := by decide +kernel
theorem dX5_readValue_45 : decode cX5_readValue 45 = .ok (.bipush 12, 2) := by decide +kernel
theorem dX5_readValue_47 : decode cX5_readValue 47 = .ok (.if_icmp .ge 7, 3) := by decide +kernel
theorem dX5_readValue_50 : decode cX5_readValue 50 = .ok (.iconst 1, 1) := by decide +kernel
theorem dX5_readValue_51 : decode cX5_readValue 51 = .ok (.goto 4, 3) := by decide +kernel
theorem dX5_readValue_54 : decode cX5_readValue 54 = .ok (.iconst 0, 1) := by decide +kernel
theorem dX5_readValue_55 : decode cX5_readValue 55 = .ok (.istore_n 2, 1) := by decide +kernel
theorem dX5_readValue_56 : decode cX5_readValue 56 = .ok (.iload_n 1, 1) := by decide +kernel
theorem dX5_readValue_57 : decode cX5_readValue 57 = .ok (.ifCond .ne 16, 3) := by decide +kernel
theorem dX5_readValue_60 : decode cX5_readValue 60 = .ok (.iload_n 2, 1) := by decide +kernel
theorem dX5_readValue_61 : decode cX5_readValue 61 = .ok (.ifCond .ne 12, 3) := by decide +kernel
theorem dX5_readValue_64 : decode cX5_readValue 64 = .ok (.aload_n 0, 1) := by decide +kernel
theorem dX5_readValue_65 : decode cX5_readValue 65 = .ok (.getfield 26, 3) := by decide +kernel
theorem dX5_readValue_68 : decode cX5_readValue 68 = .ok (.iconst 0, 1) := by decide +kernel
theorem dX5_readValue_69 : decode cX5_readValue 69 = .ok (.invokevirtual 74, 3) := by decide +kernel
theorem dX5_readValue_72 : decode cX5_readValue 72 = .ok (.ireturn, 1) := by decide +kernel
theorem dX5_readValue_73 : decode cX5_readValue 73 = .ok (.iload_n 1, 1) := by decide +kernel
theorem dX5_readValue_74 : decode cX5_readValue 74 = .ok (.ifCond .eq 23, 3) := by decide +kernel
theorem dX5_readValue_77 : decode cX5_readValue 77 = .ok (.aload_n 0, 1) := by decide +kernel
theorem dX5_readValue_78 : decode cX5_readValue 78 = .ok (.getfield 26, 3) := by decide +kernel
theorem dX5_readValue_81 : decode cX5_readValue 81 = .ok (.getfield 71, 3) := by decide +kernel
theorem dX5_readValue_84 : decode cX5_readValue 84 = .ok (.iconst (-1), 1) := by decide +kernel
theorem dX5_readValue_85 : decode cX5_readValue 85 = .ok (.if_icmp .ne 12, 3) := by decide +kernel
theorem dX5_readValue_88 : decode cX5_readValue 88 = .ok (.aload_n 0, 1) := by decide +kernel
theorem dX5_readValue_89 : decode cX5_readValue 89 = .ok (.getfield 26, 3) := by decide +kernel
theorem dX5_readValue_92 : decode cX5_readValue 92 = .ok (.iconst 1, 1) := by decide +kernel
theorem dX5_readValue_93 : decode cX5_readValue 93 = .ok (.invokevirtual 74, 3) := by decide +kernel
theorem dX5_readValue_96 : decode cX5_readValue 96 = .ok (.ireturn, 1) := by decide +kernel
theorem dX5_readValue_97 : decode cX5_readValue 97 = .ok (.aload_n 0, 1) := by decide +kernel
theorem dX5_readValue_98 : decode cX5_readValue 98 = .ok (.getfield 37, 3) := by decide +kernel
theorem dX5_readValue_101 : decode cX5_readValue 101 = .ok (.bipush 60, 2) := by decide +kernel
theorem dX5_readValue_103 : decode cX5_readValue 103 = .ok (.if_icmp .lt 12, 3) := by decide +kernel
theorem dX5_readValue_106 : decode cX5_readValue 106 = .ok (.aload_n 0, 1) := by decide +kernel
theorem dX5_readValue_107 : decode cX5_readValue 107 = .ok (.getfield 26, 3) := by decide +kernel
theorem dX5_readValue_110 : decode cX5_readValue 110 = .ok (.iconst 3, 1) := by decide +kernel
theorem dX5_readValue_111 : decode cX5_readValue 111 = .ok (.invokevirtual 74, 3) := by decide +kernel
theorem dX5_readValue_114 : decode cX5_readValue 114 = .ok (.ireturn, 1) := by decide +kernel
theorem dX5_readValue_115 : decode cX5_readValue 115 = .ok (.aload_n 0, 1) := by decide +kernel
theorem dX5_readValue_116 : decode cX5_readValue 116 = .ok (.dup, 1) := by decide +kernel
theorem dX5_readValue_117 : decode cX5_readValue 117 = .ok (.getfield 37, 3) := by decide +kernel
theorem dX5_readValue_120 : decode cX5_readValue 120 = .ok (.iconst 1, 1) := by decide +kernel
theorem dX5_readValue_121 : decode cX5_readValue 121 = .ok (.iadd, 1) := by decide +kernel
theorem dX5_readValue_122 : decode cX5_readValue 122 = .ok (.putfield 37, 3) := by decide +kernel
theorem dX5_readValue_125 : decode cX5_readValue 125 = .ok (.aload_n 0, 1) := by decide +kernel
theorem dX5_readValue_126 : decode cX5_readValue 126 = .ok (.iload_n 1, 1) := by decide +kernel
theorem dX5_readValue_127 : decode cX5_readValue 127 = .ok (.ifCond .eq 13, 3) := by decide +kernel
theorem dX5_readValue_130 : decode cX5_readValue 130 = .ok (.aload_n 0, 1) := by decide +kernel
theorem dX5_readValue_131 : decode cX5_readValue 131 = .ok (.getfield 26, 3) := by decide +kernel
theorem dX5_readValue_134 : decode cX5_readValue 134 = .ok (.getfield 71, 3) := by decide +kernel
theorem dX5_readValue_137 : decode cX5_readValue 137 = .ok (.goto 13, 3) := by decide +kernel
theorem dX5_readValue_140 : decode cX5_readValue 140 = .ok (.bipush (-20), 2) := by decide +kernel
theorem dX5_readValue_142 : decode cX5_readValue 142 = .ok (.aload_n 0, 1) := by decide +kernel
theorem dX5_readValue_143 : decode cX5_readValue 143 = .ok (.getfield 26, 3) := by decide +kernel
theorem dX5_readValue_146 : decode cX5_readValue 146 = .ok (.getfield 71, 3) := by decide +kernel
theorem dX5_readValue_149 : decode cX5_readValue 149 = .ok (.isub, 1) := by decide +kernel
theorem dX5_readValue_150 : decode cX5_readValue 150 = .ok (.invokevirtual 88, 3) := by decide +kernel
theorem dX5_readValue_153 : decode cX5_readValue 153 = .ok (.aload_n 0, 1) := by decide +kernel
theorem dX5_readValue_154 : decode cX5_readValue 154 = .ok (.getfield 26, 3) := by decide +kernel
theorem dX5_readValue_157 : decode cX5_readValue 157 = .ok (.invokevirtual 78, 3) := by decide +kernel
theorem dX5_readValue_160 : decode cX5_readValue 160 = .ok (.iconst 1, 1) := by decide +kernel
theorem dX5_readValue_161 : decode cX5_readValue 161 = .ok (.ireturn, 1) := by decide +kernel
theorem dX5_put_0 : decode cX5_put 0 = .ok (.aload_n 0, 1) := by decide +kernel
theorem dX5_put_1 : decode cX5_put 1 = .ok (.getfield 30, 3) := by decide +kernel
theorem dX5_put_4 : decode cX5_put 4 = .ok (.aload_n 0, 1) := by decide +kernel
theorem dX5_put_5 : decode cX5_put 5 = .ok (.getfield 13, 3) := by decide +kernel
theorem dX5_put_8 : decode cX5_put 8 = .ok (.arraylength, 1) := by decide +kernel
theorem dX5_put_9 : decode cX5_put 9 = .ok (.if_icmp .ge 23, 3) := by decide +kernel
theorem dX5_put_12 : decode cX5_put 12 = .ok (.aload_n 0, 1) := by decide +kernel
theorem dX5_put_13 : decode cX5_put 13 = .ok (.getfield 13, 3) := by decide +kernel
theorem dX5_put_16 : decode cX5_put 16 = .ok (.aload_n 0, 1) := by decide +kernel
theorem dX5_put_17 : decode cX5_put 17 = .ok (.getfield 30, 3) := by decide +kernel
theorem dX5_put_20 : decode cX5_put 20 = .ok (.iload_n 1, 1) := by decide +kernel
theorem dX5_put_21 : decode cX5_put 21 = .ok (.iastore, 1) := by decide +kernel
theorem dX5_put_22 : decode cX5_put 22 = .ok (.aload_n 0, 1) := by decide +kernel
theorem dX5_put_23 : decode cX5_put 23 = .ok (.dup, 1) := by decide +kernel
theorem dX5_put_24 : decode cX5_put 24 = .ok (.getfield 30, 3) := by decide +kernel
theorem dX5_put_27 : decode cX5_put 27 = .ok (.iconst 1, 1) := by decide +kernel
theorem dX5_put_28 : decode cX5_put 28 = .ok (.iadd, 1) := by decide +kernel
theorem dX5_put_29 : decode cX5_put 29 = .ok (.putfield 30, 3) := by decide +kernel
theorem dX5_put_32 : decode cX5_put 32 = .ok (.return_, 1) := by decide +kernel
theorem dX6_init_0 : decode cX6_init 0 = .ok (.aload_n 0, 1) := by decide +kernel
theorem dX6_init_1 : decode cX6_init 1 = .ok (.invokespecial 3, 3) := by decide +kernel
theorem dX6_init_4 : decode cX6_init 4 = .ok (.aload_n 0, 1) := by decide +kernel
theorem dX6_init_5 : decode cX6_init 5 = .ok (.bipush 20, 2) := by decide +kernel
theorem dX6_init_7 : decode cX6_init 7 = .ok (.putfield 9, 3) := by decide +kernel
theorem dX6_init_10 : decode cX6_init 10 = .ok (.aload_n 0, 1) := by decide +kernel
theorem dX6_init_11 : decode cX6_init 11 = .ok (.bipush 20, 2) := by decide +kernel
theorem dX6_init_13 : decode cX6_init 13 = .ok (.putfield 15, 3) := by decide +kernel
theorem dX6_init_16 : decode cX6_init 16 = .ok (.aload_n 0, 1) := by decide +kernel
theorem dX6_init_17 : decode cX6_init 17 = .ok (.sipush 1600, 3) := by decide +kernel
theorem dX6_init_20 : decode cX6_init 20 = .ok (.newarray .int, 2) := by decide +kernel
theorem dX6_init_22 : decode cX6_init 22 = .ok (.putfield 18, 3) := by decide +kernel
theorem dX6_init_25 : decode cX6_init 25 = .ok (.aload_n 0, 1) := by decide +kernel
theorem dX6_init_26 : decode cX6_init 26 = .ok (.sipush 144, 3) := by decide +kernel
theorem dX6_init_29 : decode cX6_init 29 = .ok (.newarray .int, 2) := by decide +kernel
theorem dX6_init_31 : decode cX6_init 31 = .ok (.putfield 22, 3) := by decide +kernel
theorem dX6_init_34 : decode cX6_init 34 = .ok (.aload_n 0, 1) := by decide +kernel
theorem dX6_init_35 : decode cX6_init 35 = .ok (.bipush 31, 2) := by decide +kernel
theorem dX6_init_37 : decode cX6_init 37 = .ok (.anewarray 25, 3) := by decide +kernel
theorem dX6_init_40 : decode cX6_init 40 = .ok (.putfield 27, 3) := by decide +kernel
theorem dX6_init_43 : decode cX6_init 43 = .ok (.aload_n 0, 1) := by decide +kernel
theorem dX6_init_44 : decode cX6_init 44 = .ok (.bipush 6, 2) := by decide +kernel
theorem dX6_init_46 : decode cX6_init 46 = .ok (.anewarray 31, 3) := by decide +kernel
theorem dX6_init_49 : decode cX6_init 49 = .ok (.putfield 33, 3) := by decide +kernel
theorem dX6_init_52 : decode cX6_init 52 = .ok (.aload_n 0, 1) := by decide +kernel
theorem dX6_init_53 : decode cX6_init 53 = .ok (.getfield 18, 3) := by decide +kernel
theorem dX6_init_56 : decode cX6_init 56 = .ok (.iconst 1, 1) := by decide +kernel
theorem dX6_init_57 : decode cX6_init 57 = .ok (.invokestatic 37, 3) := by decide +kernel
theorem dX6_init_60 : decode cX6_init 60 = .ok (.iconst 0, 1) := by decide +kernel
theorem dX6_init_61 : decode cX6_init 61 = .ok (.istore_n 1, 1) := by decide +kernel
theorem dX6_init_62 : decode cX6_init 62 = .ok (.iload_n 1, 1) := by decide +kernel
theorem dX6_init_63 : decode cX6_init 63 = .ok (.bipush 31, 2) := by decide +kernel
theorem dX6_init_65 : decode cX6_init 65 = .ok (.if_icmp .ge 22, 3) := by decide +kernel
theorem dX6_init_68 : decode cX6_init 68 = .ok (.aload_n 0, 1) := by decide +kernel
theorem dX6_init_69 : decode cX6_init 69 = .ok (.getfield 27, 3) := by decide +kernel
theorem dX6_init_72 : decode cX6_init 72 = .ok (.iload_n 1, 1) := by decide +kernel
theorem dX6_init_73 : decode cX6_init 73 = .ok (.new 25, 3) := by decide +kernel
theorem dX6_init_76 : decode cX6_init 76 = .ok (.dup, 1) := by decide +kernel
theorem dX6_init_77 : decode cX6_init 77 = .ok (.invokespecial 43, 3) := by decide +kernel
theorem dX6_init_80 : decode cX6_init 80 = .ok (.aastore, 1) := by decide +kernel
theorem dX6_init_81 : decode cX6_init 81 = .ok (.iinc 1 1, 3) := by decide +kernel
theorem dX6_init_84 : decode cX6_init 84 = .ok (.goto (-22), 3) := by decide +kernel
theorem dX6_init_87 : decode cX6_init 87 = .ok (.iconst 0, 1) := by decide +kernel
theorem dX6_init_88 : decode cX6_init 88 = .ok (.istore_n 1, 1) := by decide +kernel
theorem dX6_init_89 : decode cX6_init 89 = .ok (.iload_n 1, 1) := by decide +kernel
theorem dX6_init_90 : decode cX6_init 90 = .ok (.bipush 6, 2) := by decide +kernel
theorem dX6_init_92 : decode cX6_init 92 = .ok (.if_icmp .ge 22, 3) := by decide +kernel
theorem dX6_init_95 : decode cX6_init 95 = .ok (.aload_n 0, 1) := by decide +kernel
theorem dX6_init_96 : decode cX6_init 96 = .ok (.getfield 33, 3) := by decide +kernel
theorem dX6_init_99 : decode cX6_init 99 = .ok (.iload_n 1, 1) := by decide +kernel
theorem dX6_init_100 : decode cX6_init 100 = .ok (.new 31, 3) := by decide +kernel
theorem dX6_init_103 : decode cX6_init 103 = .ok (.dup, 1) := by decide +kernel
theorem dX6_init_104 : decode cX6_init 104 = .ok (.invokespecial 44, 3) := by decide +kernel
theorem dX6_init_107 : decode cX6_init 107 = .ok (.aastore, 1) := by decide +kernel
theorem dX6_init_108 : decode cX6_init 108 = .ok (.iinc 1 1, 3) := by decide +kernel
theorem dX6_init_111 : decode cX6_init 111 = .ok (.goto (-22), 3) := by decide +kernel
theorem dX6_init_114 : decode cX6_init 114 = .ok (.return_, 1) := by decide +kernel
theorem dX6_copyFrom_0 : decode cX6_copyFrom 0 = .ok (.aload_n 0, 1) := by decide +kernel
theorem dX6_copyFrom_1 : decode cX6_copyFrom 1 = .ok (.aload_n 1, 1) := by decide +kernel
theorem dX6_copyFrom_2 : decode cX6_copyFrom 2 = .ok (.getfield 9, 3) := by decide +kernel
theorem dX6_copyFrom_5 : decode cX6_copyFrom 5 = .ok (.putfield 9, 3) := by decide +kernel
theorem dX6_copyFrom_8 : decode cX6_copyFrom 8 = .ok (.aload_n 0, 1) := by decide +kernel
theorem dX6_copyFrom_9 : decode cX6_copyFrom 9 = .ok (.aload_n 1, 1) := by decide +kernel
theorem dX6_copyFrom_10 : decode cX6_copyFrom 10 = .ok (.getfield 15, 3) := by decide +kernel
theorem dX6_copyFrom_13 : decode cX6_copyFrom 13 = .ok (.putfield 15, 3) := by decide +kernel
theorem dX6_copyFrom_16 : decode cX6_copyFrom 16 = .ok (.aload_n 0, 1) := by decide +kernel
theorem dX6_copyFrom_17 : decode cX6_copyFrom 17 = .ok (.aload_n 1, 1) := by decide +kernel
theorem dX6_copyFrom_18 : decode cX6_copyFrom 18 = .ok (.getfield 45, 3) := by decide +kernel
theorem dX6_copyFrom_21 : decode cX6_copyFrom 21 = .ok (.putfield 45, 3) := by decide +kernel
theorem dX6_copyFrom_24 : decode cX6_copyFrom 24 = .ok (.aload_n 0, 1) := by decide +kernel
theorem dX6_copyFrom_25 : decode cX6_copyFrom 25 = .ok (.aload_n 1, 1) := by decide +kernel
theorem dX6_copyFrom_26 : decode cX6_copyFrom 26 = .ok (.getfield 48, 3) := by decide +kernel
theorem dX6_copyFrom_29 : decode cX6_copyFrom 29 = .ok (.putfield 48, 3) := by decide +kernel
theorem dX6_copyFrom_32 : decode cX6_copyFrom 32 = .ok (.aload_n 0, 1) := by decide +kernel
theorem dX6_copyFrom_33 : decode cX6_copyFrom 33 = .ok (.aload_n 1, 1) := by decide +kernel
theorem dX6_copyFrom_34 : decode cX6_copyFrom 34 = .ok (.invokevirtual 51, 3) := by decide +kernel
theorem dX6_copyFrom_37 : decode cX6_copyFrom 37 = .ok (.aload_n 1, 1) := by decide +kernel
theorem dX6_copyFrom_38 : decode cX6_copyFrom 38 = .ok (.getfield 18, 3) := by decide +kernel
theorem dX6_copyFrom_41 : decode cX6_copyFrom 41 = .ok (.iconst 0, 1) := by decide +kernel
theorem dX6_copyFrom_42 : decode cX6_copyFrom 42 = .ok (.aload_n 0, 1) := by decide +kernel
theorem dX6_copyFrom_43 : decode cX6_copyFrom 43 = .ok (.getfield 18, 3) := by decide +kernel
theorem dX6_copyFrom_46 : decode cX6_copyFrom 46 = .ok (.iconst 0, 1) := by decide +kernel
theorem dX6_copyFrom_47 : decode cX6_copyFrom 47 = .ok (.sipush 1600, 3) := by decide +kernel
theorem dX6_copyFrom_50 : decode cX6_copyFrom 50 = .ok (.invokestatic 55, 3) := by decide +kernel
theorem dX6_copyFrom_53 : decode cX6_copyFrom 53 = .ok (.iconst 0, 1) := by decide +kernel
theorem dX6_copyFrom_54 : decode cX6_copyFrom 54 = .ok (.istore_n 2, 1) := by decide +kernel
theorem dX6_copyFrom_55 : decode cX6_copyFrom 55 = .ok (.iload_n 2, 1) := by decide +kernel
theorem dX6_copyFrom_56 : decode cX6_copyFrom 56 = .ok (.bipush 31, 2) := by decide +kernel
theorem dX6_copyFrom_58 : decode cX6_copyFrom 58 = .ok (.if_icmp .ge 24, 3) := by decide +kernel
theorem dX6_copyFrom_61 : decode cX6_copyFrom 61 = .ok (.aload_n 0, 1) := by decide +kernel
theorem dX6_copyFrom_62 : decode cX6_copyFrom 62 = .ok (.getfield 27, 3) := by decide +kernel
theorem dX6_copyFrom_65 : decode cX6_copyFrom 65 = .ok (.iload_n 2, 1) := by decide +kernel
theorem dX6_copyFrom_66 : decode cX6_copyFrom 66 = .ok (.aaload, 1) := by decide +kernel
theorem dX6_copyFrom_67 : decode cX6_copyFrom 67 = .ok (.aload_n 1, 1) := by decide +kernel
theorem dX6_copyFrom_68 : decode cX6_copyFrom 68 = .ok (.getfield 27, 3) := by decide +kernel
theorem dX6_copyFrom_71 : decode cX6_copyFrom 71 = .ok (.iload_n 2, 1) := by decide +kernel
theorem dX6_copyFrom_72 : decode cX6_copyFrom 72 = .ok (.aaload, 1) := by decide +kernel
theorem dX6_copyFrom_73 : decode cX6_copyFrom 73 = .ok (.invokevirtual 61, 3) := by decide +kernel
theorem dX6_copyFrom_76 : decode cX6_copyFrom 76 = .ok (.iinc 2 1, 3) := by decide +kernel
theorem dX6_copyFrom_79 : decode cX6_copyFrom 79 = .ok (.goto (-24), 3) := by decide +kernel
theorem dX6_copyFrom_82 : decode cX6_copyFrom 82 = .ok (.iconst 0, 1) := by decide +kernel
theorem dX6_copyFrom_83 : decode cX6_copyFrom 83 = .ok (.istore_n 2, 1) := by decide +kernel
theorem dX6_copyFrom_84 : decode cX6_copyFrom 84 = .ok (.iload_n 2, 1) := by decide +kernel
theorem dX6_copyFrom_85 : decode cX6_copyFrom 85 = .ok (.bipush 6, 2) := by decide +kernel
theorem dX6_copyFrom_87 : decode cX6_copyFrom 87 = .ok (.if_icmp .ge 24, 3) := by decide +kernel
theorem dX6_copyFrom_90 : decode cX6_copyFrom 90 = .ok (.aload_n 0, 1) := by decide +kernel
theorem dX6_copyFrom_91 : decode cX6_copyFrom 91 = .ok (.getfield 33, 3) := by decide +kernel
theorem dX6_copyFrom_94 : decode cX6_copyFrom 94 = .ok (.iload_n 2, 1) := by decide +kernel
theorem dX6_copyFrom_95 : decode cX6_copyFrom 95 = .ok (.aaload, 1) := by decide +kernel
theorem dX6_copyFrom_96 : decode cX6_copyFrom 96 = .ok (.aload_n 1, 1) := by decide +kernel
theorem dX6_copyFrom_97 : decode cX6_copyFrom 97 = .ok (.getfield 33, 3) := by decide +kernel
theorem dX6_copyFrom_100 : decode cX6_copyFrom 100 = .ok (.iload_n 2, 1) := by decide +kernel
theorem dX6_copyFrom_101 : decode cX6_copyFrom 101 = .ok (.aaload, 1) := by decide +kernel
theorem dX6_copyFrom_102 : decode cX6_copyFrom 102 = .ok (.invokevirtual 65, 3) := by decide +kernel
theorem dX6_copyFrom_105 : decode cX6_copyFrom 105 = .ok (.iinc 2 1, 3) := by decide +kernel
theorem dX6_copyFrom_108 : decode cX6_copyFrom 108 = .ok (.goto (-24), 3) := by decide +kernel
theorem dX6_copyFrom_111 : decode cX6_copyFrom 111 = .ok (.return_, 1) := by decide +kernel
theorem dX6_keepFeelings_0 : decode cX6_keepFeelings 0 = .ok (.aload_n 0, 1) := by decide +kernel
theorem dX6_keepFeelings_1 : decode cX6_keepFeelings 1 = .ok (.aload_n 1, 1) := by decide +kernel
theorem dX6_keepFeelings_2 : decode cX6_keepFeelings 2 = .ok (.getfield 68, 3) := by decide +kernel
theorem dX6_keepFeelings_5 : decode cX6_keepFeelings 5 = .ok (.putfield 68, 3) := by decide +kernel
theorem dX6_keepFeelings_8 : decode cX6_keepFeelings 8 = .ok (.aload_n 1, 1) := by decide +kernel
theorem dX6_keepFeelings_9 : decode cX6_keepFeelings 9 = .ok (.getfield 22, 3) := by decide +kernel
theorem dX6_keepFeelings_12 : decode cX6_keepFeelings 12 = .ok (.iconst 0, 1) := by decide +kernel
theorem dX6_keepFeelings_13 : decode cX6_keepFeelings 13 = .ok (.aload_n 0, 1) := by decide +kernel
theorem dX6_keepFeelings_14 : decode cX6_keepFeelings 14 = .ok (.getfield 22, 3) := by decide +kernel
theorem dX6_keepFeelings_17 : decode cX6_keepFeelings 17 = .ok (.iconst 0, 1) := by decide +kernel
theorem dX6_keepFeelings_18 : decode cX6_keepFeelings 18 = .ok (.aload_n 0, 1) := by decide +kernel
theorem dX6_keepFeelings_19 : decode cX6_keepFeelings 19 = .ok (.getfield 22, 3) := by decide +kernel
theorem dX6_keepFeelings_22 : decode cX6_keepFeelings 22 = .ok (.arraylength, 1) := by decide +kernel
theorem dX6_keepFeelings_23 : decode cX6_keepFeelings 23 = .ok (.invokestatic 55, 3) := by decide +kernel
theorem dX6_keepFeelings_26 : decode cX6_keepFeelings 26 = .ok (.return_, 1) := by decide +kernel
theorem dX6_wipe_0 : decode cX6_wipe 0 = .ok (.aload_n 0, 1) := by decide +kernel
theorem dX6_wipe_1 : decode cX6_wipe 1 = .ok (.bipush 20, 2) := by decide +kernel
theorem dX6_wipe_3 : decode cX6_wipe 3 = .ok (.putfield 9, 3) := by decide +kernel
theorem dX6_wipe_6 : decode cX6_wipe 6 = .ok (.aload_n 0, 1) := by decide +kernel
theorem dX6_wipe_7 : decode cX6_wipe 7 = .ok (.bipush 20, 2) := by decide +kernel
theorem dX6_wipe_9 : decode cX6_wipe 9 = .ok (.putfield 15, 3) := by decide +kernel
theorem dX6_wipe_12 : decode cX6_wipe 12 = .ok (.aload_n 0, 1) := by decide +kernel
theorem dX6_wipe_13 : decode cX6_wipe 13 = .ok (.iconst 0, 1) := by decide +kernel
theorem dX6_wipe_14 : decode cX6_wipe 14 = .ok (.putfield 45, 3) := by decide +kernel
theorem dX6_wipe_17 : decode cX6_wipe 17 = .ok (.aload_n 0, 1) := by decide +kernel
theorem dX6_wipe_18 : decode cX6_wipe 18 = .ok (.iconst 0, 1) := by decide +kernel
theorem dX6_wipe_19 : decode cX6_wipe 19 = .ok (.putfield 48, 3) := by decide +kernel
theorem dX6_wipe_22 : decode cX6_wipe 22 = .ok (.aload_n 0, 1) := by decide +kernel
theorem dX6_wipe_23 : decode cX6_wipe 23 = .ok (.getfield 18, 3) := by decide +kernel
theorem dX6_wipe_26 : decode cX6_wipe 26 = .ok (.iconst 1, 1) := by decide +kernel
theorem dX6_wipe_27 : decode cX6_wipe 27 = .ok (.invokestatic 37, 3) := by decide +kernel
theorem dX6_wipe_30 : decode cX6_wipe 30 = .ok (.iconst 0, 1) := by decide +kernel
theorem dX6_wipe_31 : decode cX6_wipe 31 = .ok (.istore_n 1, 1) := by decide +kernel
theorem dX6_wipe_32 : decode cX6_wipe 32 = .ok (.iload_n 1, 1) := by decide +kernel
theorem dX6_wipe_33 : decode cX6_wipe 33 = .ok (.bipush 31, 2) := by decide +kernel
theorem dX6_wipe_35 : decode cX6_wipe 35 = .ok (.if_icmp .ge 19, 3) := by decide +kernel
theorem dX6_wipe_38 : decode cX6_wipe 38 = .ok (.aload_n 0, 1) := by decide +kernel
theorem dX6_wipe_39 : decode cX6_wipe 39 = .ok (.getfield 27, 3) := by decide +kernel
theorem dX6_wipe_42 : decode cX6_wipe 42 = .ok (.iload_n 1, 1) := by decide +kernel
theorem dX6_wipe_43 : decode cX6_wipe 43 = .ok (.aaload, 1) := by decide +kernel
theorem dX6_wipe_44 : decode cX6_wipe 44 = .ok (.iconst 0, 1) := by decide +kernel
theorem dX6_wipe_45 : decode cX6_wipe 45 = .ok (.putfield 71, 3) := by decide +kernel
theorem dX6_wipe_48 : decode cX6_wipe 48 = .ok (.iinc 1 1, 3) := by decide +kernel
theorem dX6_wipe_51 : decode cX6_wipe 51 = .ok (.goto (-19), 3) := by decide +kernel
theorem dX6_wipe_54 : decode cX6_wipe 54 = .ok (.iconst 0, 1) := by decide +kernel
theorem dX6_wipe_55 : decode cX6_wipe 55 = .ok (.istore_n 1, 1) := by decide +kernel
theorem dX6_wipe_56 : decode cX6_wipe 56 = .ok (.iload_n 1, 1) := by decide +kernel
theorem dX6_wipe_57 : decode cX6_wipe 57 = .ok (.bipush 6, 2) := by decide +kernel
theorem dX6_wipe_59 : decode cX6_wipe 59 = .ok (.if_icmp .ge 19, 3) := by decide +kernel
theorem dX6_wipe_62 : decode cX6_wipe 62 = .ok (.aload_n 0, 1) := by decide +kernel
theorem dX6_wipe_63 : decode cX6_wipe 63 = .ok (.getfield 33, 3) := by decide +kernel
theorem dX6_wipe_66 : decode cX6_wipe 66 = .ok (.iload_n 1, 1) := by decide +kernel
theorem dX6_wipe_67 : decode cX6_wipe 67 = .ok (.aaload, 1) := by decide +kernel
theorem dX6_wipe_68 : decode cX6_wipe 68 = .ok (.iconst 0, 1) := by decide +kernel
theorem dX6_wipe_69 : decode cX6_wipe 69 = .ok (.putfield 75, 3) := by decide +kernel
theorem dX6_wipe_72 : decode cX6_wipe 72 = .ok (.iinc 1 1, 3) := by decide +kernel
theorem dX6_wipe_75 : decode cX6_wipe 75 = .ok (.goto (-19), 3) := by decide +kernel
theorem dX6_wipe_78 : decode cX6_wipe 78 = .ok (.return_, 1) := by decide +kernel
theorem dX6_hasCell_0 : decode cX6_hasCell 0 = .ok (.iload_n 1, 1) := by decide +kernel
theorem dX6_hasCell_1 : decode cX6_hasCell 1 = .ok (.ifCond .lt 27, 3) := by decide +kernel
theorem dX6_hasCell_4 : decode cX6_hasCell 4 = .ok (.iload_n 1, 1) := by decide +kernel
theorem dX6_hasCell_5 : decode cX6_hasCell 5 = .ok (.aload_n 0, 1) := by decide +kernel
theorem dX6_hasCell_6 : decode cX6_hasCell 6 = .ok (.getfield 9, 3) := by decide +kernel
theorem dX6_hasCell_9 : decode cX6_hasCell 9 = .ok (.if_icmp .ge 19, 3) := by decide +kernel
theorem dX6_hasCell_12 : decode cX6_hasCell 12 = .ok (.iload_n 2, 1) := by decide +kernel
theorem dX6_hasCell_13 : decode cX6_hasCell 13 = .ok (.ifCond .lt 15, 3) := by decide +kernel
theorem dX6_hasCell_16 : decode cX6_hasCell 16 = .ok (.iload_n 2, 1) := by decide +kernel
theorem dX6_hasCell_17 : decode cX6_hasCell 17 = .ok (.aload_n 0, 1) := by decide +kernel
theorem dX6_hasCell_18 : decode cX6_hasCell 18 = .ok (.getfield 15, 3) := by decide +kernel
theorem dX6_hasCell_21 : decode cX6_hasCell 21 = .ok (.if_icmp .ge 7, 3) := by decide +kernel
theorem dX6_hasCell_24 : decode cX6_hasCell 24 = .ok (.iconst 1, 1) := by decide +kernel
theorem dX6_hasCell_25 : decode cX6_hasCell 25 = .ok (.goto 4, 3) := by decide +kernel
theorem dX6_hasCell_28 : decode cX6_hasCell 28 = .ok (.iconst 0, 1) := by decide +kernel
theorem dX6_hasCell_29 : decode cX6_hasCell 29 = .ok (.ireturn, 1) := by decide +kernel
theorem dX6_hasEnds_0 : decode cX6_hasEnds 0 = .ok (.aload_n 0, 1) := by decide +kernel
theorem dX6_hasEnds_1 : decode cX6_hasEnds 1 = .ok (.aload_n 1, 1) := by decide +kernel
theorem dX6_hasEnds_2 : decode cX6_hasEnds 2 = .ok (.getfield 78, 3) := by decide +kernel
theorem dX6_hasEnds_5 : decode cX6_hasEnds 5 = .ok (.aload_n 1, 1) := by decide +kernel
theorem dX6_hasEnds_6 : decode cX6_hasEnds 6 = .ok (.getfield 81, 3) := by decide +kernel
theorem dX6_hasEnds_9 : decode cX6_hasEnds 9 = .ok (.invokevirtual 84, 3) := by decide +kernel
theorem dX6_hasEnds_12 : decode cX6_hasEnds 12 = .ok (.ifCond .eq 22, 3) := by decide +kernel
theorem dX6_hasEnds_15 : decode cX6_hasEnds 15 = .ok (.aload_n 0, 1) := by decide +kernel
theorem dX6_hasEnds_16 : decode cX6_hasEnds 16 = .ok (.aload_n 1, 1) := by decide +kernel
theorem dX6_hasEnds_17 : decode cX6_hasEnds 17 = .ok (.getfield 88, 3) := by decide +kernel
theorem dX6_hasEnds_20 : decode cX6_hasEnds 20 = .ok (.aload_n 1, 1) := by decide +kernel
theorem dX6_hasEnds_21 : decode cX6_hasEnds 21 = .ok (.getfield 91, 3) := by decide +kernel
theorem dX6_hasEnds_24 : decode cX6_hasEnds 24 = .ok (.invokevirtual 84, 3) := by decide +kernel
theorem dX6_hasEnds_27 : decode cX6_hasEnds 27 = .ok (.ifCond .eq 7, 3) := by decide +kernel
theorem dX6_hasEnds_30 : decode cX6_hasEnds 30 = .ok (.iconst 1, 1) := by decide +kernel
theorem dX6_hasEnds_31 : decode cX6_hasEnds 31 = .ok (.goto 4, 3) := by decide +kernel
theorem dX6_hasEnds_34 : decode cX6_hasEnds 34 = .ok (.iconst 0, 1) := by decide +kernel
theorem dX6_hasEnds_35 : decode cX6_hasEnds 35 = .ok (.ireturn, 1) := by decide +kernel
theorem dX6_holds_0 : decode cX6_holds 0 = .ok (.aload_n 1, 1) := by decide +kernel
theorem dX6_holds_1 : decode cX6_holds 1 = .ok (.getfield 94, 3) := by decide +kernel
theorem dX6_holds_4 : decode cX6_holds 4 = .ok (.ifCond .lt 58, 3) := by decide +kernel
theorem dX6_holds_7 : decode cX6_holds 7 = .ok (.aload_n 1, 1) := by decide +kernel
theorem dX6_holds_8 : decode cX6_holds 8 = .ok (.getfield 97, 3) := by decide +kernel
theorem dX6_holds_11 : decode cX6_holds 11 = .ok (.ifCond .lt 51, 3) := by decide +kernel
theorem dX6_holds_14 : decode cX6_holds 14 = .ok (.aload_n 1, 1) := by decide +kernel
theorem dX6_holds_15 : decode cX6_holds 15 = .ok (.getfield 94, 3) := by decide +kernel
theorem dX6_holds_18 : decode cX6_holds 18 = .ok (.aload_n 1, 1) := by decide +kernel
theorem dX6_holds_19 : decode cX6_holds 19 = .ok (.getfield 98, 3) := by decide +kernel
theorem dX6_holds_22 : decode cX6_holds 22 = .ok (.if_icmp .ge 40, 3) := by decide +kernel
theorem dX6_holds_25 : decode cX6_holds 25 = .ok (.aload_n 1, 1) := by decide +kernel
theorem dX6_holds_26 : decode cX6_holds 26 = .ok (.getfield 97, 3) := by decide +kernel
theorem dX6_holds_29 : decode cX6_holds 29 = .ok (.aload_n 1, 1) := by decide +kernel
theorem dX6_holds_30 : decode cX6_holds 30 = .ok (.getfield 99, 3) := by decide +kernel
theorem dX6_holds_33 : decode cX6_holds 33 = .ok (.if_icmp .ge 29, 3) := by decide +kernel
theorem dX6_holds_36 : decode cX6_holds 36 = .ok (.aload_n 1, 1) := by decide +kernel
theorem dX6_holds_37 : decode cX6_holds 37 = .ok (.getfield 98, 3) := by decide +kernel
theorem dX6_holds_40 : decode cX6_holds 40 = .ok (.aload_n 0, 1) := by decide +kernel
theorem dX6_holds_41 : decode cX6_holds 41 = .ok (.getfield 9, 3) := by decide +kernel
theorem dX6_holds_44 : decode cX6_holds 44 = .ok (.if_icmp .gt 18, 3) := by decide +kernel
theorem dX6_holds_47 : decode cX6_holds 47 = .ok (.aload_n 1, 1) := by decide +kernel
theorem dX6_holds_48 : decode cX6_holds 48 = .ok (.getfield 99, 3) := by decide +kernel
theorem dX6_holds_51 : decode cX6_holds 51 = .ok (.aload_n 0, 1) := by decide +kernel
theorem dX6_holds_52 : decode cX6_holds 52 = .ok (.getfield 15, 3) := by decide +kernel
theorem dX6_holds_55 : decode cX6_holds 55 = .ok (.if_icmp .gt 7, 3) := by decide +kernel
theorem dX6_holds_58 : decode cX6_holds 58 = .ok (.iconst 1, 1) := by decide +kernel
theorem dX6_holds_59 : decode cX6_holds 59 = .ok (.goto 4, 3) := by decide +kernel
theorem dX6_holds_62 : decode cX6_holds 62 = .ok (.iconst 0, 1) := by decide +kernel
theorem dX6_holds_63 : decode cX6_holds 63 = .ok (.ireturn, 1) := by decide +kernel
theorem dX6_isThere_0 : decode cX6_isThere 0 = .ok (.iload_n 1, 1) := by decide +kernel
theorem dX6_isThere_1 : decode cX6_isThere 1 = .ok (.ifCond .lt 25, 3) := by decide +kernel
theorem dX6_isThere_4 : decode cX6_isThere 4 = .ok (.iload_n 1, 1) := by decide +kernel
theorem dX6_isThere_5 : decode cX6_isThere 5 = .ok (.bipush 30, 2) := by decide +kernel
theorem dX6_isThere_7 : decode cX6_isThere 7 = .ok (.if_icmp .ge 19, 3) := by decide +kernel
theorem dX6_isThere_10 : decode cX6_isThere 10 = .ok (.aload_n 0, 1) := by decide +kernel
theorem dX6_isThere_11 : decode cX6_isThere 11 = .ok (.getfield 27, 3) := by decide +kernel
theorem dX6_isThere_14 : decode cX6_isThere 14 = .ok (.iload_n 1, 1) := by decide +kernel
theorem dX6_isThere_15 : decode cX6_isThere 15 = .ok (.aaload, 1) := by decide +kernel
theorem dX6_isThere_16 : decode cX6_isThere 16 = .ok (.getfield 71, 3) := by decide +kernel
theorem dX6_isThere_19 : decode cX6_isThere 19 = .ok (.ifCond .eq 7, 3) := by decide +kernel
theorem dX6_isThere_22 : decode cX6_isThere 22 = .ok (.iconst 1, 1) := by decide +kernel
theorem dX6_isThere_23 : decode cX6_isThere 23 = .ok (.goto 4, 3) := by decide +kernel
theorem dX6_isThere_26 : decode cX6_isThere 26 = .ok (.iconst 0, 1) := by decide +kernel
theorem dX6_isThere_27 : decode cX6_isThere 27 = .ok (.ireturn, 1) := by decide +kernel
theorem dX6_isWall_0 : decode cX6_isWall 0 = .ok (.iload_n 1, 1) := by decide +kernel
theorem dX6_isWall_1 : decode cX6_isWall 1 = .ok (.bipush 6, 2) := by decide +kernel
theorem dX6_isWall_3 : decode cX6_isWall 3 = .ok (.if_icmp .lt 15, 3) := by decide +kernel
theorem dX6_isWall_6 : decode cX6_isWall 6 = .ok (.aload_n 0, 1) := by decide +kernel
theorem dX6_isWall_7 : decode cX6_isWall 7 = .ok (.iload_n 1, 1) := by decide +kernel
theorem dX6_isWall_8 : decode cX6_isWall 8 = .ok (.invokevirtual 100, 3) := by decide +kernel
theorem dX6_isWall_11 : decode cX6_isWall 11 = .ok (.ifCond .eq 7, 3) := by decide +kernel
theorem dX6_isWall_14 : decode cX6_isWall 14 = .ok (.iconst 1, 1) := by decide +kernel
theorem dX6_isWall_15 : decode cX6_isWall 15 = .ok (.goto 4, 3) := by decide +kernel
theorem dX6_isWall_18 : decode cX6_isWall 18 = .ok (.iconst 0, 1) := by decide +kernel
theorem dX6_isWall_19 : decode cX6_isWall 19 = .ok (.ireturn, 1) := by decide +kernel
theorem dX6_isOutermost_0 : decode cX6_isOutermost 0 = .ok (.iload_n 1, 1) := by decide +kernel
theorem dX6_isOutermost_1 : decode cX6_isOutermost 1 = .ok (.ifCond .lt 38, 3) := by decide +kernel
theorem dX6_isOutermost_4 : decode cX6_isOutermost 4 = .ok (.iload_n 1, 1) := by decide +kernel
theorem dX6_isOutermost_5 : decode cX6_isOutermost 5 = .ok (.bipush 31, 2) := by decide +kernel
theorem dX6_isOutermost_7 : decode cX6_isOutermost 7 = .ok (.if_icmp .ge 32, 3) := by decide +kernel
theorem dX6_isOutermost_10 : decode cX6_isOutermost 10 = .ok (.aload_n 0, 1) := by decide +kernel
theorem dX6_isOutermost_11 : decode cX6_isOutermost 11 = .ok (.getfield 27, 3) := by decide +kernel
theorem dX6_isOutermost_14 : decode cX6_isOutermost 14 = .ok (.iload_n 1, 1) := by decide +kernel
theorem dX6_isOutermost_15 : decode cX6_isOutermost 15 = .ok (.aaload, 1) := by decide +kernel
theorem dX6_isOutermost_16 : decode cX6_isOutermost 16 = .ok (.getfield 71, 3) := by decide +kernel
theorem dX6_isOutermost_19 : decode cX6_isOutermost 19 = .ok (.ifCond .eq 20, 3) := by decide +kernel
theorem dX6_isOutermost_22 : decode cX6_isOutermost 22 = .ok (.aload_n 0, 1) := by decide +kernel
theorem dX6_isOutermost_23 : decode cX6_isOutermost 23 = .ok (.getfield 27, 3) := by decide +kernel
theorem dX6_isOutermost_26 : decode cX6_isOutermost 26 = .ok (.iload_n 1, 1) := by decide +kernel
theorem dX6_isOutermost_27 : decode cX6_isOutermost 27 = .ok (.aaload, 1) := by decide +kernel
theorem dX6_isOutermost_28 : decode cX6_isOutermost 28 = .ok (.getfield 104, 3) := by decide +kernel
theorem dX6_isOutermost_31 : decode cX6_isOutermost 31 = .ok (.iconst (-1), 1) := by decide +kernel
theorem dX6_isOutermost_32 : decode cX6_isOutermost 32 = .ok (.if_icmp .ne 7, 3) := by decide +kernel
theorem dX6_isOutermost_35 : decode cX6_isOutermost 35 = .ok (.iconst 1, 1) := by decide +kernel
theorem dX6_isOutermost_36 : decode cX6_isOutermost 36 = .ok (.goto 4, 3) := by decide +kernel
theorem dX6_isOutermost_39 : decode cX6_isOutermost 39 = .ok (.iconst 0, 1) := by decide +kernel
theorem dX6_isOutermost_40 : decode cX6_isOutermost 40 = .ok (.ireturn, 1) := by decide +kernel
theorem dX6_wallCount_0 : decode cX6_wallCount 0 = .ok (.iconst 0, 1) := by decide +kernel
theorem dX6_wallCount_1 : decode cX6_wallCount 1 = .ok (.istore_n 1, 1) := by decide +kernel
theorem dX6_wallCount_2 : decode cX6_wallCount 2 = .ok (.bipush 6, 2) := by decide +kernel
theorem dX6_wallCount_4 : decode cX6_wallCount 4 = .ok (.istore_n 2, 1) := by decide +kernel
theorem dX6_wallCount_5 : decode cX6_wallCount 5 = .ok (.iload_n 2, 1) := by decide +kernel
theorem dX6_wallCount_6 : decode cX6_wallCount 6 = .ok (.bipush 30, 2) := by decide +kernel
theorem dX6_wallCount_8 : decode cX6_wallCount 8 = .ok (.if_icmp .ge 24, 3) := by decide +kernel
theorem dX6_wallCount_11 : decode cX6_wallCount 11 = .ok (.aload_n 0, 1) := by decide +kernel
theorem dX6_wallCount_12 : decode cX6_wallCount 12 = .ok (.getfield 27, 3) := by decide +kernel
theorem dX6_wallCount_15 : decode cX6_wallCount 15 = .ok (.iload_n 2, 1) := by decide +kernel
theorem dX6_wallCount_16 : decode cX6_wallCount 16 = .ok (.aaload, 1) := by decide +kernel
theorem dX6_wallCount_17 : decode cX6_wallCount 17 = .ok (.getfield 71, 3) := by decide +kernel
theorem dX6_wallCount_20 : decode cX6_wallCount 20 = .ok (.ifCond .eq 6, 3) := by decide +kernel
theorem dX6_wallCount_23 : decode cX6_wallCount 23 = .ok (.iinc 1 1, 3) := by decide +kernel
theorem dX6_wallCount_26 : decode cX6_wallCount 26 = .ok (.iinc 2 1, 3) := by decide +kernel
theorem dX6_wallCount_29 : decode cX6_wallCount 29 = .ok (.goto (-24), 3) := by decide +kernel
theorem dX6_wallCount_32 : decode cX6_wallCount 32 = .ok (.iload_n 1, 1) := by decide +kernel
theorem dX6_wallCount_33 : decode cX6_wallCount 33 = .ok (.ireturn, 1) := by decide +kernel
theorem dX6_wallsOf_0 : decode cX6_wallsOf 0 = .ok (.iconst 0, 1) := by decide +kernel
theorem dX6_wallsOf_1 : decode cX6_wallsOf 1 = .ok (.istore_n 2, 1) := by decide +kernel
theorem dX6_wallsOf_2 : decode cX6_wallsOf 2 = .ok (.bipush 6, 2) := by decide +kernel
theorem dX6_wallsOf_4 : decode cX6_wallsOf 4 = .ok (.istore_n 3, 1) := by decide +kernel
theorem dX6_wallsOf_5 : decode cX6_wallsOf 5 = .ok (.iload_n 3, 1) := by decide +kernel
theorem dX6_wallsOf_6 : decode cX6_wallsOf 6 = .ok (.bipush 30, 2) := by decide +kernel
theorem dX6_wallsOf_8 : decode cX6_wallsOf 8 = .ok (.if_icmp .ge 37, 3) := by decide +kernel
theorem dX6_wallsOf_11 : decode cX6_wallsOf 11 = .ok (.aload_n 0, 1) := by decide +kernel
theorem dX6_wallsOf_12 : decode cX6_wallsOf 12 = .ok (.getfield 27, 3) := by decide +kernel
theorem dX6_wallsOf_15 : decode cX6_wallsOf 15 = .ok (.iload_n 3, 1) := by decide +kernel
theorem dX6_wallsOf_16 : decode cX6_wallsOf 16 = .ok (.aaload, 1) := by decide +kernel
theorem dX6_wallsOf_17 : decode cX6_wallsOf 17 = .ok (.getfield 71, 3) := by decide +kernel
theorem dX6_wallsOf_20 : decode cX6_wallsOf 20 = .ok (.ifCond .eq 19, 3) := by decide +kernel
theorem dX6_wallsOf_23 : decode cX6_wallsOf 23 = .ok (.aload_n 0, 1) := by decide +kernel
theorem dX6_wallsOf_24 : decode cX6_wallsOf 24 = .ok (.getfield 27, 3) := by decide +kernel
theorem dX6_wallsOf_27 : decode cX6_wallsOf 27 = .ok (.iload_n 3, 1) := by decide +kernel
theorem dX6_wallsOf_28 : decode cX6_wallsOf 28 = .ok (.aaload, 1) := by decide +kernel
theorem dX6_wallsOf_29 : decode cX6_wallsOf 29 = .ok (.getfield 107, 3) := by decide +kernel
theorem dX6_wallsOf_32 : decode cX6_wallsOf 32 = .ok (.iload_n 1, 1) := by decide +kernel
theorem dX6_wallsOf_33 : decode cX6_wallsOf 33 = .ok (.if_icmp .ne 6, 3) := by decide +kernel
theorem dX6_wallsOf_36 : decode cX6_wallsOf 36 = .ok (.iinc 2 1, 3) := by decide +kernel
theorem dX6_wallsOf_39 : decode cX6_wallsOf 39 = .ok (.iinc 3 1, 3) := by decide +kernel
theorem dX6_wallsOf_42 : decode cX6_wallsOf 42 = .ok (.goto (-37), 3) := by decide +kernel
theorem dX6_wallsOf_45 : decode cX6_wallsOf 45 = .ok (.iload_n 2, 1) := by decide +kernel
theorem dX6_wallsOf_46 : decode cX6_wallsOf 46 = .ok (.ireturn, 1) := by decide +kernel
theorem dX6_wallless_0 : decode cX6_wallless 0 = .ok (.iconst 0, 1) := by decide +kernel
theorem dX6_wallless_1 : decode cX6_wallless 1 = .ok (.istore_n 1, 1) := by decide +kernel
theorem dX6_wallless_2 : decode cX6_wallless 2 = .ok (.iconst 0, 1) := by decide +kernel
theorem dX6_wallless_3 : decode cX6_wallless 3 = .ok (.istore_n 2, 1) := by decide +kernel
theorem dX6_wallless_4 : decode cX6_wallless 4 = .ok (.iload_n 2, 1) := by decide +kernel
theorem dX6_wallless_5 : decode cX6_wallless 5 = .ok (.bipush 12, 2) := by decide +kernel
theorem dX6_wallless_7 : decode cX6_wallless 7 = .ok (.if_icmp .ge 20, 3) := by decide +kernel
theorem dX6_wallless_10 : decode cX6_wallless 10 = .ok (.aload_n 0, 1) := by decide +kernel
theorem dX6_wallless_11 : decode cX6_wallless 11 = .ok (.iload_n 2, 1) := by decide +kernel
theorem dX6_wallless_12 : decode cX6_wallless 12 = .ok (.invokevirtual 110, 3) := by decide +kernel
theorem dX6_wallless_15 : decode cX6_wallless 15 = .ok (.ifCond .ne 6, 3) := by decide +kernel
theorem dX6_wallless_18 : decode cX6_wallless 18 = .ok (.iinc 1 1, 3) := by decide +kernel
theorem dX6_wallless_21 : decode cX6_wallless 21 = .ok (.iinc 2 1, 3) := by decide +kernel
theorem dX6_wallless_24 : decode cX6_wallless 24 = .ok (.goto (-20), 3) := by decide +kernel
theorem dX6_wallless_27 : decode cX6_wallless 27 = .ok (.iload_n 1, 1) := by decide +kernel
theorem dX6_wallless_28 : decode cX6_wallless 28 = .ok (.ireturn, 1) := by decide +kernel
theorem dX6_nestCount_0 : decode cX6_nestCount 0 = .ok (.iconst 0, 1) := by decide +kernel
theorem dX6_nestCount_1 : decode cX6_nestCount 1 = .ok (.istore_n 1, 1) := by decide +kernel
theorem dX6_nestCount_2 : decode cX6_nestCount 2 = .ok (.iconst 0, 1) := by decide +kernel
theorem dX6_nestCount_3 : decode cX6_nestCount 3 = .ok (.istore_n 2, 1) := by decide +kernel
theorem dX6_nestCount_4 : decode cX6_nestCount 4 = .ok (.iload_n 2, 1) := by decide +kernel
theorem dX6_nestCount_5 : decode cX6_nestCount 5 = .ok (.bipush 30, 2) := by decide +kernel
theorem dX6_nestCount_7 : decode cX6_nestCount 7 = .ok (.if_icmp .ge 20, 3) := by decide +kernel
theorem dX6_nestCount_10 : decode cX6_nestCount 10 = .ok (.aload_n 0, 1) := by decide +kernel
theorem dX6_nestCount_11 : decode cX6_nestCount 11 = .ok (.iload_n 2, 1) := by decide +kernel
theorem dX6_nestCount_12 : decode cX6_nestCount 12 = .ok (.invokevirtual 114, 3) := by decide +kernel
theorem dX6_nestCount_15 : decode cX6_nestCount 15 = .ok (.ifCond .eq 6, 3) := by decide +kernel
theorem dX6_nestCount_18 : decode cX6_nestCount 18 = .ok (.iinc 1 1, 3) := by decide +kernel
theorem dX6_nestCount_21 : decode cX6_nestCount 21 = .ok (.iinc 2 1, 3) := by decide +kernel
theorem dX6_nestCount_24 : decode cX6_nestCount 24 = .ok (.goto (-20), 3) := by decide +kernel
theorem dX6_nestCount_27 : decode cX6_nestCount 27 = .ok (.iload_n 1, 1) := by decide +kernel
theorem dX6_nestCount_28 : decode cX6_nestCount 28 = .ok (.ireturn, 1) := by decide +kernel
theorem dX6_freeCells_0 : decode cX6_freeCells 0 = .ok (.aload_n 0, 1) := by decide +kernel
theorem dX6_freeCells_1 : decode cX6_freeCells 1 = .ok (.getfield 9, 3) := by decide +kernel
theorem dX6_freeCells_4 : decode cX6_freeCells 4 = .ok (.aload_n 0, 1) := by decide +kernel
theorem dX6_freeCells_5 : decode cX6_freeCells 5 = .ok (.getfield 15, 3) := by decide +kernel
theorem dX6_freeCells_8 : decode cX6_freeCells 8 = .ok (.imul, 1) := by decide +kernel
theorem dX6_freeCells_9 : decode cX6_freeCells 9 = .ok (.istore_n 1, 1) := by decide +kernel
theorem dX6_freeCells_10 : decode cX6_freeCells 10 = .ok (.iconst 0, 1) := by decide +kernel
theorem dX6_freeCells_11 : decode cX6_freeCells 11 = .ok (.istore_n 2, 1) := by decide +kernel
theorem dX6_freeCells_12 : decode cX6_freeCells 12 = .ok (.iload_n 2, 1) := by decide +kernel
theorem dX6_freeCells_13 : decode cX6_freeCells 13 = .ok (.bipush 30, 2) := by decide +kernel
theorem dX6_freeCells_15 : decode cX6_freeCells 15 = .ok (.if_icmp .ge 29, 3) := by decide +kernel
theorem dX6_freeCells_18 : decode cX6_freeCells 18 = .ok (.aload_n 0, 1) := by decide +kernel
theorem dX6_freeCells_19 : decode cX6_freeCells 19 = .ok (.iload_n 2, 1) := by decide +kernel
theorem dX6_freeCells_20 : decode cX6_freeCells 20 = .ok (.invokevirtual 114, 3) := by decide +kernel
theorem dX6_freeCells_23 : decode cX6_freeCells 23 = .ok (.ifCond .eq 15, 3) := by decide +kernel
theorem dX6_freeCells_26 : decode cX6_freeCells 26 = .ok (.iload_n 1, 1) := by decide +kernel
theorem dX6_freeCells_27 : decode cX6_freeCells 27 = .ok (.aload_n 0, 1) := by decide +kernel
theorem dX6_freeCells_28 : decode cX6_freeCells 28 = .ok (.getfield 27, 3) := by decide +kernel
theorem dX6_freeCells_31 : decode cX6_freeCells 31 = .ok (.iload_n 2, 1) := by decide +kernel
theorem dX6_freeCells_32 : decode cX6_freeCells 32 = .ok (.aaload, 1) := by decide +kernel
theorem dX6_freeCells_33 : decode cX6_freeCells 33 = .ok (.invokevirtual 117, 3) := by decide +kernel
theorem dX6_freeCells_36 : decode cX6_freeCells 36 = .ok (.isub, 1) := by decide +kernel
theorem dX6_freeCells_37 : decode cX6_freeCells 37 = .ok (.istore_n 1, 1) := by decide +kernel
theorem dX6_freeCells_38 : decode cX6_freeCells 38 = .ok (.iinc 2 1, 3) := by decide +kernel
theorem dX6_freeCells_41 : decode cX6_freeCells 41 = .ok (.goto (-29), 3) := by decide +kernel
theorem dX6_freeCells_44 : decode cX6_freeCells 44 = .ok (.iload_n 1, 1) := by decide +kernel
theorem dX6_freeCells_45 : decode cX6_freeCells 45 = .ok (.ireturn, 1) := by decide +kernel
theorem dX6_deepest_0 : decode cX6_deepest 0 = .ok (.iconst 0, 1) := by decide +kernel
theorem dX6_deepest_1 : decode cX6_deepest 1 = .ok (.istore_n 1, 1) := by decide +kernel
theorem dX6_deepest_2 : decode cX6_deepest 2 = .ok (.bipush 6, 2) := by decide +kernel
theorem dX6_deepest_4 : decode cX6_deepest 4 = .ok (.istore_n 2, 1) := by decide +kernel
theorem dX6_deepest_5 : decode cX6_deepest 5 = .ok (.iload_n 2, 1) := by decide +kernel
theorem dX6_deepest_6 : decode cX6_deepest 6 = .ok (.bipush 30, 2) := by decide +kernel
theorem dX6_deepest_8 : decode cX6_deepest 8 = .ok (.if_icmp .ge 35, 3) := by decide +kernel
theorem dX6_deepest_11 : decode cX6_deepest 11 = .ok (.aload_n 0, 1) := by decide +kernel
theorem dX6_deepest_12 : decode cX6_deepest 12 = .ok (.getfield 27, 3) := by decide +kernel
theorem dX6_deepest_15 : decode cX6_deepest 15 = .ok (.iload_n 2, 1) := by decide +kernel
theorem dX6_deepest_16 : decode cX6_deepest 16 = .ok (.aaload, 1) := by decide +kernel
theorem dX6_deepest_17 : decode cX6_deepest 17 = .ok (.getfield 71, 3) := by decide +kernel
theorem dX6_deepest_20 : decode cX6_deepest 20 = .ok (.ifCond .eq 17, 3) := by decide +kernel
theorem dX6_deepest_23 : decode cX6_deepest 23 = .ok (.iload_n 1, 1) := by decide +kernel
theorem dX6_deepest_24 : decode cX6_deepest 24 = .ok (.aload_n 0, 1) := by decide +kernel
theorem dX6_deepest_25 : decode cX6_deepest 25 = .ok (.getfield 27, 3) := by decide +kernel
theorem dX6_deepest_28 : decode cX6_deepest 28 = .ok (.iload_n 2, 1) := by decide +kernel
theorem dX6_deepest_29 : decode cX6_deepest 29 = .ok (.aaload, 1) := by decide +kernel
theorem dX6_deepest_30 : decode cX6_deepest 30 = .ok (.getfield 121, 3) := by decide +kernel
theorem dX6_deepest_33 : decode cX6_deepest 33 = .ok (.invokestatic 124, 3) := by decide +kernel
theorem dX6_deepest_36 : decode cX6_deepest 36 = .ok (.istore_n 1, 1) := by decide +kernel
theorem dX6_deepest_37 : decode cX6_deepest 37 = .ok (.iinc 2 1, 3) := by decide +kernel
theorem dX6_deepest_40 : decode cX6_deepest 40 = .ok (.goto (-35), 3) := by decide +kernel
theorem dX6_deepest_43 : decode cX6_deepest 43 = .ok (.iload_n 1, 1) := by decide +kernel
theorem dX6_deepest_44 : decode cX6_deepest 44 = .ok (.ireturn, 1) := by decide +kernel
theorem dX6_freeNumber_0 : decode cX6_freeNumber 0 = .ok (.bipush 6, 2) := by decide +kernel
theorem dX6_freeNumber_2 : decode cX6_freeNumber 2 = .ok (.istore_n 1, 1) := by decide +kernel
theorem dX6_freeNumber_3 : decode cX6_freeNumber 3 = .ok (.iload_n 1, 1) := by decide +kernel
theorem dX6_freeNumber_4 : decode cX6_freeNumber 4 = .ok (.bipush 30, 2) := by decide +kernel
theorem dX6_freeNumber_6 : decode cX6_freeNumber 6 = .ok (.if_icmp .ge 23, 3) := by decide +kernel
theorem dX6_freeNumber_9 : decode cX6_freeNumber 9 = .ok (.aload_n 0, 1) := by decide +kernel
theorem dX6_freeNumber_10 : decode cX6_freeNumber 10 = .ok (.getfield 27, 3) := by decide +kernel
theorem dX6_freeNumber_13 : decode cX6_freeNumber 13 = .ok (.iload_n 1, 1) := by decide +kernel
theorem dX6_freeNumber_14 : decode cX6_freeNumber 14 = .ok (.aaload, 1) := by decide +kernel
theorem dX6_freeNumber_15 : decode cX6_freeNumber 15 = .ok (.getfield 71, 3) := by decide +kernel
theorem dX6_freeNumber_18 : decode cX6_freeNumber 18 = .ok (.ifCond .ne 5, 3) := by decide +kernel
theorem dX6_freeNumber_21 : decode cX6_freeNumber 21 = .ok (.iload_n 1, 1) := by decide +kernel
theorem dX6_freeNumber_22 : decode cX6_freeNumber 22 = .ok (.ireturn, 1) := by decide +kernel
theorem dX6_freeNumber_23 : decode cX6_freeNumber 23 = .ok (.iinc 1 1, 3) := by decide +kernel
theorem dX6_freeNumber_26 : decode cX6_freeNumber 26 = .ok (.goto (-23), 3) := by decide +kernel
theorem dX6_freeNumber_29 : decode cX6_freeNumber 29 = .ok (.iconst (-1), 1) := by decide +kernel
theorem dX6_freeNumber_30 : decode cX6_freeNumber 30 = .ok (.ireturn, 1) := by decide +kernel
theorem dX6_outermostAt_0 : decode cX6_outermostAt 0 = .ok (.aload_n 0, 1) := by decide +kernel
theorem dX6_outermostAt_1 : decode cX6_outermostAt 1 = .ok (.invokevirtual 130, 3) := by decide +kernel
theorem dX6_outermostAt_4 : decode cX6_outermostAt 4 = .ok (.istore_n 2, 1) := by decide +kernel
theorem dX6_outermostAt_5 : decode cX6_outermostAt 5 = .ok (.iload_n 2, 1) := by decide +kernel
theorem dX6_outermostAt_6 : decode cX6_outermostAt 6 = .ok (.ifCond .le 9, 3) := by decide +kernel
theorem dX6_outermostAt_9 : decode cX6_outermostAt 9 = .ok (.iload_n 1, 1) := by decide +kernel
theorem dX6_outermostAt_10 : decode cX6_outermostAt 10 = .ok (.iload_n 2, 1) := by decide +kernel
theorem dX6_outermostAt_11 : decode cX6_outermostAt 11 = .ok (.irem, 1) := by decide +kernel
theorem dX6_outermostAt_12 : decode cX6_outermostAt 12 = .ok (.goto 4, 3) := by decide +kernel
theorem dX6_outermostAt_15 : decode cX6_outermostAt 15 = .ok (.iconst 0, 1) := by decide +kernel
theorem dX6_outermostAt_16 : decode cX6_outermostAt 16 = .ok (.istore_n 3, 1) := by decide +kernel
theorem dX6_outermostAt_17 : decode cX6_outermostAt 17 = .ok (.iconst 0, 1) := by decide +kernel
theorem dX6_outermostAt_18 : decode cX6_outermostAt 18 = .ok (.istore 4, 2) := by decide +kernel
theorem dX6_outermostAt_20 : decode cX6_outermostAt 20 = .ok (.iload 4, 2) := by decide +kernel
theorem dX6_outermostAt_22 : decode cX6_outermostAt 22 = .ok (.bipush 30, 2) := by decide +kernel
theorem dX6_outermostAt_24 : decode cX6_outermostAt 24 = .ok (.if_icmp .ge 28, 3) := by decide +kernel
theorem dX6_outermostAt_27 : decode cX6_outermostAt 27 = .ok (.aload_n 0, 1) := by decide +kernel
theorem dX6_outermostAt_28 : decode cX6_outermostAt 28 = .ok (.iload 4, 2) := by decide +kernel
theorem dX6_outermostAt_30 : decode cX6_outermostAt 30 = .ok (.invokevirtual 114, 3) := by decide +kernel
theorem dX6_outermostAt_33 : decode cX6_outermostAt 33 = .ok (.ifCond .eq 13, 3) := by decide +kernel
theorem dX6_outermostAt_36 : decode cX6_outermostAt 36 = .ok (.iload_n 3, 1) := by decide +kernel
theorem dX6_outermostAt_37 : decode cX6_outermostAt 37 = .ok (.ifCond .ne 6, 3) := by decide +kernel
theorem dX6_outermostAt_40 : decode cX6_outermostAt 40 = .ok (.iload 4, 2) := by decide +kernel
theorem dX6_outermostAt_42 : decode cX6_outermostAt 42 = .ok (.ireturn, 1) := by decide +kernel
theorem dX6_outermostAt_43 : decode cX6_outermostAt 43 = .ok (.iinc 3 (-1), 3) := by decide +kernel
theorem dX6_outermostAt_46 : decode cX6_outermostAt 46 = .ok (.iinc 4 1, 3) := by decide +kernel
theorem dX6_outermostAt_49 : decode cX6_outermostAt 49 = .ok (.goto (-29), 3) := by decide +kernel
theorem dX6_outermostAt_52 : decode cX6_outermostAt 52 = .ok (.iconst (-1), 1) := by decide +kernel
theorem dX6_outermostAt_53 : decode cX6_outermostAt 53 = .ok (.ireturn, 1) := by decide +kernel
theorem dX6_innermostAt_0 : decode cX6_innermostAt 0 = .ok (.iconst (-1), 1) := by decide +kernel
theorem dX6_innermostAt_1 : decode cX6_innermostAt 1 = .ok (.istore_n 3, 1) := by decide +kernel
theorem dX6_innermostAt_2 : decode cX6_innermostAt 2 = .ok (.iconst 0, 1) := by decide +kernel
theorem dX6_innermostAt_3 : decode cX6_innermostAt 3 = .ok (.istore 4, 2) := by decide +kernel
theorem dX6_innermostAt_5 : decode cX6_innermostAt 5 = .ok (.iload 4, 2) := by decide +kernel
theorem dX6_innermostAt_7 : decode cX6_innermostAt 7 = .ok (.bipush 30, 2) := by decide +kernel
theorem dX6_innermostAt_9 : decode cX6_innermostAt 9 = .ok (.if_icmp .ge 67, 3) := by decide +kernel
theorem dX6_innermostAt_12 : decode cX6_innermostAt 12 = .ok (.aload_n 0, 1) := by decide +kernel
theorem dX6_innermostAt_13 : decode cX6_innermostAt 13 = .ok (.getfield 27, 3) := by decide +kernel
theorem dX6_innermostAt_16 : decode cX6_innermostAt 16 = .ok (.iload 4, 2) := by decide +kernel
theorem dX6_innermostAt_18 : decode cX6_innermostAt 18 = .ok (.aaload, 1) := by decide +kernel
theorem dX6_innermostAt_19 : decode cX6_innermostAt 19 = .ok (.getfield 71, 3) := by decide +kernel
theorem dX6_innermostAt_22 : decode cX6_innermostAt 22 = .ok (.ifCond .eq 48, 3) := by decide +kernel
theorem dX6_innermostAt_25 : decode cX6_innermostAt 25 = .ok (.aload_n 0, 1) := by decide +kernel
theorem dX6_innermostAt_26 : decode cX6_innermostAt 26 = .ok (.getfield 27, 3) := by decide +kernel
theorem dX6_innermostAt_29 : decode cX6_innermostAt 29 = .ok (.iload 4, 2) := by decide +kernel
theorem dX6_innermostAt_31 : decode cX6_innermostAt 31 = .ok (.aaload, 1) := by decide +kernel
theorem dX6_innermostAt_32 : decode cX6_innermostAt 32 = .ok (.iload_n 1, 1) := by decide +kernel
theorem dX6_innermostAt_33 : decode cX6_innermostAt 33 = .ok (.iload_n 2, 1) := by decide +kernel
theorem dX6_innermostAt_34 : decode cX6_innermostAt 34 = .ok (.invokevirtual 133, 3) := by decide +kernel
theorem dX6_innermostAt_37 : decode cX6_innermostAt 37 = .ok (.ifCond .eq 33, 3) := by decide +kernel
theorem dX6_innermostAt_40 : decode cX6_innermostAt 40 = .ok (.iload_n 3, 1) := by decide +kernel
theorem dX6_innermostAt_41 : decode cX6_innermostAt 41 = .ok (.iconst (-1), 1) := by decide +kernel
theorem dX6_innermostAt_42 : decode cX6_innermostAt 42 = .ok (.if_icmp .eq 25, 3) := by decide +kernel
theorem dX6_innermostAt_45 : decode cX6_innermostAt 45 = .ok (.aload_n 0, 1) := by decide +kernel
theorem dX6_innermostAt_46 : decode cX6_innermostAt 46 = .ok (.getfield 27, 3) := by decide +kernel
theorem dX6_innermostAt_49 : decode cX6_innermostAt 49 = .ok (.iload 4, 2) := by decide +kernel
theorem dX6_innermostAt_51 : decode cX6_innermostAt 51 = .ok (.aaload, 1) := by decide +kernel
theorem dX6_innermostAt_52 : decode cX6_innermostAt 52 = .ok (.invokevirtual 117, 3) := by decide +kernel
theorem dX6_innermostAt_55 : decode cX6_innermostAt 55 = .ok (.aload_n 0, 1) := by decide +kernel
theorem dX6_innermostAt_56 : decode cX6_innermostAt 56 = .ok (.getfield 27, 3) := by decide +kernel
theorem dX6_innermostAt_59 : decode cX6_innermostAt 59 = .ok (.iload_n 3, 1) := by decide +kernel
theorem dX6_innermostAt_60 : decode cX6_innermostAt 60 = .ok (.aaload, 1) := by decide +kernel
theorem dX6_innermostAt_61 : decode cX6_innermostAt 61 = .ok (.invokevirtual 117, 3) := by decide +kernel
theorem dX6_innermostAt_64 : decode cX6_innermostAt 64 = .ok (.if_icmp .ge 6, 3) := by decide +kernel
theorem dX6_innermostAt_67 : decode cX6_innermostAt 67 = .ok (.iload 4, 2) := by decide +kernel
theorem dX6_innermostAt_69 : decode cX6_innermostAt 69 = .ok (.istore_n 3, 1) := by decide +kernel
theorem dX6_innermostAt_70 : decode cX6_innermostAt 70 = .ok (.iinc 4 1, 3) := by decide +kernel
theorem dX6_innermostAt_73 : decode cX6_innermostAt 73 = .ok (.goto (-68), 3) := by decide +kernel
theorem dX6_innermostAt_76 : decode cX6_innermostAt 76 = .ok (.iload_n 3, 1) := by decide +kernel
theorem dX6_innermostAt_77 : decode cX6_innermostAt 77 = .ok (.ireturn, 1) := by decide +kernel
theorem dX6_liesIn_0 : decode cX6_liesIn 0 = .ok (.aload_n 0, 1) := by decide +kernel
theorem dX6_liesIn_1 : decode cX6_liesIn 1 = .ok (.getfield 27, 3) := by decide +kernel
theorem dX6_liesIn_4 : decode cX6_liesIn 4 = .ok (.iload_n 1, 1) := by decide +kernel
theorem dX6_liesIn_5 : decode cX6_liesIn 5 = .ok (.aaload, 1) := by decide +kernel
theorem dX6_liesIn_6 : decode cX6_liesIn 6 = .ok (.getfield 104, 3) := by decide +kernel
theorem dX6_liesIn_9 : decode cX6_liesIn 9 = .ok (.istore_n 3, 1) := by decide +kernel
theorem dX6_liesIn_10 : decode cX6_liesIn 10 = .ok (.iconst 0, 1) := by decide +kernel
theorem dX6_liesIn_11 : decode cX6_liesIn 11 = .ok (.istore 4, 2) := by decide +kernel
theorem dX6_liesIn_13 : decode cX6_liesIn 13 = .ok (.iload 4, 2) := by decide +kernel
theorem dX6_liesIn_15 : decode cX6_liesIn 15 = .ok (.bipush 31, 2) := by decide +kernel
theorem dX6_liesIn_17 : decode cX6_liesIn 17 = .ok (.if_icmp .ge 31, 3) := by decide +kernel
theorem dX6_liesIn_20 : decode cX6_liesIn 20 = .ok (.iload_n 3, 1) := by decide +kernel
theorem dX6_liesIn_21 : decode cX6_liesIn 21 = .ok (.iconst (-1), 1) := by decide +kernel
theorem dX6_liesIn_22 : decode cX6_liesIn 22 = .ok (.if_icmp .eq 26, 3) := by decide +kernel
theorem dX6_liesIn_25 : decode cX6_liesIn 25 = .ok (.iload_n 3, 1) := by decide +kernel
theorem dX6_liesIn_26 : decode cX6_liesIn 26 = .ok (.iload_n 2, 1) := by decide +kernel
theorem dX6_liesIn_27 : decode cX6_liesIn 27 = .ok (.if_icmp .ne 5, 3) := by decide +kernel
theorem dX6_liesIn_30 : decode cX6_liesIn 30 = .ok (.iconst 1, 1) := by decide +kernel
theorem dX6_liesIn_31 : decode cX6_liesIn 31 = .ok (.ireturn, 1) := by decide +kernel
theorem dX6_liesIn_32 : decode cX6_liesIn 32 = .ok (.aload_n 0, 1) := by decide +kernel
theorem dX6_liesIn_33 : decode cX6_liesIn 33 = .ok (.getfield 27, 3) := by decide +kernel
theorem dX6_liesIn_36 : decode cX6_liesIn 36 = .ok (.iload_n 3, 1) := by decide +kernel
theorem dX6_liesIn_37 : decode cX6_liesIn 37 = .ok (.aaload, 1) := by decide +kernel
theorem dX6_liesIn_38 : decode cX6_liesIn 38 = .ok (.getfield 104, 3) := by decide +kernel
theorem dX6_liesIn_41 : decode cX6_liesIn 41 = .ok (.istore_n 3, 1) := by decide +kernel
theorem dX6_liesIn_42 : decode cX6_liesIn 42 = .ok (.iinc 4 1, 3) := by decide +kernel
theorem dX6_liesIn_45 : decode cX6_liesIn 45 = .ok (.goto (-32), 3) := by decide +kernel
theorem dX6_liesIn_48 : decode cX6_liesIn 48 = .ok (.iconst 0, 1) := by decide +kernel
theorem dX6_liesIn_49 : decode cX6_liesIn 49 = .ok (.ireturn, 1) := by decide +kernel
theorem dX6_coversOf_0 : decode cX6_coversOf 0 = .ok (.iconst 0, 1) := by decide +kernel
theorem dX6_coversOf_1 : decode cX6_coversOf 1 = .ok (.istore_n 2, 1) := by decide +kernel
theorem dX6_coversOf_2 : decode cX6_coversOf 2 = .ok (.iload_n 1, 1) := by decide +kernel
theorem dX6_coversOf_3 : decode cX6_coversOf 3 = .ok (.iconst (-1), 1) := by decide +kernel
theorem dX6_coversOf_4 : decode cX6_coversOf 4 = .ok (.if_icmp .ne 7, 3) := by decide +kernel
theorem dX6_coversOf_7 : decode cX6_coversOf 7 = .ok (.iconst (-1), 1) := by decide +kernel
theorem dX6_coversOf_8 : decode cX6_coversOf 8 = .ok (.goto 12, 3) := by decide +kernel
theorem dX6_coversOf_11 : decode cX6_coversOf 11 = .ok (.aload_n 0, 1) := by decide +kernel
theorem dX6_coversOf_12 : decode cX6_coversOf 12 = .ok (.getfield 27, 3) := by decide +kernel
theorem dX6_coversOf_15 : decode cX6_coversOf 15 = .ok (.iload_n 1, 1) := by decide +kernel
theorem dX6_coversOf_16 : decode cX6_coversOf 16 = .ok (.aaload, 1) := by decide +kernel
theorem dX6_coversOf_17 : decode cX6_coversOf 17 = .ok (.getfield 104, 3) := by decide +kernel
theorem dX6_coversOf_20 : decode cX6_coversOf 20 = .ok (.istore_n 3, 1) := by decide +kernel
theorem dX6_coversOf_21 : decode cX6_coversOf 21 = .ok (.iconst 0, 1) := by decide +kernel
theorem dX6_coversOf_22 : decode cX6_coversOf 22 = .ok (.istore 4, 2) := by decide +kernel
theorem dX6_coversOf_24 : decode cX6_coversOf 24 = .ok (.iload 4, 2) := by decide +kernel
theorem dX6_coversOf_26 : decode cX6_coversOf 26 = .ok (.bipush 31, 2) := by decide +kernel
theorem dX6_coversOf_28 : decode cX6_coversOf 28 = .ok (.if_icmp .ge 27, 3) := by decide +kernel
theorem dX6_coversOf_31 : decode cX6_coversOf 31 = .ok (.iload_n 3, 1) := by decide +kernel
theorem dX6_coversOf_32 : decode cX6_coversOf 32 = .ok (.iconst (-1), 1) := by decide +kernel
theorem dX6_coversOf_33 : decode cX6_coversOf 33 = .ok (.if_icmp .eq 22, 3) := by decide +kernel
theorem dX6_coversOf_36 : decode cX6_coversOf 36 = .ok (.iinc 2 1, 3) := by decide +kernel
theorem dX6_coversOf_39 : decode cX6_coversOf 39 = .ok (.aload_n 0, 1) := by decide +kernel
theorem dX6_coversOf_40 : decode cX6_coversOf 40 = .ok (.getfield 27, 3) := by decide +kernel
theorem dX6_coversOf_43 : decode cX6_coversOf 43 = .ok (.iload_n 3, 1) := by decide +kernel
theorem dX6_coversOf_44 : decode cX6_coversOf 44 = .ok (.aaload, 1) := by decide +kernel
theorem dX6_coversOf_45 : decode cX6_coversOf 45 = .ok (.getfield 104, 3) := by decide +kernel
theorem dX6_coversOf_48 : decode cX6_coversOf 48 = .ok (.istore_n 3, 1) := by decide +kernel
theorem dX6_coversOf_49 : decode cX6_coversOf 49 = .ok (.iinc 4 1, 3) := by decide +kernel
theorem dX6_coversOf_52 : decode cX6_coversOf 52 = .ok (.goto (-28), 3) := by decide +kernel
theorem dX6_coversOf_55 : decode cX6_coversOf 55 = .ok (.iload_n 2, 1) := by decide +kernel
theorem dX6_coversOf_56 : decode cX6_coversOf 56 = .ok (.ireturn, 1) := by decide +kernel
theorem dX6_innermostOfAll_0 : decode cX6_innermostOfAll 0 = .ok (.iconst (-1), 1) := by decide +kernel
theorem dX6_innermostOfAll_1 : decode cX6_innermostOfAll 1 = .ok (.istore_n 1, 1) := by decide +kernel
theorem dX6_innermostOfAll_2 : decode cX6_innermostOfAll 2 = .ok (.iconst (-1), 1) := by decide +kernel
theorem dX6_innermostOfAll_3 : decode cX6_innermostOfAll 3 = .ok (.istore_n 2, 1) := by decide +kernel
theorem dX6_innermostOfAll_4 : decode cX6_innermostOfAll 4 = .ok (.iconst 0, 1) := by decide +kernel
theorem dX6_innermostOfAll_5 : decode cX6_innermostOfAll 5 = .ok (.istore_n 3, 1) := by decide +kernel
theorem dX6_innermostOfAll_6 : decode cX6_innermostOfAll 6 = .ok (.iload_n 3, 1) := by decide +kernel
theorem dX6_innermostOfAll_7 : decode cX6_innermostOfAll 7 = .ok (.bipush 30, 2) := by decide +kernel
theorem dX6_innermostOfAll_9 : decode cX6_innermostOfAll 9 = .ok (.if_icmp .ge 38, 3) := by decide +kernel
theorem dX6_innermostOfAll_12 : decode cX6_innermostOfAll 12 = .ok (.aload_n 0, 1) := by decide +kernel
theorem dX6_innermostOfAll_13 : decode cX6_innermostOfAll 13 = .ok (.getfield 27, 3) := by decide +kernel
theorem dX6_innermostOfAll_16 : decode cX6_innermostOfAll 16 = .ok (.iload_n 3, 1) := by decide +kernel
theorem dX6_innermostOfAll_17 : decode cX6_innermostOfAll 17 = .ok (.aaload, 1) := by decide +kernel
theorem dX6_innermostOfAll_18 : decode cX6_innermostOfAll 18 = .ok (.getfield 71, 3) := by decide +kernel
theorem dX6_innermostOfAll_21 : decode cX6_innermostOfAll 21 = .ok (.ifCond .eq 20, 3) := by decide +kernel
theorem dX6_innermostOfAll_24 : decode cX6_innermostOfAll 24 = .ok (.aload_n 0, 1) := by decide +kernel
theorem dX6_innermostOfAll_25 : decode cX6_innermostOfAll 25 = .ok (.iload_n 3, 1) := by decide +kernel
theorem dX6_innermostOfAll_26 : decode cX6_innermostOfAll 26 = .ok (.invokevirtual 136, 3) := by decide +kernel
theorem dX6_innermostOfAll_29 : decode cX6_innermostOfAll 29 = .ok (.iload_n 2, 1) := by decide +kernel
theorem dX6_innermostOfAll_30 : decode cX6_innermostOfAll 30 = .ok (.if_icmp .le 11, 3) := by decide +kernel
theorem dX6_innermostOfAll_33 : decode cX6_innermostOfAll 33 = .ok (.iload_n 3, 1) := by decide +kernel
theorem dX6_innermostOfAll_34 : decode cX6_innermostOfAll 34 = .ok (.istore_n 1, 1) := by decide +kernel
theorem dX6_innermostOfAll_35 : decode cX6_innermostOfAll 35 = .ok (.aload_n 0, 1) := by decide +kernel
theorem dX6_innermostOfAll_36 : decode cX6_innermostOfAll 36 = .ok (.iload_n 3, 1) := by decide +kernel
theorem dX6_innermostOfAll_37 : decode cX6_innermostOfAll 37 = .ok (.invokevirtual 136, 3) := by decide +kernel
theorem dX6_innermostOfAll_40 : decode cX6_innermostOfAll 40 = .ok (.istore_n 2, 1) := by decide +kernel
theorem dX6_innermostOfAll_41 : decode cX6_innermostOfAll 41 = .ok (.iinc 3 1, 3) := by decide +kernel
theorem dX6_innermostOfAll_44 : decode cX6_innermostOfAll 44 = .ok (.goto (-38), 3) := by decide +kernel
theorem dX6_innermostOfAll_47 : decode cX6_innermostOfAll 47 = .ok (.iload_n 1, 1) := by decide +kernel
theorem dX6_innermostOfAll_48 : decode cX6_innermostOfAll 48 = .ok (.ireturn, 1) := by decide +kernel
theorem dX6_deepRound_0 : decode cX6_deepRound 0 = .ok (.iload_n 1, 1) := by decide +kernel
theorem dX6_deepRound_1 : decode cX6_deepRound 1 = .ok (.bipush 6, 2) := by decide +kernel
theorem dX6_deepRound_3 : decode cX6_deepRound 3 = .ok (.if_icmp .ge 7, 3) := by decide +kernel
theorem dX6_deepRound_6 : decode cX6_deepRound 6 = .ok (.iconst 0, 1) := by decide +kernel
theorem dX6_deepRound_7 : decode cX6_deepRound 7 = .ok (.goto 14, 3) := by decide +kernel
theorem dX6_deepRound_10 : decode cX6_deepRound 10 = .ok (.iconst 1, 1) := by decide +kernel
theorem dX6_deepRound_11 : decode cX6_deepRound 11 = .ok (.aload_n 0, 1) := by decide +kernel
theorem dX6_deepRound_12 : decode cX6_deepRound 12 = .ok (.getfield 27, 3) := by decide +kernel
theorem dX6_deepRound_15 : decode cX6_deepRound 15 = .ok (.iload_n 1, 1) := by decide +kernel
theorem dX6_deepRound_16 : decode cX6_deepRound 16 = .ok (.aaload, 1) := by decide +kernel
theorem dX6_deepRound_17 : decode cX6_deepRound 17 = .ok (.getfield 121, 3) := by decide +kernel
theorem dX6_deepRound_20 : decode cX6_deepRound 20 = .ok (.iadd, 1) := by decide +kernel
theorem dX6_deepRound_21 : decode cX6_deepRound 21 = .ok (.ireturn, 1) := by decide +kernel
theorem dX6_likeTo_0 : decode cX6_likeTo 0 = .ok (.aload_n 2, 1) := by decide +kernel
theorem dX6_likeTo_1 : decode cX6_likeTo 1 = .ok (.ifnull 11, 3) := by decide +kernel
theorem dX6_likeTo_4 : decode cX6_likeTo 4 = .ok (.aload_n 2, 1) := by decide +kernel
theorem dX6_likeTo_5 : decode cX6_likeTo 5 = .ok (.getfield 107, 3) := by decide +kernel
theorem dX6_likeTo_8 : decode cX6_likeTo 8 = .ok (.iconst (-1), 1) := by decide +kernel
theorem dX6_likeTo_9 : decode cX6_likeTo 9 = .ok (.if_icmp .ne 7, 3) := by decide +kernel
theorem dX6_likeTo_12 : decode cX6_likeTo 12 = .ok (.iconst 0, 1) := by decide +kernel
theorem dX6_likeTo_13 : decode cX6_likeTo 13 = .ok (.goto 17, 3) := by decide +kernel
theorem dX6_likeTo_16 : decode cX6_likeTo 16 = .ok (.aload_n 0, 1) := by decide +kernel
theorem dX6_likeTo_17 : decode cX6_likeTo 17 = .ok (.getfield 22, 3) := by decide +kernel
theorem dX6_likeTo_20 : decode cX6_likeTo 20 = .ok (.iload_n 1, 1) := by decide +kernel
theorem dX6_likeTo_21 : decode cX6_likeTo 21 = .ok (.bipush 12, 2) := by decide +kernel
theorem dX6_likeTo_23 : decode cX6_likeTo 23 = .ok (.imul, 1) := by decide +kernel
theorem dX6_likeTo_24 : decode cX6_likeTo 24 = .ok (.aload_n 2, 1) := by decide +kernel
theorem dX6_likeTo_25 : decode cX6_likeTo 25 = .ok (.getfield 107, 3) := by decide +kernel
theorem dX6_likeTo_28 : decode cX6_likeTo 28 = .ok (.iadd, 1) := by decide +kernel
theorem dX6_likeTo_29 : decode cX6_likeTo 29 = .ok (.iaload, 1) := by decide +kernel
theorem dX6_likeTo_30 : decode cX6_likeTo 30 = .ok (.ireturn, 1) := by decide +kernel
theorem dX6_raise_0 : decode cX6_raise 0 = .ok (.aload_n 0, 1) := by decide +kernel
theorem dX6_raise_1 : decode cX6_raise 1 = .ok (.aload_n 2, 1) := by decide +kernel
theorem dX6_raise_2 : decode cX6_raise 2 = .ok (.getfield 139, 3) := by decide +kernel
theorem dX6_raise_5 : decode cX6_raise 5 = .ok (.invokevirtual 142, 3) := by decide +kernel
theorem dX6_raise_8 : decode cX6_raise 8 = .ok (.aload_n 0, 1) := by decide +kernel
theorem dX6_raise_9 : decode cX6_raise 9 = .ok (.aload_n 2, 1) := by decide +kernel
theorem dX6_raise_10 : decode cX6_raise 10 = .ok (.getfield 145, 3) := by decide +kernel
theorem dX6_raise_13 : decode cX6_raise 13 = .ok (.invokevirtual 142, 3) := by decide +kernel
theorem dX6_raise_16 : decode cX6_raise 16 = .ok (.iadd, 1) := by decide +kernel
theorem dX6_raise_17 : decode cX6_raise 17 = .ok (.istore_n 3, 1) := by decide +kernel
theorem dX6_raise_18 : decode cX6_raise 18 = .ok (.aload_n 0, 1) := by decide +kernel
theorem dX6_raise_19 : decode cX6_raise 19 = .ok (.getfield 27, 3) := by decide +kernel
theorem dX6_raise_22 : decode cX6_raise 22 = .ok (.iload_n 1, 1) := by decide +kernel
theorem dX6_raise_23 : decode cX6_raise 23 = .ok (.aaload, 1) := by decide +kernel
theorem dX6_raise_24 : decode cX6_raise 24 = .ok (.astore 4, 2) := by decide +kernel
theorem dX6_raise_26 : decode cX6_raise 26 = .ok (.aload 4, 2) := by decide +kernel
theorem dX6_raise_28 : decode cX6_raise 28 = .ok (.aload_n 2, 1) := by decide +kernel
theorem dX6_raise_29 : decode cX6_raise 29 = .ok (.getfield 94, 3) := by decide +kernel
theorem dX6_raise_32 : decode cX6_raise 32 = .ok (.aload_n 2, 1) := by decide +kernel
theorem dX6_raise_33 : decode cX6_raise 33 = .ok (.getfield 97, 3) := by decide +kernel
theorem dX6_raise_36 : decode cX6_raise 36 = .ok (.aload_n 2, 1) := by decide +kernel
theorem dX6_raise_37 : decode cX6_raise 37 = .ok (.getfield 98, 3) := by decide +kernel
theorem dX6_raise_40 : decode cX6_raise 40 = .ok (.aload_n 2, 1) := by decide +kernel
theorem dX6_raise_41 : decode cX6_raise 41 = .ok (.getfield 99, 3) := by decide +kernel
theorem dX6_raise_44 : decode cX6_raise 44 = .ok (.aload_n 2, 1) := by decide +kernel
theorem dX6_raise_45 : decode cX6_raise 45 = .ok (.getfield 148, 3) := by decide +kernel
theorem dX6_raise_48 : decode cX6_raise 48 = .ok (.invokevirtual 151, 3) := by decide +kernel
theorem dX6_raise_51 : decode cX6_raise 51 = .ok (.aload 4, 2) := by decide +kernel
theorem dX6_raise_53 : decode cX6_raise 53 = .ok (.iload_n 3, 1) := by decide +kernel
theorem dX6_raise_54 : decode cX6_raise 54 = .ok (.putfield 121, 3) := by decide +kernel
theorem dX6_raise_57 : decode cX6_raise 57 = .ok (.aload_n 0, 1) := by decide +kernel
theorem dX6_raise_58 : decode cX6_raise 58 = .ok (.getfield 27, 3) := by decide +kernel
theorem dX6_raise_61 : decode cX6_raise 61 = .ok (.aload_n 2, 1) := by decide +kernel
theorem dX6_raise_62 : decode cX6_raise 62 = .ok (.getfield 139, 3) := by decide +kernel
theorem dX6_raise_65 : decode cX6_raise 65 = .ok (.aaload, 1) := by decide +kernel
theorem dX6_raise_66 : decode cX6_raise 66 = .ok (.iload_n 1, 1) := by decide +kernel
theorem dX6_raise_67 : decode cX6_raise 67 = .ok (.putfield 104, 3) := by decide +kernel
theorem dX6_raise_70 : decode cX6_raise 70 = .ok (.aload_n 2, 1) := by decide +kernel
theorem dX6_raise_71 : decode cX6_raise 71 = .ok (.getfield 145, 3) := by decide +kernel
theorem dX6_raise_74 : decode cX6_raise 74 = .ok (.iconst (-1), 1) := by decide +kernel
theorem dX6_raise_75 : decode cX6_raise 75 = .ok (.if_icmp .eq 16, 3) := by decide +kernel
theorem dX6_raise_78 : decode cX6_raise 78 = .ok (.aload_n 0, 1) := by decide +kernel
theorem dX6_raise_79 : decode cX6_raise 79 = .ok (.getfield 27, 3) := by decide +kernel
theorem dX6_raise_82 : decode cX6_raise 82 = .ok (.aload_n 2, 1) := by decide +kernel
theorem dX6_raise_83 : decode cX6_raise 83 = .ok (.getfield 145, 3) := by decide +kernel
theorem dX6_raise_86 : decode cX6_raise 86 = .ok (.aaload, 1) := by decide +kernel
theorem dX6_raise_87 : decode cX6_raise 87 = .ok (.iload_n 1, 1) := by decide +kernel
theorem dX6_raise_88 : decode cX6_raise 88 = .ok (.putfield 104, 3) := by decide +kernel
theorem dX6_raise_91 : decode cX6_raise 91 = .ok (.return_, 1) := by decide +kernel
theorem dX6_suppose_0 : decode cX6_suppose 0 = .ok (.aload_n 0, 1) := by decide +kernel
theorem dX6_suppose_1 : decode cX6_suppose 1 = .ok (.bipush 30, 2) := by decide +kernel
theorem dX6_suppose_3 : decode cX6_suppose 3 = .ok (.aload_n 1, 1) := by decide +kernel
theorem dX6_suppose_4 : decode cX6_suppose 4 = .ok (.invokevirtual 155, 3) := by decide +kernel
theorem dX6_suppose_7 : decode cX6_suppose 7 = .ok (.aload_n 0, 1) := by decide +kernel
theorem dX6_suppose_8 : decode cX6_suppose 8 = .ok (.getfield 27, 3) := by decide +kernel
theorem dX6_suppose_11 : decode cX6_suppose 11 = .ok (.bipush 30, 2) := by decide +kernel
theorem dX6_suppose_13 : decode cX6_suppose 13 = .ok (.aaload, 1) := by decide +kernel
theorem dX6_suppose_14 : decode cX6_suppose 14 = .ok (.iconst (-1), 1) := by decide +kernel
theorem dX6_suppose_15 : decode cX6_suppose 15 = .ok (.putfield 104, 3) := by decide +kernel
theorem dX6_suppose_18 : decode cX6_suppose 18 = .ok (.return_, 1) := by decide +kernel
theorem dX6_forget_0 : decode cX6_forget 0 = .ok (.aload_n 0, 1) := by decide +kernel
theorem dX6_forget_1 : decode cX6_forget 1 = .ok (.getfield 27, 3) := by decide +kernel
theorem dX6_forget_4 : decode cX6_forget 4 = .ok (.bipush 30, 2) := by decide +kernel
theorem dX6_forget_6 : decode cX6_forget 6 = .ok (.aaload, 1) := by decide +kernel
theorem dX6_forget_7 : decode cX6_forget 7 = .ok (.iconst 0, 1) := by decide +kernel
theorem dX6_forget_8 : decode cX6_forget 8 = .ok (.putfield 71, 3) := by decide +kernel
theorem dX6_forget_11 : decode cX6_forget 11 = .ok (.aload_n 0, 1) := by decide +kernel
theorem dX6_forget_12 : decode cX6_forget 12 = .ok (.getfield 27, 3) := by decide +kernel
theorem dX6_forget_15 : decode cX6_forget 15 = .ok (.iload_n 1, 1) := by decide +kernel
theorem dX6_forget_16 : decode cX6_forget 16 = .ok (.aaload, 1) := by decide +kernel
theorem dX6_forget_17 : decode cX6_forget 17 = .ok (.iconst (-1), 1) := by decide +kernel
theorem dX6_forget_18 : decode cX6_forget 18 = .ok (.putfield 104, 3) := by decide +kernel
theorem dX6_forget_21 : decode cX6_forget 21 = .ok (.return_, 1) := by decide +kernel
theorem dX6_remove_0 : decode cX6_remove 0 = .ok (.aload_n 0, 1) := by decide +kernel
theorem dX6_remove_1 : decode cX6_remove 1 = .ok (.getfield 27, 3) := by decide +kernel
theorem dX6_remove_4 : decode cX6_remove 4 = .ok (.iload_n 1, 1) := by decide +kernel
theorem dX6_remove_5 : decode cX6_remove 5 = .ok (.aaload, 1) := by decide +kernel
theorem dX6_remove_6 : decode cX6_remove 6 = .ok (.getfield 104, 3) := by decide +kernel
theorem dX6_remove_9 : decode cX6_remove 9 = .ok (.istore_n 2, 1) := by decide +kernel
theorem dX6_remove_10 : decode cX6_remove 10 = .ok (.iconst 0, 1) := by decide +kernel
theorem dX6_remove_11 : decode cX6_remove 11 = .ok (.istore_n 3, 1) := by decide +kernel
theorem dX6_remove_12 : decode cX6_remove 12 = .ok (.iload_n 3, 1) := by decide +kernel
theorem dX6_remove_13 : decode cX6_remove 13 = .ok (.bipush 30, 2) := by decide +kernel
theorem dX6_remove_15 : decode cX6_remove 15 = .ok (.if_icmp .ge 44, 3) := by decide +kernel
theorem dX6_remove_18 : decode cX6_remove 18 = .ok (.aload_n 0, 1) := by decide +kernel
theorem dX6_remove_19 : decode cX6_remove 19 = .ok (.getfield 27, 3) := by decide +kernel
theorem dX6_remove_22 : decode cX6_remove 22 = .ok (.iload_n 3, 1) := by decide +kernel
theorem dX6_remove_23 : decode cX6_remove 23 = .ok (.aaload, 1) := by decide +kernel
theorem dX6_remove_24 : decode cX6_remove 24 = .ok (.getfield 71, 3) := by decide +kernel
theorem dX6_remove_27 : decode cX6_remove 27 = .ok (.ifCond .eq 26, 3) := by decide +kernel
theorem dX6_remove_30 : decode cX6_remove 30 = .ok (.aload_n 0, 1) := by decide +kernel
theorem dX6_remove_31 : decode cX6_remove 31 = .ok (.getfield 27, 3) := by decide +kernel
theorem dX6_remove_34 : decode cX6_remove 34 = .ok (.iload_n 3, 1) := by decide +kernel
theorem dX6_remove_35 : decode cX6_remove 35 = .ok (.aaload, 1) := by decide +kernel
theorem dX6_remove_36 : decode cX6_remove 36 = .ok (.getfield 104, 3) := by decide +kernel
theorem dX6_remove_39 : decode cX6_remove 39 = .ok (.iload_n 1, 1) := by decide +kernel
theorem dX6_remove_40 : decode cX6_remove 40 = .ok (.if_icmp .ne 13, 3) := by decide +kernel
theorem dX6_remove_43 : decode cX6_remove 43 = .ok (.aload_n 0, 1) := by decide +kernel
theorem dX6_remove_44 : decode cX6_remove 44 = .ok (.getfield 27, 3) := by decide +kernel
theorem dX6_remove_47 : decode cX6_remove 47 = .ok (.iload_n 3, 1) := by decide +kernel
theorem dX6_remove_48 : decode cX6_remove 48 = .ok (.aaload, 1) := by decide +kernel
theorem dX6_remove_49 : decode cX6_remove 49 = .ok (.iload_n 2, 1) := by decide +kernel
theorem dX6_remove_50 : decode cX6_remove 50 = .ok (.putfield 104, 3) := by decide +kernel
theorem dX6_remove_53 : decode cX6_remove 53 = .ok (.iinc 3 1, 3) := by decide +kernel
theorem dX6_remove_56 : decode cX6_remove 56 = .ok (.goto (-44), 3) := by decide +kernel
theorem dX6_remove_59 : decode cX6_remove 59 = .ok (.aload_n 0, 1) := by decide +kernel
theorem dX6_remove_60 : decode cX6_remove 60 = .ok (.getfield 27, 3) := by decide +kernel
theorem dX6_remove_63 : decode cX6_remove 63 = .ok (.iload_n 1, 1) := by decide +kernel
theorem dX6_remove_64 : decode cX6_remove 64 = .ok (.aaload, 1) := by decide +kernel
theorem dX6_remove_65 : decode cX6_remove 65 = .ok (.iconst 0, 1) := by decide +kernel
theorem dX6_remove_66 : decode cX6_remove 66 = .ok (.putfield 71, 3) := by decide +kernel
theorem dX6_remove_69 : decode cX6_remove 69 = .ok (.iload_n 2, 1) := by decide +kernel
theorem dX6_remove_70 : decode cX6_remove 70 = .ok (.istore_n 3, 1) := by decide +kernel
theorem dX6_remove_71 : decode cX6_remove 71 = .ok (.iconst 0, 1) := by decide +kernel
theorem dX6_remove_72 : decode cX6_remove 72 = .ok (.istore 4, 2) := by decide +kernel
theorem dX6_remove_74 : decode cX6_remove 74 = .ok (.iload 4, 2) := by decide +kernel
theorem dX6_remove_76 : decode cX6_remove 76 = .ok (.bipush 31, 2) := by decide +kernel
theorem dX6_remove_78 : decode cX6_remove 78 = .ok (.if_icmp .ge 39, 3) := by decide +kernel
theorem dX6_remove_81 : decode cX6_remove 81 = .ok (.iload_n 3, 1) := by decide +kernel
theorem dX6_remove_82 : decode cX6_remove 82 = .ok (.iconst (-1), 1) := by decide +kernel
theorem dX6_remove_83 : decode cX6_remove 83 = .ok (.if_icmp .eq 34, 3) := by decide +kernel
theorem dX6_remove_86 : decode cX6_remove 86 = .ok (.aload_n 0, 1) := by decide +kernel
theorem dX6_remove_87 : decode cX6_remove 87 = .ok (.getfield 27, 3) := by decide +kernel
theorem dX6_remove_90 : decode cX6_remove 90 = .ok (.iload_n 3, 1) := by decide +kernel
theorem dX6_remove_91 : decode cX6_remove 91 = .ok (.aaload, 1) := by decide +kernel
theorem dX6_remove_92 : decode cX6_remove 92 = .ok (.dup, 1) := by decide +kernel
theorem dX6_remove_93 : decode cX6_remove 93 = .ok (.getfield 121, 3) := by decide +kernel
theorem dX6_remove_96 : decode cX6_remove 96 = .ok (.iconst 1, 1) := by decide +kernel
theorem dX6_remove_97 : decode cX6_remove 97 = .ok (.isub, 1) := by decide +kernel
theorem dX6_remove_98 : decode cX6_remove 98 = .ok (.putfield 121, 3) := by decide +kernel
theorem dX6_remove_101 : decode cX6_remove 101 = .ok (.aload_n 0, 1) := by decide +kernel
theorem dX6_remove_102 : decode cX6_remove 102 = .ok (.getfield 27, 3) := by decide +kernel
theorem dX6_remove_105 : decode cX6_remove 105 = .ok (.iload_n 3, 1) := by decide +kernel
theorem dX6_remove_106 : decode cX6_remove 106 = .ok (.aaload, 1) := by decide +kernel
theorem dX6_remove_107 : decode cX6_remove 107 = .ok (.getfield 104, 3) := by decide +kernel
theorem dX6_remove_110 : decode cX6_remove 110 = .ok (.istore_n 3, 1) := by decide +kernel
theorem dX6_remove_111 : decode cX6_remove 111 = .ok (.iinc 4 1, 3) := by decide +kernel
theorem dX6_remove_114 : decode cX6_remove 114 = .ok (.goto (-40), 3) := by decide +kernel
theorem dX6_remove_117 : decode cX6_remove 117 = .ok (.return_, 1) := by decide +kernel
theorem dX6_draw_0 : decode cX6_draw 0 = .ok (.aload_n 0, 1) := by decide +kernel
theorem dX6_draw_1 : decode cX6_draw 1 = .ok (.aload_n 0, 1) := by decide +kernel
theorem dX6_draw_2 : decode cX6_draw 2 = .ok (.getfield 68, 3) := by decide +kernel
theorem dX6_draw_5 : decode cX6_draw 5 = .ok (.i2l, 1) := by decide +kernel
theorem dX6_draw_6 : decode cX6_draw 6 = .ok (.ldc2_w 159, 3) := by decide +kernel
theorem dX6_draw_9 : decode cX6_draw 9 = .ok (.lmul, 1) := by decide +kernel
theorem dX6_draw_10 : decode cX6_draw 10 = .ok (.ldc2_w 161, 3) := by decide +kernel
theorem dX6_draw_13 : decode cX6_draw 13 = .ok (.ladd, 1) := by decide +kernel
theorem dX6_draw_14 : decode cX6_draw 14 = .ok (.ldc2_w 163, 3) := by decide +kernel
theorem dX6_draw_17 : decode cX6_draw 17 = .ok (.land, 1) := by decide +kernel
theorem dX6_draw_18 : decode cX6_draw 18 = .ok (.l2i, 1) := by decide +kernel
theorem dX6_draw_19 : decode cX6_draw 19 = .ok (.putfield 68, 3) := by decide +kernel
theorem dX6_draw_22 : decode cX6_draw 22 = .ok (.aload_n 0, 1) := by decide +kernel
theorem dX6_draw_23 : decode cX6_draw 23 = .ok (.getfield 68, 3) := by decide +kernel
theorem dX6_draw_26 : decode cX6_draw 26 = .ok (.ldc 165, 2) := by decide +kernel
theorem dX6_draw_28 : decode cX6_draw 28 = .ok (.idiv, 1) := by decide +kernel
theorem dX6_draw_29 : decode cX6_draw 29 = .ok (.ireturn, 1) := by decide +kernel
theorem dX7_init_0 : decode cX7_init 0 = .ok (.aload_n 0, 1) := by decide +kernel
theorem dX7_init_1 : decode cX7_init 1 = .ok (.invokespecial 3, 3) := by decide +kernel
theorem dX7_init_4 : decode cX7_init 4 = .ok (.aload_n 0, 1) := by decide +kernel
theorem dX7_init_5 : decode cX7_init 5 = .ok (.sipush 1681, 3) := by decide +kernel
theorem dX7_init_8 : decode cX7_init 8 = .ok (.newarray .int, 2) := by decide +kernel
theorem dX7_init_10 : decode cX7_init 10 = .ok (.putfield 11, 3) := by decide +kernel
theorem dX7_init_13 : decode cX7_init 13 = .ok (.aload_n 0, 1) := by decide +kernel
theorem dX7_init_14 : decode cX7_init 14 = .ok (.sipush 1681, 3) := by decide +kernel
theorem dX7_init_17 : decode cX7_init 17 = .ok (.newarray .int, 2) := by decide +kernel
theorem dX7_init_19 : decode cX7_init 19 = .ok (.putfield 15, 3) := by decide +kernel
theorem dX7_init_22 : decode cX7_init 22 = .ok (.aload_n 0, 1) := by decide +kernel
theorem dX7_init_23 : decode cX7_init 23 = .ok (.sipush 1681, 3) := by decide +kernel
theorem dX7_init_26 : decode cX7_init 26 = .ok (.newarray .int, 2) := by decide +kernel
theorem dX7_init_28 : decode cX7_init 28 = .ok (.putfield 18, 3) := by decide +kernel
theorem dX7_init_31 : decode cX7_init 31 = .ok (.aload_n 0, 1) := by decide +kernel
theorem dX7_init_32 : decode cX7_init 32 = .ok (.sipush 1681, 3) := by decide +kernel
theorem dX7_init_35 : decode cX7_init 35 = .ok (.newarray .int, 2) := by decide +kernel
theorem dX7_init_37 : decode cX7_init 37 = .ok (.putfield 21, 3) := by decide +kernel
theorem dX7_init_40 : decode cX7_init 40 = .ok (.aload_n 0, 1) := by decide +kernel
theorem dX7_init_41 : decode cX7_init 41 = .ok (.sipush 1681, 3) := by decide +kernel
theorem dX7_init_44 : decode cX7_init 44 = .ok (.newarray .int, 2) := by decide +kernel
theorem dX7_init_46 : decode cX7_init 46 = .ok (.putfield 24, 3) := by decide +kernel
theorem dX7_init_49 : decode cX7_init 49 = .ok (.return_, 1) := by decide +kernel
theorem dX7_rebuild_0 : decode cX7_rebuild 0 = .ok (.iconst 0, 1) := by decide +kernel
theorem dX7_rebuild_1 : decode cX7_rebuild 1 = .ok (.istore_n 2, 1) := by decide +kernel
theorem dX7_rebuild_2 : decode cX7_rebuild 2 = .ok (.iload_n 2, 1) := by decide +kernel
theorem dX7_rebuild_3 : decode cX7_rebuild 3 = .ok (.aload_n 1, 1) := by decide +kernel
theorem dX7_rebuild_4 : decode cX7_rebuild 4 = .ok (.getfield 27, 3) := by decide +kernel
theorem dX7_rebuild_7 : decode cX7_rebuild 7 = .ok (.if_icmp .ge 110, 3) := by decide +kernel
theorem dX7_rebuild_10 : decode cX7_rebuild 10 = .ok (.iconst 0, 1) := by decide +kernel
theorem dX7_rebuild_11 : decode cX7_rebuild 11 = .ok (.istore_n 3, 1) := by decide +kernel
theorem dX7_rebuild_12 : decode cX7_rebuild 12 = .ok (.iload_n 3, 1) := by decide +kernel
theorem dX7_rebuild_13 : decode cX7_rebuild 13 = .ok (.aload_n 1, 1) := by decide +kernel
theorem dX7_rebuild_14 : decode cX7_rebuild 14 = .ok (.getfield 33, 3) := by decide +kernel
theorem dX7_rebuild_17 : decode cX7_rebuild 17 = .ok (.if_icmp .ge 94, 3) := by decide +kernel
theorem dX7_rebuild_20 : decode cX7_rebuild 20 = .ok (.aload_n 1, 1) := by decide +kernel
theorem dX7_rebuild_21 : decode cX7_rebuild 21 = .ok (.getfield 36, 3) := by decide +kernel
theorem dX7_rebuild_24 : decode cX7_rebuild 24 = .ok (.iload_n 2, 1) := by decide +kernel
theorem dX7_rebuild_25 : decode cX7_rebuild 25 = .ok (.bipush 40, 2) := by decide +kernel
theorem dX7_rebuild_27 : decode cX7_rebuild 27 = .ok (.imul, 1) := by decide +kernel
theorem dX7_rebuild_28 : decode cX7_rebuild 28 = .ok (.iload_n 3, 1) := by decide +kernel
theorem dX7_rebuild_29 : decode cX7_rebuild 29 = .ok (.iadd, 1) := by decide +kernel
theorem dX7_rebuild_30 : decode cX7_rebuild 30 = .ok (.iaload, 1) := by decide +kernel
theorem dX7_rebuild_31 : decode cX7_rebuild 31 = .ok (.istore 4, 2) := by decide +kernel
theorem dX7_rebuild_33 : decode cX7_rebuild 33 = .ok (.iload_n 2, 1) := by decide +kernel
theorem dX7_rebuild_34 : decode cX7_rebuild 34 = .ok (.iconst 1, 1) := by decide +kernel
theorem dX7_rebuild_35 : decode cX7_rebuild 35 = .ok (.iadd, 1) := by decide +kernel
theorem dX7_rebuild_36 : decode cX7_rebuild 36 = .ok (.bipush 41, 2) := by decide +kernel
theorem dX7_rebuild_38 : decode cX7_rebuild 38 = .ok (.imul, 1) := by decide +kernel
theorem dX7_rebuild_39 : decode cX7_rebuild 39 = .ok (.iload_n 3, 1) := by decide +kernel
theorem dX7_rebuild_40 : decode cX7_rebuild 40 = .ok (.iadd, 1) := by decide +kernel
theorem dX7_rebuild_41 : decode cX7_rebuild 41 = .ok (.iconst 1, 1) := by decide +kernel
theorem dX7_rebuild_42 : decode cX7_rebuild 42 = .ok (.iadd, 1) := by decide +kernel
theorem dX7_rebuild_43 : decode cX7_rebuild 43 = .ok (.istore 5, 2) := by decide +kernel
theorem dX7_rebuild_45 : decode cX7_rebuild 45 = .ok (.aload_n 0, 1) := by decide +kernel
theorem dX7_rebuild_46 : decode cX7_rebuild 46 = .ok (.getfield 11, 3) := by decide +kernel
theorem dX7_rebuild_49 : decode cX7_rebuild 49 = .ok (.iload 5, 2) := by decide +kernel
theorem dX7_rebuild_51 : decode cX7_rebuild 51 = .ok (.iload 4, 2) := by decide +kernel
theorem dX7_rebuild_53 : decode cX7_rebuild 53 = .ok (.bipush 127, 2) := by decide +kernel
theorem dX7_rebuild_55 : decode cX7_rebuild 55 = .ok (.iand, 1) := by decide +kernel
theorem dX7_rebuild_56 : decode cX7_rebuild 56 = .ok (.invokestatic 39, 3) := by decide +kernel
theorem dX7_rebuild_59 : decode cX7_rebuild 59 = .ok (.aload_n 0, 1) := by decide +kernel
theorem dX7_rebuild_60 : decode cX7_rebuild 60 = .ok (.getfield 18, 3) := by decide +kernel
theorem dX7_rebuild_63 : decode cX7_rebuild 63 = .ok (.iload 5, 2) := by decide +kernel
theorem dX7_rebuild_65 : decode cX7_rebuild 65 = .ok (.iload 4, 2) := by decide +kernel
theorem dX7_rebuild_67 : decode cX7_rebuild 67 = .ok (.sipush 128, 3) := by decide +kernel
theorem dX7_rebuild_70 : decode cX7_rebuild 70 = .ok (.iand, 1) := by decide +kernel
theorem dX7_rebuild_71 : decode cX7_rebuild 71 = .ok (.ifCond .eq 7, 3) := by decide +kernel
theorem dX7_rebuild_74 : decode cX7_rebuild 74 = .ok (.iconst 1, 1) := by decide +kernel
theorem dX7_rebuild_75 : decode cX7_rebuild 75 = .ok (.goto 4, 3) := by decide +kernel
theorem dX7_rebuild_78 : decode cX7_rebuild 78 = .ok (.iconst 0, 1) := by decide +kernel
theorem dX7_rebuild_79 : decode cX7_rebuild 79 = .ok (.invokestatic 39, 3) := by decide +kernel
theorem dX7_rebuild_82 : decode cX7_rebuild 82 = .ok (.aload_n 0, 1) := by decide +kernel
theorem dX7_rebuild_83 : decode cX7_rebuild 83 = .ok (.getfield 15, 3) := by decide +kernel
theorem dX7_rebuild_86 : decode cX7_rebuild 86 = .ok (.iload 5, 2) := by decide +kernel
theorem dX7_rebuild_88 : decode cX7_rebuild 88 = .ok (.iload 4, 2) := by decide +kernel
theorem dX7_rebuild_90 : decode cX7_rebuild 90 = .ok (.sipush 256, 3) := by decide +kernel
theorem dX7_rebuild_93 : decode cX7_rebuild 93 = .ok (.iand, 1) := by decide +kernel
theorem dX7_rebuild_94 : decode cX7_rebuild 94 = .ok (.ifCond .eq 7, 3) := by decide +kernel
theorem dX7_rebuild_97 : decode cX7_rebuild 97 = .ok (.iconst 1, 1) := by decide +kernel
theorem dX7_rebuild_98 : decode cX7_rebuild 98 = .ok (.goto 4, 3) := by decide +kernel
theorem dX7_rebuild_101 : decode cX7_rebuild 101 = .ok (.iconst 0, 1) := by decide +kernel
theorem dX7_rebuild_102 : decode cX7_rebuild 102 = .ok (.invokestatic 39, 3) := by decide +kernel
theorem dX7_rebuild_105 : decode cX7_rebuild 105 = .ok (.iinc 3 1, 3) := by decide +kernel
theorem dX7_rebuild_108 : decode cX7_rebuild 108 = .ok (.goto (-96), 3) := by decide +kernel
theorem dX7_rebuild_111 : decode cX7_rebuild 111 = .ok (.iinc 2 1, 3) := by decide +kernel
theorem dX7_rebuild_114 : decode cX7_rebuild 114 = .ok (.goto (-112), 3) := by decide +kernel
theorem dX7_rebuild_117 : decode cX7_rebuild 117 = .ok (.aload_n 0, 1) := by decide +kernel
theorem dX7_rebuild_118 : decode cX7_rebuild 118 = .ok (.aload_n 1, 1) := by decide +kernel
theorem dX7_rebuild_119 : decode cX7_rebuild 119 = .ok (.invokevirtual 43, 3) := by decide +kernel
theorem dX7_rebuild_122 : decode cX7_rebuild 122 = .ok (.return_, 1) := by decide +kernel
theorem dX7_grow_0 : decode cX7_grow 0 = .ok (.aload_n 0, 1) := by decide +kernel
theorem dX7_grow_1 : decode cX7_grow 1 = .ok (.iload_n 1, 1) := by decide +kernel
theorem dX7_grow_2 : decode cX7_grow 2 = .ok (.iload_n 2, 1) := by decide +kernel
theorem dX7_grow_3 : decode cX7_grow 3 = .ok (.aload_n 0, 1) := by decide +kernel
theorem dX7_grow_4 : decode cX7_grow 4 = .ok (.iload_n 1, 1) := by decide +kernel
theorem dX7_grow_5 : decode cX7_grow 5 = .ok (.iconst 1, 1) := by decide +kernel
theorem dX7_grow_6 : decode cX7_grow 6 = .ok (.isub, 1) := by decide +kernel
theorem dX7_grow_7 : decode cX7_grow 7 = .ok (.iaload, 1) := by decide +kernel
theorem dX7_grow_8 : decode cX7_grow 8 = .ok (.iadd, 1) := by decide +kernel
theorem dX7_grow_9 : decode cX7_grow 9 = .ok (.aload_n 0, 1) := by decide +kernel
theorem dX7_grow_10 : decode cX7_grow 10 = .ok (.iload_n 1, 1) := by decide +kernel
theorem dX7_grow_11 : decode cX7_grow 11 = .ok (.bipush 41, 2) := by decide +kernel
theorem dX7_grow_13 : decode cX7_grow 13 = .ok (.isub, 1) := by decide +kernel
theorem dX7_grow_14 : decode cX7_grow 14 = .ok (.iaload, 1) := by decide +kernel
theorem dX7_grow_15 : decode cX7_grow 15 = .ok (.iadd, 1) := by decide +kernel
theorem dX7_grow_16 : decode cX7_grow 16 = .ok (.aload_n 0, 1) := by decide +kernel
theorem dX7_grow_17 : decode cX7_grow 17 = .ok (.iload_n 1, 1) := by decide +kernel
theorem dX7_grow_18 : decode cX7_grow 18 = .ok (.bipush 41, 2) := by decide +kernel
theorem dX7_grow_20 : decode cX7_grow 20 = .ok (.isub, 1) := by decide +kernel
theorem dX7_grow_21 : decode cX7_grow 21 = .ok (.iconst 1, 1) := by decide +kernel
theorem dX7_grow_22 : decode cX7_grow 22 = .ok (.isub, 1) := by decide +kernel
theorem dX7_grow_23 : decode cX7_grow 23 = .ok (.iaload, 1) := by decide +kernel
theorem dX7_grow_24 : decode cX7_grow 24 = .ok (.isub, 1) := by decide +kernel
theorem dX7_grow_25 : decode cX7_grow 25 = .ok (.iastore, 1) := by decide +kernel
theorem dX7_grow_26 : decode cX7_grow 26 = .ok (.return_, 1) := by decide +kernel
theorem dX7_rebuildLines_0 : decode cX7_rebuildLines 0 = .ok (.iconst 0, 1) := by decide +kernel
theorem dX7_rebuildLines_1 : decode cX7_rebuildLines 1 = .ok (.istore_n 2, 1) := by decide +kernel
theorem dX7_rebuildLines_2 : decode cX7_rebuildLines 2 = .ok (.iload_n 2, 1) := by decide +kernel
theorem dX7_rebuildLines_3 : decode cX7_rebuildLines 3 = .ok (.aload_n 1, 1) := by decide +kernel
theorem dX7_rebuildLines_4 : decode cX7_rebuildLines 4 = .ok (.getfield 27, 3) := by decide +kernel
theorem dX7_rebuildLines_7 : decode cX7_rebuildLines 7 = .ok (.if_icmp .gt 68, 3) := by decide +kernel
theorem dX7_rebuildLines_10 : decode cX7_rebuildLines 10 = .ok (.iconst 0, 1) := by decide +kernel
theorem dX7_rebuildLines_11 : decode cX7_rebuildLines 11 = .ok (.istore_n 3, 1) := by decide +kernel
theorem dX7_rebuildLines_12 : decode cX7_rebuildLines 12 = .ok (.iload_n 3, 1) := by decide +kernel
theorem dX7_rebuildLines_13 : decode cX7_rebuildLines 13 = .ok (.aload_n 1, 1) := by decide +kernel
theorem dX7_rebuildLines_14 : decode cX7_rebuildLines 14 = .ok (.getfield 33, 3) := by decide +kernel
theorem dX7_rebuildLines_17 : decode cX7_rebuildLines 17 = .ok (.if_icmp .ge 52, 3) := by decide +kernel
theorem dX7_rebuildLines_20 : decode cX7_rebuildLines 20 = .ok (.iload_n 2, 1) := by decide +kernel
theorem dX7_rebuildLines_21 : decode cX7_rebuildLines 21 = .ok (.bipush 41, 2) := by decide +kernel
theorem dX7_rebuildLines_23 : decode cX7_rebuildLines 23 = .ok (.imul, 1) := by decide +kernel
theorem dX7_rebuildLines_24 : decode cX7_rebuildLines 24 = .ok (.iload_n 3, 1) := by decide +kernel
theorem dX7_rebuildLines_25 : decode cX7_rebuildLines 25 = .ok (.iadd, 1) := by decide +kernel
theorem dX7_rebuildLines_26 : decode cX7_rebuildLines 26 = .ok (.istore 4, 2) := by decide +kernel
theorem dX7_rebuildLines_28 : decode cX7_rebuildLines 28 = .ok (.aload_n 0, 1) := by decide +kernel
theorem dX7_rebuildLines_29 : decode cX7_rebuildLines 29 = .ok (.getfield 21, 3) := by decide +kernel
theorem dX7_rebuildLines_32 : decode cX7_rebuildLines 32 = .ok (.iload 4, 2) := by decide +kernel
theorem dX7_rebuildLines_34 : decode cX7_rebuildLines 34 = .ok (.iconst 1, 1) := by decide +kernel
theorem dX7_rebuildLines_35 : decode cX7_rebuildLines 35 = .ok (.iadd, 1) := by decide +kernel
theorem dX7_rebuildLines_36 : decode cX7_rebuildLines 36 = .ok (.aload_n 0, 1) := by decide +kernel
theorem dX7_rebuildLines_37 : decode cX7_rebuildLines 37 = .ok (.getfield 21, 3) := by decide +kernel
theorem dX7_rebuildLines_40 : decode cX7_rebuildLines 40 = .ok (.iload 4, 2) := by decide +kernel
theorem dX7_rebuildLines_42 : decode cX7_rebuildLines 42 = .ok (.iaload, 1) := by decide +kernel
theorem dX7_rebuildLines_43 : decode cX7_rebuildLines 43 = .ok (.aload_n 1, 1) := by decide +kernel
theorem dX7_rebuildLines_44 : decode cX7_rebuildLines 44 = .ok (.iload_n 3, 1) := by decide +kernel
theorem dX7_rebuildLines_45 : decode cX7_rebuildLines 45 = .ok (.iload_n 2, 1) := by decide +kernel
theorem dX7_rebuildLines_46 : decode cX7_rebuildLines 46 = .ok (.iload_n 3, 1) := by decide +kernel
theorem dX7_rebuildLines_47 : decode cX7_rebuildLines 47 = .ok (.iload_n 2, 1) := by decide +kernel
theorem dX7_rebuildLines_48 : decode cX7_rebuildLines 48 = .ok (.iconst 1, 1) := by decide +kernel
theorem dX7_rebuildLines_49 : decode cX7_rebuildLines 49 = .ok (.isub, 1) := by decide +kernel
theorem dX7_rebuildLines_50 : decode cX7_rebuildLines 50 = .ok (.invokestatic 47, 3) := by decide +kernel
theorem dX7_rebuildLines_53 : decode cX7_rebuildLines 53 = .ok (.ifCond .eq 7, 3) := by decide +kernel
theorem dX7_rebuildLines_56 : decode cX7_rebuildLines 56 = .ok (.iconst 1, 1) := by decide +kernel
theorem dX7_rebuildLines_57 : decode cX7_rebuildLines 57 = .ok (.goto 4, 3) := by decide +kernel
theorem dX7_rebuildLines_60 : decode cX7_rebuildLines 60 = .ok (.iconst 0, 1) := by decide +kernel
theorem dX7_rebuildLines_61 : decode cX7_rebuildLines 61 = .ok (.iadd, 1) := by decide +kernel
theorem dX7_rebuildLines_62 : decode cX7_rebuildLines 62 = .ok (.iastore, 1) := by decide +kernel
theorem dX7_rebuildLines_63 : decode cX7_rebuildLines 63 = .ok (.iinc 3 1, 3) := by decide +kernel
theorem dX7_rebuildLines_66 : decode cX7_rebuildLines 66 = .ok (.goto (-54), 3) := by decide +kernel
theorem dX7_rebuildLines_69 : decode cX7_rebuildLines 69 = .ok (.iinc 2 1, 3) := by decide +kernel
theorem dX7_rebuildLines_72 : decode cX7_rebuildLines 72 = .ok (.goto (-70), 3) := by decide +kernel
theorem dX7_rebuildLines_75 : decode cX7_rebuildLines 75 = .ok (.iconst 0, 1) := by decide +kernel
theorem dX7_rebuildLines_76 : decode cX7_rebuildLines 76 = .ok (.istore_n 2, 1) := by decide +kernel
theorem dX7_rebuildLines_77 : decode cX7_rebuildLines 77 = .ok (.iload_n 2, 1) := by decide +kernel
theorem dX7_rebuildLines_78 : decode cX7_rebuildLines 78 = .ok (.aload_n 1, 1) := by decide +kernel
theorem dX7_rebuildLines_79 : decode cX7_rebuildLines 79 = .ok (.getfield 33, 3) := by decide +kernel
theorem dX7_rebuildLines_82 : decode cX7_rebuildLines 82 = .ok (.if_icmp .gt 68, 3) := by decide +kernel
theorem dX7_rebuildLines_85 : decode cX7_rebuildLines 85 = .ok (.iconst 0, 1) := by decide +kernel
theorem dX7_rebuildLines_86 : decode cX7_rebuildLines 86 = .ok (.istore_n 3, 1) := by decide +kernel
theorem dX7_rebuildLines_87 : decode cX7_rebuildLines 87 = .ok (.iload_n 3, 1) := by decide +kernel
theorem dX7_rebuildLines_88 : decode cX7_rebuildLines 88 = .ok (.aload_n 1, 1) := by decide +kernel
theorem dX7_rebuildLines_89 : decode cX7_rebuildLines 89 = .ok (.getfield 27, 3) := by decide +kernel
theorem dX7_rebuildLines_92 : decode cX7_rebuildLines 92 = .ok (.if_icmp .ge 52, 3) := by decide +kernel
theorem dX7_rebuildLines_95 : decode cX7_rebuildLines 95 = .ok (.iload_n 2, 1) := by decide +kernel
theorem dX7_rebuildLines_96 : decode cX7_rebuildLines 96 = .ok (.bipush 41, 2) := by decide +kernel
theorem dX7_rebuildLines_98 : decode cX7_rebuildLines 98 = .ok (.imul, 1) := by decide +kernel
theorem dX7_rebuildLines_99 : decode cX7_rebuildLines 99 = .ok (.iload_n 3, 1) := by decide +kernel
theorem dX7_rebuildLines_100 : decode cX7_rebuildLines 100 = .ok (.iadd, 1) := by decide +kernel
theorem dX7_rebuildLines_101 : decode cX7_rebuildLines 101 = .ok (.istore 4, 2) := by decide +kernel
theorem dX7_rebuildLines_103 : decode cX7_rebuildLines 103 = .ok (.aload_n 0, 1) := by decide +kernel
theorem dX7_rebuildLines_104 : decode cX7_rebuildLines 104 = .ok (.getfield 24, 3) := by decide +kernel
theorem dX7_rebuildLines_107 : decode cX7_rebuildLines 107 = .ok (.iload 4, 2) := by decide +kernel
theorem dX7_rebuildLines_109 : decode cX7_rebuildLines 109 = .ok (.iconst 1, 1) := by decide +kernel
theorem dX7_rebuildLines_110 : decode cX7_rebuildLines 110 = .ok (.iadd, 1) := by decide +kernel
theorem dX7_rebuildLines_111 : decode cX7_rebuildLines 111 = .ok (.aload_n 0, 1) := by decide +kernel
theorem dX7_rebuildLines_112 : decode cX7_rebuildLines 112 = .ok (.getfield 24, 3) := by decide +kernel
theorem dX7_rebuildLines_115 : decode cX7_rebuildLines 115 = .ok (.iload 4, 2) := by decide +kernel
theorem dX7_rebuildLines_117 : decode cX7_rebuildLines 117 = .ok (.iaload, 1) := by decide +kernel
theorem dX7_rebuildLines_118 : decode cX7_rebuildLines 118 = .ok (.aload_n 1, 1) := by decide +kernel
theorem dX7_rebuildLines_119 : decode cX7_rebuildLines 119 = .ok (.iload_n 2, 1) := by decide +kernel
theorem dX7_rebuildLines_120 : decode cX7_rebuildLines 120 = .ok (.iload_n 3, 1) := by decide +kernel
theorem dX7_rebuildLines_121 : decode cX7_rebuildLines 121 = .ok (.iload_n 2, 1) := by decide +kernel
theorem dX7_rebuildLines_122 : decode cX7_rebuildLines 122 = .ok (.iconst 1, 1) := by decide +kernel
theorem dX7_rebuildLines_123 : decode cX7_rebuildLines 123 = .ok (.isub, 1) := by decide +kernel
theorem dX7_rebuildLines_124 : decode cX7_rebuildLines 124 = .ok (.iload_n 3, 1) := by decide +kernel
theorem dX7_rebuildLines_125 : decode cX7_rebuildLines 125 = .ok (.invokestatic 47, 3) := by decide +kernel
theorem dX7_rebuildLines_128 : decode cX7_rebuildLines 128 = .ok (.ifCond .eq 7, 3) := by decide +kernel
theorem dX7_rebuildLines_131 : decode cX7_rebuildLines 131 = .ok (.iconst 1, 1) := by decide +kernel
theorem dX7_rebuildLines_132 : decode cX7_rebuildLines 132 = .ok (.goto 4, 3) := by decide +kernel
theorem dX7_rebuildLines_135 : decode cX7_rebuildLines 135 = .ok (.iconst 0, 1) := by decide +kernel
theorem dX7_rebuildLines_136 : decode cX7_rebuildLines 136 = .ok (.iadd, 1) := by decide +kernel
theorem dX7_rebuildLines_137 : decode cX7_rebuildLines 137 = .ok (.iastore, 1) := by decide +kernel
theorem dX7_rebuildLines_138 : decode cX7_rebuildLines 138 = .ok (.iinc 3 1, 3) := by decide +kernel
theorem dX7_rebuildLines_141 : decode cX7_rebuildLines 141 = .ok (.goto (-54), 3) := by decide +kernel
theorem dX7_rebuildLines_144 : decode cX7_rebuildLines 144 = .ok (.iinc 2 1, 3) := by decide +kernel
theorem dX7_rebuildLines_147 : decode cX7_rebuildLines 147 = .ok (.goto (-70), 3) := by decide +kernel
theorem dX7_rebuildLines_150 : decode cX7_rebuildLines 150 = .ok (.return_, 1) := by decide +kernel
theorem dX7_areRivers_0 : decode cX7_areRivers 0 = .ok (.aload_n 0, 1) := by decide +kernel
theorem dX7_areRivers_1 : decode cX7_areRivers 1 = .ok (.iload_n 1, 1) := by decide +kernel
theorem dX7_areRivers_2 : decode cX7_areRivers 2 = .ok (.iload_n 2, 1) := by decide +kernel
theorem dX7_areRivers_3 : decode cX7_areRivers 3 = .ok (.invokevirtual 51, 3) := by decide +kernel
theorem dX7_areRivers_6 : decode cX7_areRivers 6 = .ok (.ifCond .eq 48, 3) := by decide +kernel
theorem dX7_areRivers_9 : decode cX7_areRivers 9 = .ok (.aload_n 0, 1) := by decide +kernel
theorem dX7_areRivers_10 : decode cX7_areRivers 10 = .ok (.iload_n 3, 1) := by decide +kernel
theorem dX7_areRivers_11 : decode cX7_areRivers 11 = .ok (.iload 4, 2) := by decide +kernel
theorem dX7_areRivers_13 : decode cX7_areRivers 13 = .ok (.invokevirtual 51, 3) := by decide +kernel
theorem dX7_areRivers_16 : decode cX7_areRivers 16 = .ok (.ifCond .eq 38, 3) := by decide +kernel
theorem dX7_areRivers_19 : decode cX7_areRivers 19 = .ok (.aload_n 0, 1) := by decide +kernel
theorem dX7_areRivers_20 : decode cX7_areRivers 20 = .ok (.getfield 36, 3) := by decide +kernel
theorem dX7_areRivers_23 : decode cX7_areRivers 23 = .ok (.iload_n 2, 1) := by decide +kernel
theorem dX7_areRivers_24 : decode cX7_areRivers 24 = .ok (.bipush 40, 2) := by decide +kernel
theorem dX7_areRivers_26 : decode cX7_areRivers 26 = .ok (.imul, 1) := by decide +kernel
theorem dX7_areRivers_27 : decode cX7_areRivers 27 = .ok (.iload_n 1, 1) := by decide +kernel
theorem dX7_areRivers_28 : decode cX7_areRivers 28 = .ok (.iadd, 1) := by decide +kernel
theorem dX7_areRivers_29 : decode cX7_areRivers 29 = .ok (.iaload, 1) := by decide +kernel
theorem dX7_areRivers_30 : decode cX7_areRivers 30 = .ok (.aload_n 0, 1) := by decide +kernel
theorem dX7_areRivers_31 : decode cX7_areRivers 31 = .ok (.getfield 36, 3) := by decide +kernel
theorem dX7_areRivers_34 : decode cX7_areRivers 34 = .ok (.iload 4, 2) := by decide +kernel
theorem dX7_areRivers_36 : decode cX7_areRivers 36 = .ok (.bipush 40, 2) := by decide +kernel
theorem dX7_areRivers_38 : decode cX7_areRivers 38 = .ok (.imul, 1) := by decide +kernel
theorem dX7_areRivers_39 : decode cX7_areRivers 39 = .ok (.iload_n 3, 1) := by decide +kernel
theorem dX7_areRivers_40 : decode cX7_areRivers 40 = .ok (.iadd, 1) := by decide +kernel
theorem dX7_areRivers_41 : decode cX7_areRivers 41 = .ok (.iaload, 1) := by decide +kernel
theorem dX7_areRivers_42 : decode cX7_areRivers 42 = .ok (.iand, 1) := by decide +kernel
theorem dX7_areRivers_43 : decode cX7_areRivers 43 = .ok (.sipush 128, 3) := by decide +kernel
theorem dX7_areRivers_46 : decode cX7_areRivers 46 = .ok (.iand, 1) := by decide +kernel
theorem dX7_areRivers_47 : decode cX7_areRivers 47 = .ok (.ifCond .eq 7, 3) := by decide +kernel
theorem dX7_areRivers_50 : decode cX7_areRivers 50 = .ok (.iconst 1, 1) := by decide +kernel
theorem dX7_areRivers_51 : decode cX7_areRivers 51 = .ok (.goto 4, 3) := by decide +kernel
theorem dX7_areRivers_54 : decode cX7_areRivers 54 = .ok (.iconst 0, 1) := by decide +kernel
theorem dX7_areRivers_55 : decode cX7_areRivers 55 = .ok (.ireturn, 1) := by decide +kernel
theorem dX7_inRectangle_0 : decode cX7_inRectangle 0 = .ok (.aload_n 1, 1) := by decide +kernel
theorem dX7_inRectangle_1 : decode cX7_inRectangle 1 = .ok (.iload 5, 2) := by decide +kernel
theorem dX7_inRectangle_3 : decode cX7_inRectangle 3 = .ok (.bipush 41, 2) := by decide +kernel
theorem dX7_inRectangle_5 : decode cX7_inRectangle 5 = .ok (.imul, 1) := by decide +kernel
theorem dX7_inRectangle_6 : decode cX7_inRectangle 6 = .ok (.iload 4, 2) := by decide +kernel
theorem dX7_inRectangle_8 : decode cX7_inRectangle 8 = .ok (.iadd, 1) := by decide +kernel
theorem dX7_inRectangle_9 : decode cX7_inRectangle 9 = .ok (.iaload, 1) := by decide +kernel
theorem dX7_inRectangle_10 : decode cX7_inRectangle 10 = .ok (.aload_n 1, 1) := by decide +kernel
theorem dX7_inRectangle_11 : decode cX7_inRectangle 11 = .ok (.iload 5, 2) := by decide +kernel
theorem dX7_inRectangle_13 : decode cX7_inRectangle 13 = .ok (.bipush 41, 2) := by decide +kernel
theorem dX7_inRectangle_15 : decode cX7_inRectangle 15 = .ok (.imul, 1) := by decide +kernel
theorem dX7_inRectangle_16 : decode cX7_inRectangle 16 = .ok (.iload_n 2, 1) := by decide +kernel
theorem dX7_inRectangle_17 : decode cX7_inRectangle 17 = .ok (.iadd, 1) := by decide +kernel
theorem dX7_inRectangle_18 : decode cX7_inRectangle 18 = .ok (.iaload, 1) := by decide +kernel
theorem dX7_inRectangle_19 : decode cX7_inRectangle 19 = .ok (.isub, 1) := by decide +kernel
theorem dX7_inRectangle_20 : decode cX7_inRectangle 20 = .ok (.aload_n 1, 1) := by decide +kernel
theorem dX7_inRectangle_21 : decode cX7_inRectangle 21 = .ok (.iload_n 3, 1) := by decide +kernel
theorem dX7_inRectangle_22 : decode cX7_inRectangle 22 = .ok (.bipush 41, 2) := by decide +kernel
theorem dX7_inRectangle_24 : decode cX7_inRectangle 24 = .ok (.imul, 1) := by decide +kernel
theorem dX7_inRectangle_25 : decode cX7_inRectangle 25 = .ok (.iload 4, 2) := by decide +kernel
theorem dX7_inRectangle_27 : decode cX7_inRectangle 27 = .ok (.iadd, 1) := by decide +kernel
theorem dX7_inRectangle_28 : decode cX7_inRectangle 28 = .ok (.iaload, 1) := by decide +kernel
theorem dX7_inRectangle_29 : decode cX7_inRectangle 29 = .ok (.isub, 1) := by decide +kernel
theorem dX7_inRectangle_30 : decode cX7_inRectangle 30 = .ok (.aload_n 1, 1) := by decide +kernel
theorem dX7_inRectangle_31 : decode cX7_inRectangle 31 = .ok (.iload_n 3, 1) := by decide +kernel
theorem dX7_inRectangle_32 : decode cX7_inRectangle 32 = .ok (.bipush 41, 2) := by decide +kernel
theorem dX7_inRectangle_34 : decode cX7_inRectangle 34 = .ok (.imul, 1) := by decide +kernel
theorem dX7_inRectangle_35 : decode cX7_inRectangle 35 = .ok (.iload_n 2, 1) := by decide +kernel
theorem dX7_inRectangle_36 : decode cX7_inRectangle 36 = .ok (.iadd, 1) := by decide +kernel
theorem dX7_inRectangle_37 : decode cX7_inRectangle 37 = .ok (.iaload, 1) := by decide +kernel
theorem dX7_inRectangle_38 : decode cX7_inRectangle 38 = .ok (.iadd, 1) := by decide +kernel
theorem dX7_inRectangle_39 : decode cX7_inRectangle 39 = .ok (.ireturn, 1) := by decide +kernel
theorem dX7_inThing_0 : decode cX7_inThing 0 = .ok (.aload_n 0, 1) := by decide +kernel
theorem dX7_inThing_1 : decode cX7_inThing 1 = .ok (.aload_n 1, 1) := by decide +kernel
theorem dX7_inThing_2 : decode cX7_inThing 2 = .ok (.aload_n 2, 1) := by decide +kernel
theorem dX7_inThing_3 : decode cX7_inThing 3 = .ok (.getfield 55, 3) := by decide +kernel
theorem dX7_inThing_6 : decode cX7_inThing 6 = .ok (.aload_n 2, 1) := by decide +kernel
theorem dX7_inThing_7 : decode cX7_inThing 7 = .ok (.getfield 60, 3) := by decide +kernel
theorem dX7_inThing_10 : decode cX7_inThing 10 = .ok (.aload_n 2, 1) := by decide +kernel
theorem dX7_inThing_11 : decode cX7_inThing 11 = .ok (.getfield 63, 3) := by decide +kernel
theorem dX7_inThing_14 : decode cX7_inThing 14 = .ok (.aload_n 2, 1) := by decide +kernel
theorem dX7_inThing_15 : decode cX7_inThing 15 = .ok (.getfield 66, 3) := by decide +kernel
theorem dX7_inThing_18 : decode cX7_inThing 18 = .ok (.invokevirtual 69, 3) := by decide +kernel
theorem dX7_inThing_21 : decode cX7_inThing 21 = .ok (.ireturn, 1) := by decide +kernel
theorem dX7_onGround_0 : decode cX7_onGround 0 = .ok (.aload_n 0, 1) := by decide +kernel
theorem dX7_onGround_1 : decode cX7_onGround 1 = .ok (.aload_n 1, 1) := by decide +kernel
theorem dX7_onGround_2 : decode cX7_onGround 2 = .ok (.aload_n 2, 1) := by decide +kernel
theorem dX7_onGround_3 : decode cX7_onGround 3 = .ok (.getfield 73, 3) := by decide +kernel
theorem dX7_onGround_6 : decode cX7_onGround 6 = .ok (.aload_n 2, 1) := by decide +kernel
theorem dX7_onGround_7 : decode cX7_onGround 7 = .ok (.getfield 76, 3) := by decide +kernel
theorem dX7_onGround_10 : decode cX7_onGround 10 = .ok (.aload_n 2, 1) := by decide +kernel
theorem dX7_onGround_11 : decode cX7_onGround 11 = .ok (.getfield 77, 3) := by decide +kernel
theorem dX7_onGround_14 : decode cX7_onGround 14 = .ok (.aload_n 2, 1) := by decide +kernel
theorem dX7_onGround_15 : decode cX7_onGround 15 = .ok (.getfield 78, 3) := by decide +kernel
theorem dX7_onGround_18 : decode cX7_onGround 18 = .ok (.invokevirtual 69, 3) := by decide +kernel
theorem dX7_onGround_21 : decode cX7_onGround 21 = .ok (.aload_n 0, 1) := by decide +kernel
theorem dX7_onGround_22 : decode cX7_onGround 22 = .ok (.aload_n 1, 1) := by decide +kernel
theorem dX7_onGround_23 : decode cX7_onGround 23 = .ok (.aload_n 3, 1) := by decide +kernel
theorem dX7_onGround_24 : decode cX7_onGround 24 = .ok (.invokevirtual 79, 3) := by decide +kernel
theorem dX7_onGround_27 : decode cX7_onGround 27 = .ok (.isub, 1) := by decide +kernel
theorem dX7_onGround_28 : decode cX7_onGround 28 = .ok (.istore 5, 2) := by decide +kernel
theorem dX7_onGround_30 : decode cX7_onGround 30 = .ok (.aload 4, 2) := by decide +kernel
theorem dX7_onGround_32 : decode cX7_onGround 32 = .ok (.ifnonnull 8, 3) := by decide +kernel
theorem dX7_onGround_35 : decode cX7_onGround 35 = .ok (.iload 5, 2) := by decide +kernel
theorem dX7_onGround_37 : decode cX7_onGround 37 = .ok (.goto 13, 3) := by decide +kernel
theorem dX7_onGround_40 : decode cX7_onGround 40 = .ok (.iload 5, 2) := by decide +kernel
theorem dX7_onGround_42 : decode cX7_onGround 42 = .ok (.aload_n 0, 1) := by decide +kernel
theorem dX7_onGround_43 : decode cX7_onGround 43 = .ok (.aload_n 1, 1) := by decide +kernel
theorem dX7_onGround_44 : decode cX7_onGround 44 = .ok (.aload 4, 2) := by decide +kernel
theorem dX7_onGround_46 : decode cX7_onGround 46 = .ok (.invokevirtual 79, 3) := by decide +kernel
theorem dX7_onGround_49 : decode cX7_onGround 49 = .ok (.isub, 1) := by decide +kernel
theorem dX7_onGround_50 : decode cX7_onGround 50 = .ok (.ireturn, 1) := by decide +kernel
theorem dX7_linesInRivers_0 : decode cX7_linesInRivers 0 = .ok (.aload_n 0, 1) := by decide +kernel
theorem dX7_linesInRivers_1 : decode cX7_linesInRivers 1 = .ok (.getfield 21, 3) := by decide +kernel
theorem dX7_linesInRivers_4 : decode cX7_linesInRivers 4 = .ok (.aload_n 1, 1) := by decide +kernel
theorem dX7_linesInRivers_5 : decode cX7_linesInRivers 5 = .ok (.getfield 76, 3) := by decide +kernel
theorem dX7_linesInRivers_8 : decode cX7_linesInRivers 8 = .ok (.bipush 41, 2) := by decide +kernel
theorem dX7_linesInRivers_10 : decode cX7_linesInRivers 10 = .ok (.imul, 1) := by decide +kernel
theorem dX7_linesInRivers_11 : decode cX7_linesInRivers 11 = .ok (.aload_n 1, 1) := by decide +kernel
theorem dX7_linesInRivers_12 : decode cX7_linesInRivers 12 = .ok (.getfield 77, 3) := by decide +kernel
theorem dX7_linesInRivers_15 : decode cX7_linesInRivers 15 = .ok (.iadd, 1) := by decide +kernel
theorem dX7_linesInRivers_16 : decode cX7_linesInRivers 16 = .ok (.iaload, 1) := by decide +kernel
theorem dX7_linesInRivers_17 : decode cX7_linesInRivers 17 = .ok (.aload_n 0, 1) := by decide +kernel
theorem dX7_linesInRivers_18 : decode cX7_linesInRivers 18 = .ok (.getfield 21, 3) := by decide +kernel
theorem dX7_linesInRivers_21 : decode cX7_linesInRivers 21 = .ok (.aload_n 1, 1) := by decide +kernel
theorem dX7_linesInRivers_22 : decode cX7_linesInRivers 22 = .ok (.getfield 76, 3) := by decide +kernel
theorem dX7_linesInRivers_25 : decode cX7_linesInRivers 25 = .ok (.bipush 41, 2) := by decide +kernel
theorem dX7_linesInRivers_27 : decode cX7_linesInRivers 27 = .ok (.imul, 1) := by decide +kernel
theorem dX7_linesInRivers_28 : decode cX7_linesInRivers 28 = .ok (.aload_n 1, 1) := by decide +kernel
theorem dX7_linesInRivers_29 : decode cX7_linesInRivers 29 = .ok (.getfield 73, 3) := by decide +kernel
theorem dX7_linesInRivers_32 : decode cX7_linesInRivers 32 = .ok (.iadd, 1) := by decide +kernel
theorem dX7_linesInRivers_33 : decode cX7_linesInRivers 33 = .ok (.iaload, 1) := by decide +kernel
theorem dX7_linesInRivers_34 : decode cX7_linesInRivers 34 = .ok (.if_icmp .ne 114, 3) := by decide +kernel
theorem dX7_linesInRivers_37 : decode cX7_linesInRivers 37 = .ok (.aload_n 0, 1) := by decide +kernel
theorem dX7_linesInRivers_38 : decode cX7_linesInRivers 38 = .ok (.getfield 21, 3) := by decide +kernel
theorem dX7_linesInRivers_41 : decode cX7_linesInRivers 41 = .ok (.aload_n 1, 1) := by decide +kernel
theorem dX7_linesInRivers_42 : decode cX7_linesInRivers 42 = .ok (.getfield 78, 3) := by decide +kernel
theorem dX7_linesInRivers_45 : decode cX7_linesInRivers 45 = .ok (.bipush 41, 2) := by decide +kernel
theorem dX7_linesInRivers_47 : decode cX7_linesInRivers 47 = .ok (.imul, 1) := by decide +kernel
theorem dX7_linesInRivers_48 : decode cX7_linesInRivers 48 = .ok (.aload_n 1, 1) := by decide +kernel
theorem dX7_linesInRivers_49 : decode cX7_linesInRivers 49 = .ok (.getfield 77, 3) := by decide +kernel
theorem dX7_linesInRivers_52 : decode cX7_linesInRivers 52 = .ok (.iadd, 1) := by decide +kernel
theorem dX7_linesInRivers_53 : decode cX7_linesInRivers 53 = .ok (.iaload, 1) := by decide +kernel
theorem dX7_linesInRivers_54 : decode cX7_linesInRivers 54 = .ok (.aload_n 0, 1) := by decide +kernel
theorem dX7_linesInRivers_55 : decode cX7_linesInRivers 55 = .ok (.getfield 21, 3) := by decide +kernel
theorem dX7_linesInRivers_58 : decode cX7_linesInRivers 58 = .ok (.aload_n 1, 1) := by decide +kernel
theorem dX7_linesInRivers_59 : decode cX7_linesInRivers 59 = .ok (.getfield 78, 3) := by decide +kernel
theorem dX7_linesInRivers_62 : decode cX7_linesInRivers 62 = .ok (.bipush 41, 2) := by decide +kernel
theorem dX7_linesInRivers_64 : decode cX7_linesInRivers 64 = .ok (.imul, 1) := by decide +kernel
theorem dX7_linesInRivers_65 : decode cX7_linesInRivers 65 = .ok (.aload_n 1, 1) := by decide +kernel
theorem dX7_linesInRivers_66 : decode cX7_linesInRivers 66 = .ok (.getfield 73, 3) := by decide +kernel
theorem dX7_linesInRivers_69 : decode cX7_linesInRivers 69 = .ok (.iadd, 1) := by decide +kernel
theorem dX7_linesInRivers_70 : decode cX7_linesInRivers 70 = .ok (.iaload, 1) := by decide +kernel
theorem dX7_linesInRivers_71 : decode cX7_linesInRivers 71 = .ok (.if_icmp .ne 77, 3) := by decide +kernel
theorem dX7_linesInRivers_74 : decode cX7_linesInRivers 74 = .ok (.aload_n 0, 1) := by decide +kernel
theorem dX7_linesInRivers_75 : decode cX7_linesInRivers 75 = .ok (.getfield 24, 3) := by decide +kernel
theorem dX7_linesInRivers_78 : decode cX7_linesInRivers 78 = .ok (.aload_n 1, 1) := by decide +kernel
theorem dX7_linesInRivers_79 : decode cX7_linesInRivers 79 = .ok (.getfield 73, 3) := by decide +kernel
theorem dX7_linesInRivers_82 : decode cX7_linesInRivers 82 = .ok (.bipush 41, 2) := by decide +kernel
theorem dX7_linesInRivers_84 : decode cX7_linesInRivers 84 = .ok (.imul, 1) := by decide +kernel
theorem dX7_linesInRivers_85 : decode cX7_linesInRivers 85 = .ok (.aload_n 1, 1) := by decide +kernel
theorem dX7_linesInRivers_86 : decode cX7_linesInRivers 86 = .ok (.getfield 78, 3) := by decide +kernel
theorem dX7_linesInRivers_89 : decode cX7_linesInRivers 89 = .ok (.iadd, 1) := by decide +kernel
theorem dX7_linesInRivers_90 : decode cX7_linesInRivers 90 = .ok (.iaload, 1) := by decide +kernel
theorem dX7_linesInRivers_91 : decode cX7_linesInRivers 91 = .ok (.aload_n 0, 1) := by decide +kernel
theorem dX7_linesInRivers_92 : decode cX7_linesInRivers 92 = .ok (.getfield 24, 3) := by decide +kernel
theorem dX7_linesInRivers_95 : decode cX7_linesInRivers 95 = .ok (.aload_n 1, 1) := by decide +kernel
theorem dX7_linesInRivers_96 : decode cX7_linesInRivers 96 = .ok (.getfield 73, 3) := by decide +kernel
theorem dX7_linesInRivers_99 : decode cX7_linesInRivers 99 = .ok (.bipush 41, 2) := by decide +kernel
theorem dX7_linesInRivers_101 : decode cX7_linesInRivers 101 = .ok (.imul, 1) := by decide +kernel
theorem dX7_linesInRivers_102 : decode cX7_linesInRivers 102 = .ok (.aload_n 1, 1) := by decide +kernel
theorem dX7_linesInRivers_103 : decode cX7_linesInRivers 103 = .ok (.getfield 76, 3) := by decide +kernel
theorem dX7_linesInRivers_106 : decode cX7_linesInRivers 106 = .ok (.iadd, 1) := by decide +kernel
theorem dX7_linesInRivers_107 : decode cX7_linesInRivers 107 = .ok (.iaload, 1) := by decide +kernel
theorem dX7_linesInRivers_108 : decode cX7_linesInRivers 108 = .ok (.if_icmp .ne 40, 3) := by decide +kernel
theorem dX7_linesInRivers_111 : decode cX7_linesInRivers 111 = .ok (.aload_n 0, 1) := by decide +kernel
theorem dX7_linesInRivers_112 : decode cX7_linesInRivers 112 = .ok (.getfield 24, 3) := by decide +kernel
theorem dX7_linesInRivers_115 : decode cX7_linesInRivers 115 = .ok (.aload_n 1, 1) := by decide +kernel
theorem dX7_linesInRivers_116 : decode cX7_linesInRivers 116 = .ok (.getfield 77, 3) := by decide +kernel
theorem dX7_linesInRivers_119 : decode cX7_linesInRivers 119 = .ok (.bipush 41, 2) := by decide +kernel
theorem dX7_linesInRivers_121 : decode cX7_linesInRivers 121 = .ok (.imul, 1) := by decide +kernel
theorem dX7_linesInRivers_122 : decode cX7_linesInRivers 122 = .ok (.aload_n 1, 1) := by decide +kernel
theorem dX7_linesInRivers_123 : decode cX7_linesInRivers 123 = .ok (.getfield 78, 3) := by decide +kernel
theorem dX7_linesInRivers_126 : decode cX7_linesInRivers 126 = .ok (.iadd, 1) := by decide +kernel
theorem dX7_linesInRivers_127 : decode cX7_linesInRivers 127 = .ok (.iaload, 1) := by decide +kernel
theorem dX7_linesInRivers_128 : decode cX7_linesInRivers 128 = .ok (.aload_n 0, 1) := by decide +kernel
theorem dX7_linesInRivers_129 : decode cX7_linesInRivers 129 = .ok (.getfield 24, 3) := by decide +kernel
theorem dX7_linesInRivers_132 : decode cX7_linesInRivers 132 = .ok (.aload_n 1, 1) := by decide +kernel
theorem dX7_linesInRivers_133 : decode cX7_linesInRivers 133 = .ok (.getfield 77, 3) := by decide +kernel
theorem dX7_linesInRivers_136 : decode cX7_linesInRivers 136 = .ok (.bipush 41, 2) := by decide +kernel
theorem dX7_linesInRivers_138 : decode cX7_linesInRivers 138 = .ok (.imul, 1) := by decide +kernel
theorem dX7_linesInRivers_139 : decode cX7_linesInRivers 139 = .ok (.aload_n 1, 1) := by decide +kernel
theorem dX7_linesInRivers_140 : decode cX7_linesInRivers 140 = .ok (.getfield 76, 3) := by decide +kernel
theorem dX7_linesInRivers_143 : decode cX7_linesInRivers 143 = .ok (.iadd, 1) := by decide +kernel
theorem dX7_linesInRivers_144 : decode cX7_linesInRivers 144 = .ok (.iaload, 1) := by decide +kernel
theorem dX7_linesInRivers_145 : decode cX7_linesInRivers 145 = .ok (.if_icmp .eq 7, 3) := by decide +kernel
theorem dX7_linesInRivers_148 : decode cX7_linesInRivers 148 = .ok (.iconst 1, 1) := by decide +kernel
theorem dX7_linesInRivers_149 : decode cX7_linesInRivers 149 = .ok (.goto 4, 3) := by decide +kernel
theorem dX7_linesInRivers_152 : decode cX7_linesInRivers 152 = .ok (.iconst 0, 1) := by decide +kernel
theorem dX7_linesInRivers_153 : decode cX7_linesInRivers 153 = .ok (.ireturn, 1) := by decide +kernel
theorem dX8_init_0 : decode cX8_init 0 = .ok (.aload_n 0, 1) := by decide +kernel
theorem dX8_init_1 : decode cX8_init 1 = .ok (.invokespecial 3, 3) := by decide +kernel
theorem dX8_init_4 : decode cX8_init 4 = .ok (.aload_n 0, 1) := by decide +kernel
theorem dX8_init_5 : decode cX8_init 5 = .ok (.sipush 400, 3) := by decide +kernel
theorem dX8_init_8 : decode cX8_init 8 = .ok (.newarray .byte, 2) := by decide +kernel
theorem dX8_init_10 : decode cX8_init 10 = .ok (.putfield 11, 3) := by decide +kernel
theorem dX8_init_13 : decode cX8_init 13 = .ok (.aload_n 0, 1) := by decide +kernel
theorem dX8_init_14 : decode cX8_init 14 = .ok (.sipush 401, 3) := by decide +kernel
theorem dX8_init_17 : decode cX8_init 17 = .ok (.newarray .int, 2) := by decide +kernel
theorem dX8_init_19 : decode cX8_init 19 = .ok (.putfield 15, 3) := by decide +kernel
theorem dX8_init_22 : decode cX8_init 22 = .ok (.aload_n 0, 1) := by decide +kernel
theorem dX8_init_23 : decode cX8_init 23 = .ok (.sipush 401, 3) := by decide +kernel
theorem dX8_init_26 : decode cX8_init 26 = .ok (.newarray .int, 2) := by decide +kernel
theorem dX8_init_28 : decode cX8_init 28 = .ok (.putfield 19, 3) := by decide +kernel
theorem dX8_init_31 : decode cX8_init 31 = .ok (.aload_n 0, 1) := by decide +kernel
theorem dX8_init_32 : decode cX8_init 32 = .ok (.sipush 401, 3) := by decide +kernel
theorem dX8_init_35 : decode cX8_init 35 = .ok (.newarray .int, 2) := by decide +kernel
theorem dX8_init_37 : decode cX8_init 37 = .ok (.putfield 22, 3) := by decide +kernel
theorem dX8_init_40 : decode cX8_init 40 = .ok (.return_, 1) := by decide +kernel
theorem dX8_hasRoom_0 : decode cX8_hasRoom 0 = .ok (.aload_n 0, 1) := by decide +kernel
theorem dX8_hasRoom_1 : decode cX8_hasRoom 1 = .ok (.getfield 25, 3) := by decide +kernel
theorem dX8_hasRoom_4 : decode cX8_hasRoom 4 = .ok (.bipush 20, 2) := by decide +kernel
theorem dX8_hasRoom_6 : decode cX8_hasRoom 6 = .ok (.iadd, 1) := by decide +kernel
theorem dX8_hasRoom_7 : decode cX8_hasRoom 7 = .ok (.sipush 400, 3) := by decide +kernel
theorem dX8_hasRoom_10 : decode cX8_hasRoom 10 = .ok (.if_icmp .gt 7, 3) := by decide +kernel
theorem dX8_hasRoom_13 : decode cX8_hasRoom 13 = .ok (.iconst 1, 1) := by decide +kernel
theorem dX8_hasRoom_14 : decode cX8_hasRoom 14 = .ok (.goto 4, 3) := by decide +kernel
theorem dX8_hasRoom_17 : decode cX8_hasRoom 17 = .ok (.iconst 0, 1) := by decide +kernel
theorem dX8_hasRoom_18 : decode cX8_hasRoom 18 = .ok (.ireturn, 1) := by decide +kernel
theorem dX8_append_0 : decode cX8_append 0 = .ok (.bipush 24, 2) := by decide +kernel
theorem dX8_append_2 : decode cX8_append 2 = .ok (.istore_n 2, 1) := by decide +kernel
theorem dX8_append_3 : decode cX8_append 3 = .ok (.iload_n 2, 1) := by decide +kernel
theorem dX8_append_4 : decode cX8_append 4 = .ok (.ifCond .lt 42, 3) := by decide +kernel
theorem dX8_append_7 : decode cX8_append 7 = .ok (.aload_n 0, 1) := by decide +kernel
theorem dX8_append_8 : decode cX8_append 8 = .ok (.getfield 25, 3) := by decide +kernel
theorem dX8_append_11 : decode cX8_append 11 = .ok (.sipush 400, 3) := by decide +kernel
theorem dX8_append_14 : decode cX8_append 14 = .ok (.if_icmp .ge 32, 3) := by decide +kernel
theorem dX8_append_17 : decode cX8_append 17 = .ok (.aload_n 0, 1) := by decide +kernel
theorem dX8_append_18 : decode cX8_append 18 = .ok (.getfield 11, 3) := by decide +kernel
theorem dX8_append_21 : decode cX8_append 21 = .ok (.aload_n 0, 1) := by decide +kernel
theorem dX8_append_22 : decode cX8_append 22 = .ok (.getfield 25, 3) := by decide +kernel
theorem dX8_append_25 : decode cX8_append 25 = .ok (.iload_n 1, 1) := by decide +kernel
theorem dX8_append_26 : decode cX8_append 26 = .ok (.iload_n 2, 1) := by decide +kernel
theorem dX8_append_27 : decode cX8_append 27 = .ok (.ishr, 1) := by decide +kernel
theorem dX8_append_28 : decode cX8_append 28 = .ok (.i2b, 1) := by decide +kernel
theorem dX8_append_29 : decode cX8_append 29 = .ok (.bastore, 1) := by decide +kernel
theorem dX8_append_30 : decode cX8_append 30 = .ok (.aload_n 0, 1) := by decide +kernel
theorem dX8_append_31 : decode cX8_append 31 = .ok (.dup, 1) := by decide +kernel
theorem dX8_append_32 : decode cX8_append 32 = .ok (.getfield 25, 3) := by decide +kernel
theorem dX8_append_35 : decode cX8_append 35 = .ok (.iconst 1, 1) := by decide +kernel
theorem dX8_append_36 : decode cX8_append 36 = .ok (.iadd, 1) := by decide +kernel
theorem dX8_append_37 : decode cX8_append 37 = .ok (.putfield 25, 3) := by decide +kernel
theorem dX8_append_40 : decode cX8_append 40 = .ok (.iinc 2 (-8), 3) := by decide +kernel
theorem dX8_append_43 : decode cX8_append 43 = .ok (.goto (-40), 3) := by decide +kernel
theorem dX8_append_46 : decode cX8_append 46 = .ok (.return_, 1) := by decide +kernel
theorem dX8_open_0 : decode cX8_open 0 = .ok (.aload_n 0, 1) := by decide +kernel
theorem dX8_open_1 : decode cX8_open 1 = .ok (.iconst 0, 1) := by decide +kernel
theorem dX8_open_2 : decode cX8_open 2 = .ok (.putfield 29, 3) := by decide +kernel
theorem dX8_open_5 : decode cX8_open 5 = .ok (.iconst 0, 1) := by decide +kernel
theorem dX8_open_6 : decode cX8_open 6 = .ok (.istore_n 1, 1) := by decide +kernel
theorem dX8_open_7 : decode cX8_open 7 = .ok (.iconst 0, 1) := by decide +kernel
theorem dX8_open_8 : decode cX8_open 8 = .ok (.istore_n 2, 1) := by decide +kernel
theorem dX8_open_9 : decode cX8_open 9 = .ok (.iload_n 2, 1) := by decide +kernel
theorem dX8_open_10 : decode cX8_open 10 = .ok (.aload_n 0, 1) := by decide +kernel
theorem dX8_open_11 : decode cX8_open 11 = .ok (.getfield 25, 3) := by decide +kernel
theorem dX8_open_14 : decode cX8_open 14 = .ok (.if_icmp .ge 41, 3) := by decide +kernel
theorem dX8_open_17 : decode cX8_open 17 = .ok (.iload_n 2, 1) := by decide +kernel
theorem dX8_open_18 : decode cX8_open 18 = .ok (.iload_n 1, 1) := by decide +kernel
theorem dX8_open_19 : decode cX8_open 19 = .ok (.if_icmp .lt 30, 3) := by decide +kernel
theorem dX8_open_22 : decode cX8_open 22 = .ok (.aload_n 0, 1) := by decide +kernel
theorem dX8_open_23 : decode cX8_open 23 = .ok (.getfield 11, 3) := by decide +kernel
theorem dX8_open_26 : decode cX8_open 26 = .ok (.iload_n 2, 1) := by decide +kernel
theorem dX8_open_27 : decode cX8_open 27 = .ok (.baload, 1) := by decide +kernel
theorem dX8_open_28 : decode cX8_open 28 = .ok (.bipush 32, 2) := by decide +kernel
theorem dX8_open_30 : decode cX8_open 30 = .ok (.if_icmp .eq 19, 3) := by decide +kernel
theorem dX8_open_33 : decode cX8_open 33 = .ok (.aload_n 0, 1) := by decide +kernel
theorem dX8_open_34 : decode cX8_open 34 = .ok (.iload_n 2, 1) := by decide +kernel
theorem dX8_open_35 : decode cX8_open 35 = .ok (.invokevirtual 32, 3) := by decide +kernel
theorem dX8_open_38 : decode cX8_open 38 = .ok (.istore_n 1, 1) := by decide +kernel
theorem dX8_open_39 : decode cX8_open 39 = .ok (.aload_n 0, 1) := by decide +kernel
theorem dX8_open_40 : decode cX8_open 40 = .ok (.dup, 1) := by decide +kernel
theorem dX8_open_41 : decode cX8_open 41 = .ok (.getfield 29, 3) := by decide +kernel
theorem dX8_open_44 : decode cX8_open 44 = .ok (.iconst 1, 1) := by decide +kernel
theorem dX8_open_45 : decode cX8_open 45 = .ok (.iadd, 1) := by decide +kernel
theorem dX8_open_46 : decode cX8_open 46 = .ok (.putfield 29, 3) := by decide +kernel
theorem dX8_open_49 : decode cX8_open 49 = .ok (.iinc 2 1, 3) := by decide +kernel
theorem dX8_open_52 : decode cX8_open 52 = .ok (.goto (-43), 3) := by decide +kernel
theorem dX8_open_55 : decode cX8_open 55 = .ok (.aload_n 0, 1) := by decide +kernel
theorem dX8_open_56 : decode cX8_open 56 = .ok (.getfield 15, 3) := by decide +kernel
theorem dX8_open_59 : decode cX8_open 59 = .ok (.aload_n 0, 1) := by decide +kernel
theorem dX8_open_60 : decode cX8_open 60 = .ok (.getfield 29, 3) := by decide +kernel
theorem dX8_open_63 : decode cX8_open 63 = .ok (.iconst 0, 1) := by decide +kernel
theorem dX8_open_64 : decode cX8_open 64 = .ok (.iastore, 1) := by decide +kernel
theorem dX8_open_65 : decode cX8_open 65 = .ok (.aload_n 0, 1) := by decide +kernel
theorem dX8_open_66 : decode cX8_open 66 = .ok (.getfield 19, 3) := by decide +kernel
theorem dX8_open_69 : decode cX8_open 69 = .ok (.aload_n 0, 1) := by decide +kernel
theorem dX8_open_70 : decode cX8_open 70 = .ok (.getfield 29, 3) := by decide +kernel
theorem dX8_open_73 : decode cX8_open 73 = .ok (.aload_n 0, 1) := by decide +kernel
theorem dX8_open_74 : decode cX8_open 74 = .ok (.getfield 25, 3) := by decide +kernel
theorem dX8_open_77 : decode cX8_open 77 = .ok (.iastore, 1) := by decide +kernel
theorem dX8_open_78 : decode cX8_open 78 = .ok (.aload_n 0, 1) := by decide +kernel
theorem dX8_open_79 : decode cX8_open 79 = .ok (.getfield 22, 3) := by decide +kernel
theorem dX8_open_82 : decode cX8_open 82 = .ok (.aload_n 0, 1) := by decide +kernel
theorem dX8_open_83 : decode cX8_open 83 = .ok (.getfield 29, 3) := by decide +kernel
theorem dX8_open_86 : decode cX8_open 86 = .ok (.iconst (-1), 1) := by decide +kernel
theorem dX8_open_87 : decode cX8_open 87 = .ok (.iastore, 1) := by decide +kernel
theorem dX8_open_88 : decode cX8_open 88 = .ok (.aload_n 0, 1) := by decide +kernel
theorem dX8_open_89 : decode cX8_open 89 = .ok (.iconst 0, 1) := by decide +kernel
theorem dX8_open_90 : decode cX8_open 90 = .ok (.putfield 36, 3) := by decide +kernel
theorem dX8_open_93 : decode cX8_open 93 = .ok (.aload_n 0, 1) := by decide +kernel
theorem dX8_open_94 : decode cX8_open 94 = .ok (.iconst (-1), 1) := by decide +kernel
theorem dX8_open_95 : decode cX8_open 95 = .ok (.putfield 39, 3) := by decide +kernel
theorem dX8_open_98 : decode cX8_open 98 = .ok (.aload_n 0, 1) := by decide +kernel
theorem dX8_open_99 : decode cX8_open 99 = .ok (.invokevirtual 42, 3) := by decide +kernel
theorem dX8_open_102 : decode cX8_open 102 = .ok (.return_, 1) := by decide +kernel
theorem dX8_next_0 : decode cX8_next 0 = .ok (.aload_n 0, 1) := by decide +kernel
theorem dX8_next_1 : decode cX8_next 1 = .ok (.getfield 39, 3) := by decide +kernel
theorem dX8_next_4 : decode cX8_next 4 = .ok (.aload_n 0, 1) := by decide +kernel
theorem dX8_next_5 : decode cX8_next 5 = .ok (.getfield 29, 3) := by decide +kernel
theorem dX8_next_8 : decode cX8_next 8 = .ok (.if_icmp .ge 13, 3) := by decide +kernel
theorem dX8_next_11 : decode cX8_next 11 = .ok (.aload_n 0, 1) := by decide +kernel
theorem dX8_next_12 : decode cX8_next 12 = .ok (.dup, 1) := by decide +kernel
theorem dX8_next_13 : decode cX8_next 13 = .ok (.getfield 39, 3) := by decide +kernel
theorem dX8_next_16 : decode cX8_next 16 = .ok (.iconst 1, 1) := by decide +kernel
theorem dX8_next_17 : decode cX8_next 17 = .ok (.iadd, 1) := by decide +kernel
theorem dX8_next_18 : decode cX8_next 18 = .ok (.putfield 39, 3) := by decide +kernel
theorem dX8_next_21 : decode cX8_next 21 = .ok (.aload_n 0, 1) := by decide +kernel
theorem dX8_next_22 : decode cX8_next 22 = .ok (.aload_n 0, 1) := by decide +kernel
theorem dX8_next_23 : decode cX8_next 23 = .ok (.getfield 15, 3) := by decide +kernel
theorem dX8_next_26 : decode cX8_next 26 = .ok (.aload_n 0, 1) := by decide +kernel
theorem dX8_next_27 : decode cX8_next 27 = .ok (.getfield 39, 3) := by decide +kernel
theorem dX8_next_30 : decode cX8_next 30 = .ok (.iaload, 1) := by decide +kernel
theorem dX8_next_31 : decode cX8_next 31 = .ok (.putfield 45, 3) := by decide +kernel
theorem dX8_next_34 : decode cX8_next 34 = .ok (.aload_n 0, 1) := by decide +kernel
theorem dX8_next_35 : decode cX8_next 35 = .ok (.aload_n 0, 1) := by decide +kernel
theorem dX8_next_36 : decode cX8_next 36 = .ok (.getfield 19, 3) := by decide +kernel
theorem dX8_next_39 : decode cX8_next 39 = .ok (.aload_n 0, 1) := by decide +kernel
theorem dX8_next_40 : decode cX8_next 40 = .ok (.getfield 39, 3) := by decide +kernel
theorem dX8_next_43 : decode cX8_next 43 = .ok (.iaload, 1) := by decide +kernel
theorem dX8_next_44 : decode cX8_next 44 = .ok (.putfield 48, 3) := by decide +kernel
theorem dX8_next_47 : decode cX8_next 47 = .ok (.aload_n 0, 1) := by decide +kernel
theorem dX8_next_48 : decode cX8_next 48 = .ok (.aload_n 0, 1) := by decide +kernel
theorem dX8_next_49 : decode cX8_next 49 = .ok (.getfield 22, 3) := by decide +kernel
theorem dX8_next_52 : decode cX8_next 52 = .ok (.aload_n 0, 1) := by decide +kernel
theorem dX8_next_53 : decode cX8_next 53 = .ok (.getfield 39, 3) := by decide +kernel
theorem dX8_next_56 : decode cX8_next 56 = .ok (.iaload, 1) := by decide +kernel
theorem dX8_next_57 : decode cX8_next 57 = .ok (.putfield 51, 3) := by decide +kernel
theorem dX8_next_60 : decode cX8_next 60 = .ok (.return_, 1) := by decide +kernel
theorem dX8_split_0 : decode cX8_split 0 = .ok (.aload_n 0, 1) := by decide +kernel
theorem dX8_split_1 : decode cX8_split 1 = .ok (.getfield 11, 3) := by decide +kernel
theorem dX8_split_4 : decode cX8_split 4 = .ok (.iload_n 1, 1) := by decide +kernel
theorem dX8_split_5 : decode cX8_split 5 = .ok (.baload, 1) := by decide +kernel
theorem dX8_split_6 : decode cX8_split 6 = .ok (.istore_n 2, 1) := by decide +kernel
theorem dX8_split_7 : decode cX8_split 7 = .ok (.aload_n 0, 1) := by decide +kernel
theorem dX8_split_8 : decode cX8_split 8 = .ok (.getfield 19, 3) := by decide +kernel
theorem dX8_split_11 : decode cX8_split 11 = .ok (.aload_n 0, 1) := by decide +kernel
theorem dX8_split_12 : decode cX8_split 12 = .ok (.getfield 29, 3) := by decide +kernel
theorem dX8_split_15 : decode cX8_split 15 = .ok (.iload_n 1, 1) := by decide +kernel
theorem dX8_split_16 : decode cX8_split 16 = .ok (.iastore, 1) := by decide +kernel
theorem dX8_split_17 : decode cX8_split 17 = .ok (.iload_n 2, 1) := by decide +kernel
theorem dX8_split_18 : decode cX8_split 18 = .ok (.bipush 97, 2) := by decide +kernel
theorem dX8_split_20 : decode cX8_split 20 = .ok (.if_icmp .lt 15, 3) := by decide +kernel
theorem dX8_split_23 : decode cX8_split 23 = .ok (.iload_n 2, 1) := by decide +kernel
theorem dX8_split_24 : decode cX8_split 24 = .ok (.bipush 122, 2) := by decide +kernel
theorem dX8_split_26 : decode cX8_split 26 = .ok (.if_icmp .gt 9, 3) := by decide +kernel
theorem dX8_split_29 : decode cX8_split 29 = .ok (.aload_n 0, 1) := by decide +kernel
theorem dX8_split_30 : decode cX8_split 30 = .ok (.iload_n 1, 1) := by decide +kernel
theorem dX8_split_31 : decode cX8_split 31 = .ok (.invokevirtual 54, 3) := by decide +kernel
theorem dX8_split_34 : decode cX8_split 34 = .ok (.ireturn, 1) := by decide +kernel
theorem dX8_split_35 : decode cX8_split 35 = .ok (.iload_n 2, 1) := by decide +kernel
theorem dX8_split_36 : decode cX8_split 36 = .ok (.bipush 48, 2) := by decide +kernel
theorem dX8_split_38 : decode cX8_split 38 = .ok (.if_icmp .lt 15, 3) := by decide +kernel
theorem dX8_split_41 : decode cX8_split 41 = .ok (.iload_n 2, 1) := by decide +kernel
theorem dX8_split_42 : decode cX8_split 42 = .ok (.bipush 57, 2) := by decide +kernel
theorem dX8_split_44 : decode cX8_split 44 = .ok (.if_icmp .gt 9, 3) := by decide +kernel
theorem dX8_split_47 : decode cX8_split 47 = .ok (.aload_n 0, 1) := by decide +kernel
theorem dX8_split_48 : decode cX8_split 48 = .ok (.iload_n 1, 1) := by decide +kernel
theorem dX8_split_49 : decode cX8_split 49 = .ok (.invokevirtual 57, 3) := by decide +kernel
theorem dX8_split_52 : decode cX8_split 52 = .ok (.ireturn, 1) := by decide +kernel
theorem dX8_split_53 : decode cX8_split 53 = .ok (.iload_n 2, 1) := by decide +kernel
theorem dX8_split_54 : decode cX8_split 54 = .ok (.bipush 60, 2) := by decide +kernel
theorem dX8_split_56 : decode cX8_split 56 = .ok (.if_icmp .eq 9, 3) := by decide +kernel
theorem dX8_split_59 : decode cX8_split 59 = .ok (.iload_n 2, 1) := by decide +kernel
theorem dX8_split_60 : decode cX8_split 60 = .ok (.bipush 62, 2) := by decide +kernel
theorem dX8_split_62 : decode cX8_split 62 = .ok (.if_icmp .ne 30, 3) := by decide +kernel
theorem dX8_split_65 : decode cX8_split 65 = .ok (.iload_n 1, 1) := by decide +kernel
theorem dX8_split_66 : decode cX8_split 66 = .ok (.iconst 1, 1) := by decide +kernel
theorem dX8_split_67 : decode cX8_split 67 = .ok (.iadd, 1) := by decide +kernel
theorem dX8_split_68 : decode cX8_split 68 = .ok (.aload_n 0, 1) := by decide +kernel
theorem dX8_split_69 : decode cX8_split 69 = .ok (.getfield 25, 3) := by decide +kernel
theorem dX8_split_72 : decode cX8_split 72 = .ok (.if_icmp .ge 20, 3) := by decide +kernel
theorem dX8_split_75 : decode cX8_split 75 = .ok (.aload_n 0, 1) := by decide +kernel
theorem dX8_split_76 : decode cX8_split 76 = .ok (.getfield 11, 3) := by decide +kernel
theorem dX8_split_79 : decode cX8_split 79 = .ok (.iload_n 1, 1) := by decide +kernel
theorem dX8_split_80 : decode cX8_split 80 = .ok (.iconst 1, 1) := by decide +kernel
theorem dX8_split_81 : decode cX8_split 81 = .ok (.iadd, 1) := by decide +kernel
theorem dX8_split_82 : decode cX8_split 82 = .ok (.baload, 1) := by decide +kernel
theorem dX8_split_83 : decode cX8_split 83 = .ok (.bipush 61, 2) := by decide +kernel
theorem dX8_split_85 : decode cX8_split 85 = .ok (.if_icmp .ne 7, 3) := by decide +kernel
theorem dX8_split_88 : decode cX8_split 88 = .ok (.iconst 1, 1) := by decide +kernel
theorem dX8_split_89 : decode cX8_split 89 = .ok (.goto 4, 3) := by decide +kernel
theorem dX8_split_92 : decode cX8_split 92 = .ok (.iconst 0, 1) := by decide +kernel
theorem dX8_split_93 : decode cX8_split 93 = .ok (.istore_n 3, 1) := by decide +kernel
theorem dX8_split_94 : decode cX8_split 94 = .ok (.aload_n 0, 1) := by decide +kernel
theorem dX8_split_95 : decode cX8_split 95 = .ok (.getfield 15, 3) := by decide +kernel
theorem dX8_split_98 : decode cX8_split 98 = .ok (.aload_n 0, 1) := by decide +kernel
theorem dX8_split_99 : decode cX8_split 99 = .ok (.getfield 29, 3) := by decide +kernel
theorem dX8_split_102 : decode cX8_split 102 = .ok (.iconst 3, 1) := by decide +kernel
theorem dX8_split_103 : decode cX8_split 103 = .ok (.iastore, 1) := by decide +kernel
theorem dX8_split_104 : decode cX8_split 104 = .ok (.aload_n 0, 1) := by decide +kernel
theorem dX8_split_105 : decode cX8_split 105 = .ok (.getfield 22, 3) := by decide +kernel
theorem dX8_split_108 : decode cX8_split 108 = .ok (.aload_n 0, 1) := by decide +kernel
theorem dX8_split_109 : decode cX8_split 109 = .ok (.getfield 29, 3) := by decide +kernel
theorem dX8_split_112 : decode cX8_split 112 = .ok (.iload_n 3, 1) := by decide +kernel
theorem dX8_split_113 : decode cX8_split 113 = .ok (.ifCond .ne 7, 3) := by decide +kernel
theorem dX8_split_116 : decode cX8_split 116 = .ok (.iload_n 2, 1) := by decide +kernel
theorem dX8_split_117 : decode cX8_split 117 = .ok (.goto 18, 3) := by decide +kernel
theorem dX8_split_120 : decode cX8_split 120 = .ok (.iload_n 2, 1) := by decide +kernel
theorem dX8_split_121 : decode cX8_split 121 = .ok (.bipush 60, 2) := by decide +kernel
theorem dX8_split_123 : decode cX8_split 123 = .ok (.if_icmp .ne 9, 3) := by decide +kernel
theorem dX8_split_126 : decode cX8_split 126 = .ok (.sipush 256, 3) := by decide +kernel
theorem dX8_split_129 : decode cX8_split 129 = .ok (.goto 6, 3) := by decide +kernel
theorem dX8_split_132 : decode cX8_split 132 = .ok (.sipush 257, 3) := by decide +kernel
theorem dX8_split_135 : decode cX8_split 135 = .ok (.iastore, 1) := by decide +kernel
theorem dX8_split_136 : decode cX8_split 136 = .ok (.iload_n 3, 1) := by decide +kernel
theorem dX8_split_137 : decode cX8_split 137 = .ok (.ifCond .eq 9, 3) := by decide +kernel
theorem dX8_split_140 : decode cX8_split 140 = .ok (.iload_n 1, 1) := by decide +kernel
theorem dX8_split_141 : decode cX8_split 141 = .ok (.iconst 2, 1) := by decide +kernel
theorem dX8_split_142 : decode cX8_split 142 = .ok (.iadd, 1) := by decide +kernel
theorem dX8_split_143 : decode cX8_split 143 = .ok (.goto 6, 3) := by decide +kernel
theorem dX8_split_146 : decode cX8_split 146 = .ok (.iload_n 1, 1) := by decide +kernel
theorem dX8_split_147 : decode cX8_split 147 = .ok (.iconst 1, 1) := by decide +kernel
theorem dX8_split_148 : decode cX8_split 148 = .ok (.iadd, 1) := by decide +kernel
theorem dX8_split_149 : decode cX8_split 149 = .ok (.ireturn, 1) := by decide +kernel
theorem dX8_splitWord_0 : decode cX8_splitWord 0 = .ok (.iload_n 1, 1) := by decide +kernel
theorem dX8_splitWord_1 : decode cX8_splitWord 1 = .ok (.istore_n 2, 1) := by decide +kernel
theorem dX8_splitWord_2 : decode cX8_splitWord 2 = .ok (.iload_n 2, 1) := by decide +kernel
theorem dX8_splitWord_3 : decode cX8_splitWord 3 = .ok (.aload_n 0, 1) := by decide +kernel
theorem dX8_splitWord_4 : decode cX8_splitWord 4 = .ok (.getfield 25, 3) := by decide +kernel
theorem dX8_splitWord_7 : decode cX8_splitWord 7 = .ok (.if_icmp .ge 31, 3) := by decide +kernel
theorem dX8_splitWord_10 : decode cX8_splitWord 10 = .ok (.aload_n 0, 1) := by decide +kernel
theorem dX8_splitWord_11 : decode cX8_splitWord 11 = .ok (.getfield 11, 3) := by decide +kernel
theorem dX8_splitWord_14 : decode cX8_splitWord 14 = .ok (.iload_n 2, 1) := by decide +kernel
theorem dX8_splitWord_15 : decode cX8_splitWord 15 = .ok (.baload, 1) := by decide +kernel
theorem dX8_splitWord_16 : decode cX8_splitWord 16 = .ok (.bipush 97, 2) := by decide +kernel
theorem dX8_splitWord_18 : decode cX8_splitWord 18 = .ok (.if_icmp .lt 20, 3) := by decide +kernel
theorem dX8_splitWord_21 : decode cX8_splitWord 21 = .ok (.aload_n 0, 1) := by decide +kernel
theorem dX8_splitWord_22 : decode cX8_splitWord 22 = .ok (.getfield 11, 3) := by decide +kernel
theorem dX8_splitWord_25 : decode cX8_splitWord 25 = .ok (.iload_n 2, 1) := by decide +kernel
theorem dX8_splitWord_26 : decode cX8_splitWord 26 = .ok (.baload, 1) := by decide +kernel
theorem dX8_splitWord_27 : decode cX8_splitWord 27 = .ok (.bipush 122, 2) := by decide +kernel
theorem dX8_splitWord_29 : decode cX8_splitWord 29 = .ok (.if_icmp .gt 9, 3) := by decide +kernel
theorem dX8_splitWord_32 : decode cX8_splitWord 32 = .ok (.iinc 2 1, 3) := by decide +kernel
theorem dX8_splitWord_35 : decode cX8_splitWord 35 = .ok (.goto (-33), 3) := by decide +kernel
theorem dX8_splitWord_38 : decode cX8_splitWord 38 = .ok (.aload_n 0, 1) := by decide +kernel
theorem dX8_splitWord_39 : decode cX8_splitWord 39 = .ok (.getfield 15, 3) := by decide +kernel
theorem dX8_splitWord_42 : decode cX8_splitWord 42 = .ok (.aload_n 0, 1) := by decide +kernel
theorem dX8_splitWord_43 : decode cX8_splitWord 43 = .ok (.getfield 29, 3) := by decide +kernel
theorem dX8_splitWord_46 : decode cX8_splitWord 46 = .ok (.iconst 1, 1) := by decide +kernel
theorem dX8_splitWord_47 : decode cX8_splitWord 47 = .ok (.iastore, 1) := by decide +kernel
theorem dX8_splitWord_48 : decode cX8_splitWord 48 = .ok (.aload_n 0, 1) := by decide +kernel
theorem dX8_splitWord_49 : decode cX8_splitWord 49 = .ok (.getfield 22, 3) := by decide +kernel
theorem dX8_splitWord_52 : decode cX8_splitWord 52 = .ok (.aload_n 0, 1) := by decide +kernel
theorem dX8_splitWord_53 : decode cX8_splitWord 53 = .ok (.getfield 29, 3) := by decide +kernel
theorem dX8_splitWord_56 : decode cX8_splitWord 56 = .ok (.aload_n 0, 1) := by decide +kernel
theorem dX8_splitWord_57 : decode cX8_splitWord 57 = .ok (.iload_n 1, 1) := by decide +kernel
theorem dX8_splitWord_58 : decode cX8_splitWord 58 = .ok (.iload_n 2, 1) := by decide +kernel
theorem dX8_splitWord_59 : decode cX8_splitWord 59 = .ok (.invokevirtual 60, 3) := by decide +kernel
theorem dX8_splitWord_62 : decode cX8_splitWord 62 = .ok (.iastore, 1) := by decide +kernel
theorem dX8_splitWord_63 : decode cX8_splitWord 63 = .ok (.iload_n 2, 1) := by decide +kernel
theorem dX8_splitWord_64 : decode cX8_splitWord 64 = .ok (.ireturn, 1) := by decide +kernel
theorem dX8_wordOf_0 : decode cX8_wordOf 0 = .ok (.iconst 0, 1) := by decide +kernel
theorem dX8_wordOf_1 : decode cX8_wordOf 1 = .ok (.istore_n 3, 1) := by decide +kernel
theorem dX8_wordOf_2 : decode cX8_wordOf 2 = .ok (.iload_n 1, 1) := by decide +kernel
theorem dX8_wordOf_3 : decode cX8_wordOf 3 = .ok (.istore 4, 2) := by decide +kernel
theorem dX8_wordOf_5 : decode cX8_wordOf 5 = .ok (.iconst 1, 1) := by decide +kernel
theorem dX8_wordOf_6 : decode cX8_wordOf 6 = .ok (.istore 5, 2) := by decide +kernel
theorem dX8_wordOf_8 : decode cX8_wordOf 8 = .ok (.iconst 0, 1) := by decide +kernel
theorem dX8_wordOf_9 : decode cX8_wordOf 9 = .ok (.istore 6, 2) := by decide +kernel
theorem dX8_wordOf_11 : decode cX8_wordOf 11 = .ok (.iload 6, 2) := by decide +kernel
theorem dX8_wordOf_13 : decode cX8_wordOf 13 = .ok (.ldc 64, 2) := by decide +kernel
theorem dX8_wordOf_15 : decode cX8_wordOf 15 = .ok (.invokevirtual 66, 3) := by decide +kernel
theorem dX8_wordOf_18 : decode cX8_wordOf 18 = .ok (.if_icmp .ge 83, 3) := by decide +kernel
theorem dX8_wordOf_21 : decode cX8_wordOf 21 = .ok (.ldc 64, 2) := by decide +kernel
theorem dX8_wordOf_23 : decode cX8_wordOf 23 = .ok (.iload 6, 2) := by decide +kernel
theorem dX8_wordOf_25 : decode cX8_wordOf 25 = .ok (.invokevirtual 71, 3) := by decide +kernel
theorem dX8_wordOf_28 : decode cX8_wordOf 28 = .ok (.istore 7, 2) := by decide +kernel
theorem dX8_wordOf_30 : decode cX8_wordOf 30 = .ok (.iload 7, 2) := by decide +kernel
theorem dX8_wordOf_32 : decode cX8_wordOf 32 = .ok (.bipush 32, 2) := by decide +kernel
theorem dX8_wordOf_34 : decode cX8_wordOf 34 = .ok (.if_icmp .ne 28, 3) := by decide +kernel
theorem dX8_wordOf_37 : decode cX8_wordOf 37 = .ok (.iload 5, 2) := by decide +kernel
theorem dX8_wordOf_39 : decode cX8_wordOf 39 = .ok (.ifCond .eq 11, 3) := by decide +kernel
theorem dX8_wordOf_42 : decode cX8_wordOf 42 = .ok (.iload 4, 2) := by decide +kernel
theorem dX8_wordOf_44 : decode cX8_wordOf 44 = .ok (.iload_n 2, 1) := by decide +kernel
theorem dX8_wordOf_45 : decode cX8_wordOf 45 = .ok (.if_icmp .ne 5, 3) := by decide +kernel
theorem dX8_wordOf_48 : decode cX8_wordOf 48 = .ok (.iload_n 3, 1) := by decide +kernel
theorem dX8_wordOf_49 : decode cX8_wordOf 49 = .ok (.ireturn, 1) := by decide +kernel
theorem dX8_wordOf_50 : decode cX8_wordOf 50 = .ok (.iinc 3 1, 3) := by decide +kernel
theorem dX8_wordOf_53 : decode cX8_wordOf 53 = .ok (.iload_n 1, 1) := by decide +kernel
theorem dX8_wordOf_54 : decode cX8_wordOf 54 = .ok (.istore 4, 2) := by decide +kernel
theorem dX8_wordOf_56 : decode cX8_wordOf 56 = .ok (.iconst 1, 1) := by decide +kernel
theorem dX8_wordOf_57 : decode cX8_wordOf 57 = .ok (.istore 5, 2) := by decide +kernel
theorem dX8_wordOf_59 : decode cX8_wordOf 59 = .ok (.goto 36, 3) := by decide +kernel
theorem dX8_wordOf_62 : decode cX8_wordOf 62 = .ok (.iload 5, 2) := by decide +kernel
theorem dX8_wordOf_64 : decode cX8_wordOf 64 = .ok (.ifCond .eq 25, 3) := by decide +kernel
theorem dX8_wordOf_67 : decode cX8_wordOf 67 = .ok (.iload 4, 2) := by decide +kernel
theorem dX8_wordOf_69 : decode cX8_wordOf 69 = .ok (.iload_n 2, 1) := by decide +kernel
theorem dX8_wordOf_70 : decode cX8_wordOf 70 = .ok (.if_icmp .ge 19, 3) := by decide +kernel
theorem dX8_wordOf_73 : decode cX8_wordOf 73 = .ok (.aload_n 0, 1) := by decide +kernel
theorem dX8_wordOf_74 : decode cX8_wordOf 74 = .ok (.getfield 11, 3) := by decide +kernel
theorem dX8_wordOf_77 : decode cX8_wordOf 77 = .ok (.iload 4, 2) := by decide +kernel
theorem dX8_wordOf_79 : decode cX8_wordOf 79 = .ok (.baload, 1) := by decide +kernel
theorem dX8_wordOf_80 : decode cX8_wordOf 80 = .ok (.iload 7, 2) := by decide +kernel
theorem dX8_wordOf_82 : decode cX8_wordOf 82 = .ok (.if_icmp .ne 7, 3) := by decide +kernel
theorem dX8_wordOf_85 : decode cX8_wordOf 85 = .ok (.iconst 1, 1) := by decide +kernel
theorem dX8_wordOf_86 : decode cX8_wordOf 86 = .ok (.goto 4, 3) := by decide +kernel
theorem dX8_wordOf_89 : decode cX8_wordOf 89 = .ok (.iconst 0, 1) := by decide +kernel
theorem dX8_wordOf_90 : decode cX8_wordOf 90 = .ok (.istore 5, 2) := by decide +kernel
theorem dX8_wordOf_92 : decode cX8_wordOf 92 = .ok (.iinc 4 1, 3) := by decide +kernel
theorem dX8_wordOf_95 : decode cX8_wordOf 95 = .ok (.iinc 6 1, 3) := by decide +kernel
theorem dX8_wordOf_98 : decode cX8_wordOf 98 = .ok (.goto (-87), 3) := by decide +kernel
theorem dX8_wordOf_101 : decode cX8_wordOf 101 = .ok (.iconst (-1), 1) := by decide +kernel
theorem dX8_wordOf_102 : decode cX8_wordOf 102 = .ok (.ireturn, 1) := by decide +kernel
theorem dX8_splitNumber_0 : decode cX8_splitNumber 0 = .ok (.iconst 0, 1) := by decide +kernel
theorem dX8_splitNumber_1 : decode cX8_splitNumber 1 = .ok (.istore_n 2, 1) := by decide +kernel
theorem dX8_splitNumber_2 : decode cX8_splitNumber 2 = .ok (.iload_n 1, 1) := by decide +kernel
theorem dX8_splitNumber_3 : decode cX8_splitNumber 3 = .ok (.istore_n 3, 1) := by decide +kernel
theorem dX8_splitNumber_4 : decode cX8_splitNumber 4 = .ok (.iload_n 3, 1) := by decide +kernel
theorem dX8_splitNumber_5 : decode cX8_splitNumber 5 = .ok (.aload_n 0, 1) := by decide +kernel
theorem dX8_splitNumber_6 : decode cX8_splitNumber 6 = .ok (.getfield 25, 3) := by decide +kernel
theorem dX8_splitNumber_9 : decode cX8_splitNumber 9 = .ok (.if_icmp .ge 53, 3) := by decide +kernel
theorem dX8_splitNumber_12 : decode cX8_splitNumber 12 = .ok (.aload_n 0, 1) := by decide +kernel
theorem dX8_splitNumber_13 : decode cX8_splitNumber 13 = .ok (.getfield 11, 3) := by decide +kernel
theorem dX8_splitNumber_16 : decode cX8_splitNumber 16 = .ok (.iload_n 3, 1) := by decide +kernel
theorem dX8_splitNumber_17 : decode cX8_splitNumber 17 = .ok (.baload, 1) := by decide +kernel
theorem dX8_splitNumber_18 : decode cX8_splitNumber 18 = .ok (.bipush 48, 2) := by decide +kernel
theorem dX8_splitNumber_20 : decode cX8_splitNumber 20 = .ok (.if_icmp .lt 42, 3) := by decide +kernel
theorem dX8_splitNumber_23 : decode cX8_splitNumber 23 = .ok (.aload_n 0, 1) := by decide +kernel
theorem dX8_splitNumber_24 : decode cX8_splitNumber 24 = .ok (.getfield 11, 3) := by decide +kernel
theorem dX8_splitNumber_27 : decode cX8_splitNumber 27 = .ok (.iload_n 3, 1) := by decide +kernel
theorem dX8_splitNumber_28 : decode cX8_splitNumber 28 = .ok (.baload, 1) := by decide +kernel
theorem dX8_splitNumber_29 : decode cX8_splitNumber 29 = .ok (.bipush 57, 2) := by decide +kernel
theorem dX8_splitNumber_31 : decode cX8_splitNumber 31 = .ok (.if_icmp .gt 31, 3) := by decide +kernel
theorem dX8_splitNumber_34 : decode cX8_splitNumber 34 = .ok (.iload_n 3, 1) := by decide +kernel
theorem dX8_splitNumber_35 : decode cX8_splitNumber 35 = .ok (.iload_n 1, 1) := by decide +kernel
theorem dX8_splitNumber_36 : decode cX8_splitNumber 36 = .ok (.isub, 1) := by decide +kernel
theorem dX8_splitNumber_37 : decode cX8_splitNumber 37 = .ok (.iconst 5, 1) := by decide +kernel
theorem dX8_splitNumber_38 : decode cX8_splitNumber 38 = .ok (.if_icmp .ge 18, 3) := by decide +kernel
theorem dX8_splitNumber_41 : decode cX8_splitNumber 41 = .ok (.iload_n 2, 1) := by decide +kernel
theorem dX8_splitNumber_42 : decode cX8_splitNumber 42 = .ok (.bipush 10, 2) := by decide +kernel
theorem dX8_splitNumber_44 : decode cX8_splitNumber 44 = .ok (.imul, 1) := by decide +kernel
theorem dX8_splitNumber_45 : decode cX8_splitNumber 45 = .ok (.aload_n 0, 1) := by decide +kernel
theorem dX8_splitNumber_46 : decode cX8_splitNumber 46 = .ok (.getfield 11, 3) := by decide +kernel
theorem dX8_splitNumber_49 : decode cX8_splitNumber 49 = .ok (.iload_n 3, 1) := by decide +kernel
theorem dX8_splitNumber_50 : decode cX8_splitNumber 50 = .ok (.baload, 1) := by decide +kernel
theorem dX8_splitNumber_51 : decode cX8_splitNumber 51 = .ok (.iadd, 1) := by decide +kernel
theorem dX8_splitNumber_52 : decode cX8_splitNumber 52 = .ok (.bipush 48, 2) := by decide +kernel
theorem dX8_splitNumber_54 : decode cX8_splitNumber 54 = .ok (.isub, 1) := by decide +kernel
theorem dX8_splitNumber_55 : decode cX8_splitNumber 55 = .ok (.istore_n 2, 1) := by decide +kernel
theorem dX8_splitNumber_56 : decode cX8_splitNumber 56 = .ok (.iinc 3 1, 3) := by decide +kernel
theorem dX8_splitNumber_59 : decode cX8_splitNumber 59 = .ok (.goto (-55), 3) := by decide +kernel
theorem dX8_splitNumber_62 : decode cX8_splitNumber 62 = .ok (.aload_n 0, 1) := by decide +kernel
theorem dX8_splitNumber_63 : decode cX8_splitNumber 63 = .ok (.getfield 15, 3) := by decide +kernel
theorem dX8_splitNumber_66 : decode cX8_splitNumber 66 = .ok (.aload_n 0, 1) := by decide +kernel
theorem dX8_splitNumber_67 : decode cX8_splitNumber 67 = .ok (.getfield 29, 3) := by decide +kernel
theorem dX8_splitNumber_70 : decode cX8_splitNumber 70 = .ok (.iconst 2, 1) := by decide +kernel
theorem dX8_splitNumber_71 : decode cX8_splitNumber 71 = .ok (.iastore, 1) := by decide +kernel
theorem dX8_splitNumber_72 : decode cX8_splitNumber 72 = .ok (.aload_n 0, 1) := by decide +kernel
theorem dX8_splitNumber_73 : decode cX8_splitNumber 73 = .ok (.getfield 22, 3) := by decide +kernel
theorem dX8_splitNumber_76 : decode cX8_splitNumber 76 = .ok (.aload_n 0, 1) := by decide +kernel
theorem dX8_splitNumber_77 : decode cX8_splitNumber 77 = .ok (.getfield 29, 3) := by decide +kernel
theorem dX8_splitNumber_80 : decode cX8_splitNumber 80 = .ok (.iload_n 3, 1) := by decide +kernel
theorem dX8_splitNumber_81 : decode cX8_splitNumber 81 = .ok (.iload_n 1, 1) := by decide +kernel
theorem dX8_splitNumber_82 : decode cX8_splitNumber 82 = .ok (.isub, 1) := by decide +kernel
theorem dX8_splitNumber_83 : decode cX8_splitNumber 83 = .ok (.iconst 5, 1) := by decide +kernel
theorem dX8_splitNumber_84 : decode cX8_splitNumber 84 = .ok (.if_icmp .le 7, 3) := by decide +kernel
theorem dX8_splitNumber_87 : decode cX8_splitNumber 87 = .ok (.iconst (-1), 1) := by decide +kernel
theorem dX8_splitNumber_88 : decode cX8_splitNumber 88 = .ok (.goto 4, 3) := by decide +kernel
theorem dX8_splitNumber_91 : decode cX8_splitNumber 91 = .ok (.iload_n 2, 1) := by decide +kernel
theorem dX8_splitNumber_92 : decode cX8_splitNumber 92 = .ok (.iastore, 1) := by decide +kernel
theorem dX8_splitNumber_93 : decode cX8_splitNumber 93 = .ok (.iload_n 3, 1) := by decide +kernel
theorem dX8_splitNumber_94 : decode cX8_splitNumber 94 = .ok (.ireturn, 1) := by decide +kernel
theorem dX8_isWord_0 : decode cX8_isWord 0 = .ok (.aload_n 0, 1) := by decide +kernel
theorem dX8_isWord_1 : decode cX8_isWord 1 = .ok (.getfield 45, 3) := by decide +kernel
theorem dX8_isWord_4 : decode cX8_isWord 4 = .ok (.iconst 1, 1) := by decide +kernel
theorem dX8_isWord_5 : decode cX8_isWord 5 = .ok (.if_icmp .ne 15, 3) := by decide +kernel
theorem dX8_isWord_8 : decode cX8_isWord 8 = .ok (.aload_n 0, 1) := by decide +kernel
theorem dX8_isWord_9 : decode cX8_isWord 9 = .ok (.getfield 51, 3) := by decide +kernel
theorem dX8_isWord_12 : decode cX8_isWord 12 = .ok (.iload_n 1, 1) := by decide +kernel
theorem dX8_isWord_13 : decode cX8_isWord 13 = .ok (.if_icmp .ne 7, 3) := by decide +kernel
theorem dX8_isWord_16 : decode cX8_isWord 16 = .ok (.iconst 1, 1) := by decide +kernel
theorem dX8_isWord_17 : decode cX8_isWord 17 = .ok (.goto 4, 3) := by decide +kernel
theorem dX8_isWord_20 : decode cX8_isWord 20 = .ok (.iconst 0, 1) := by decide +kernel
theorem dX8_isWord_21 : decode cX8_isWord 21 = .ok (.ireturn, 1) := by decide +kernel
theorem dX8_isSign_0 : decode cX8_isSign 0 = .ok (.aload_n 0, 1) := by decide +kernel
theorem dX8_isSign_1 : decode cX8_isSign 1 = .ok (.getfield 45, 3) := by decide +kernel
theorem dX8_isSign_4 : decode cX8_isSign 4 = .ok (.iconst 3, 1) := by decide +kernel
theorem dX8_isSign_5 : decode cX8_isSign 5 = .ok (.if_icmp .ne 15, 3) := by decide +kernel
theorem dX8_isSign_8 : decode cX8_isSign 8 = .ok (.aload_n 0, 1) := by decide +kernel
theorem dX8_isSign_9 : decode cX8_isSign 9 = .ok (.getfield 51, 3) := by decide +kernel
theorem dX8_isSign_12 : decode cX8_isSign 12 = .ok (.iload_n 1, 1) := by decide +kernel
theorem dX8_isSign_13 : decode cX8_isSign 13 = .ok (.if_icmp .ne 7, 3) := by decide +kernel
theorem dX8_isSign_16 : decode cX8_isSign 16 = .ok (.iconst 1, 1) := by decide +kernel
theorem dX8_isSign_17 : decode cX8_isSign 17 = .ok (.goto 4, 3) := by decide +kernel
theorem dX8_isSign_20 : decode cX8_isSign 20 = .ok (.iconst 0, 1) := by decide +kernel
theorem dX8_isSign_21 : decode cX8_isSign 21 = .ok (.ireturn, 1) := by decide +kernel
theorem dX8_fail_0 : decode cX8_fail 0 = .ok (.aload_n 0, 1) := by decide +kernel
theorem dX8_fail_1 : decode cX8_fail 1 = .ok (.iconst 1, 1) := by decide +kernel
theorem dX8_fail_2 : decode cX8_fail 2 = .ok (.bipush 8, 2) := by decide +kernel
theorem dX8_fail_4 : decode cX8_fail 4 = .ok (.aload_n 0, 1) := by decide +kernel
theorem dX8_fail_5 : decode cX8_fail 5 = .ok (.getfield 48, 3) := by decide +kernel
theorem dX8_fail_8 : decode cX8_fail 8 = .ok (.imul, 1) := by decide +kernel
theorem dX8_fail_9 : decode cX8_fail 9 = .ok (.iadd, 1) := by decide +kernel
theorem dX8_fail_10 : decode cX8_fail 10 = .ok (.iload_n 1, 1) := by decide +kernel
theorem dX8_fail_11 : decode cX8_fail 11 = .ok (.iadd, 1) := by decide +kernel
theorem dX8_fail_12 : decode cX8_fail 12 = .ok (.putfield 36, 3) := by decide +kernel
theorem dX8_fail_15 : decode cX8_fail 15 = .ok (.iconst 0, 1) := by decide +kernel
theorem dX8_fail_16 : decode cX8_fail 16 = .ok (.ireturn, 1) := by decide +kernel
theorem dX8_failAt_0 : decode cX8_failAt 0 = .ok (.aload_n 0, 1) := by decide +kernel
theorem dX8_failAt_1 : decode cX8_failAt 1 = .ok (.iconst 1, 1) := by decide +kernel
theorem dX8_failAt_2 : decode cX8_failAt 2 = .ok (.bipush 8, 2) := by decide +kernel
theorem dX8_failAt_4 : decode cX8_failAt 4 = .ok (.iload_n 1, 1) := by decide +kernel
theorem dX8_failAt_5 : decode cX8_failAt 5 = .ok (.imul, 1) := by decide +kernel
theorem dX8_failAt_6 : decode cX8_failAt 6 = .ok (.iadd, 1) := by decide +kernel
theorem dX8_failAt_7 : decode cX8_failAt 7 = .ok (.iload_n 2, 1) := by decide +kernel
theorem dX8_failAt_8 : decode cX8_failAt 8 = .ok (.iadd, 1) := by decide +kernel
theorem dX8_failAt_9 : decode cX8_failAt 9 = .ok (.putfield 36, 3) := by decide +kernel
theorem dX8_failAt_12 : decode cX8_failAt 12 = .ok (.iconst 0, 1) := by decide +kernel
theorem dX8_failAt_13 : decode cX8_failAt 13 = .ok (.ireturn, 1) := by decide +kernel
theorem dX8_number_0 : decode cX8_number 0 = .ok (.aload_n 0, 1) := by decide +kernel
theorem dX8_number_1 : decode cX8_number 1 = .ok (.getfield 45, 3) := by decide +kernel
theorem dX8_number_4 : decode cX8_number 4 = .ok (.iconst 2, 1) := by decide +kernel
theorem dX8_number_5 : decode cX8_number 5 = .ok (.if_icmp .ne 19, 3) := by decide +kernel
theorem dX8_number_8 : decode cX8_number 8 = .ok (.aload_n 0, 1) := by decide +kernel
theorem dX8_number_9 : decode cX8_number 9 = .ok (.getfield 51, 3) := by decide +kernel
theorem dX8_number_12 : decode cX8_number 12 = .ok (.iload_n 1, 1) := by decide +kernel
theorem dX8_number_13 : decode cX8_number 13 = .ok (.if_icmp .lt 11, 3) := by decide +kernel
theorem dX8_number_16 : decode cX8_number 16 = .ok (.aload_n 0, 1) := by decide +kernel
theorem dX8_number_17 : decode cX8_number 17 = .ok (.getfield 51, 3) := by decide +kernel
theorem dX8_number_20 : decode cX8_number 20 = .ok (.iload_n 2, 1) := by decide +kernel
theorem dX8_number_21 : decode cX8_number 21 = .ok (.if_icmp .le 23, 3) := by decide +kernel
theorem dX8_number_24 : decode cX8_number 24 = .ok (.aload_n 0, 1) := by decide +kernel
theorem dX8_number_25 : decode cX8_number 25 = .ok (.aload_n 0, 1) := by decide +kernel
theorem dX8_number_26 : decode cX8_number 26 = .ok (.getfield 45, 3) := by decide +kernel
theorem dX8_number_29 : decode cX8_number 29 = .ok (.iconst 2, 1) := by decide +kernel
theorem dX8_number_30 : decode cX8_number 30 = .ok (.if_icmp .ne 7, 3) := by decide +kernel
theorem dX8_number_33 : decode cX8_number 33 = .ok (.iconst 1, 1) := by decide +kernel
theorem dX8_number_34 : decode cX8_number 34 = .ok (.goto 4, 3) := by decide +kernel
theorem dX8_number_37 : decode cX8_number 37 = .ok (.iconst 0, 1) := by decide +kernel
theorem dX8_number_38 : decode cX8_number 38 = .ok (.invokevirtual 75, 3) := by decide +kernel
theorem dX8_number_41 : decode cX8_number 41 = .ok (.pop, 1) := by decide +kernel
theorem dX8_number_42 : decode cX8_number 42 = .ok (.iconst (-1), 1) := by decide +kernel
theorem dX8_number_43 : decode cX8_number 43 = .ok (.ireturn, 1) := by decide +kernel
theorem dX8_number_44 : decode cX8_number 44 = .ok (.aload_n 0, 1) := by decide +kernel
theorem dX8_number_45 : decode cX8_number 45 = .ok (.getfield 51, 3) := by decide +kernel
theorem dX8_number_48 : decode cX8_number 48 = .ok (.istore_n 3, 1) := by decide +kernel
theorem dX8_number_49 : decode cX8_number 49 = .ok (.aload_n 0, 1) := by decide +kernel
theorem dX8_number_50 : decode cX8_number 50 = .ok (.invokevirtual 42, 3) := by decide +kernel
theorem dX8_number_53 : decode cX8_number 53 = .ok (.iload_n 3, 1) := by decide +kernel
theorem dX8_number_54 : decode cX8_number 54 = .ok (.ireturn, 1) := by decide +kernel
theorem dX8_goesOn_0 : decode cX8_goesOn 0 = .ok (.aload_n 0, 1) := by decide +kernel
theorem dX8_goesOn_1 : decode cX8_goesOn 1 = .ok (.getfield 45, 3) := by decide +kernel
theorem dX8_goesOn_4 : decode cX8_goesOn 4 = .ok (.ifCond .ne 5, 3) := by decide +kernel
theorem dX8_goesOn_7 : decode cX8_goesOn 7 = .ok (.iconst 0, 1) := by decide +kernel
theorem dX8_goesOn_8 : decode cX8_goesOn 8 = .ok (.ireturn, 1) := by decide +kernel
theorem dX8_goesOn_9 : decode cX8_goesOn 9 = .ok (.aload_n 0, 1) := by decide +kernel
theorem dX8_goesOn_10 : decode cX8_goesOn 10 = .ok (.bipush 59, 2) := by decide +kernel
theorem dX8_goesOn_12 : decode cX8_goesOn 12 = .ok (.invokevirtual 79, 3) := by decide +kernel
theorem dX8_goesOn_15 : decode cX8_goesOn 15 = .ok (.ifCond .ne 9, 3) := by decide +kernel
theorem dX8_goesOn_18 : decode cX8_goesOn 18 = .ok (.aload_n 0, 1) := by decide +kernel
theorem dX8_goesOn_19 : decode cX8_goesOn 19 = .ok (.iconst 0, 1) := by decide +kernel
theorem dX8_goesOn_20 : decode cX8_goesOn 20 = .ok (.invokevirtual 75, 3) := by decide +kernel
theorem dX8_goesOn_23 : decode cX8_goesOn 23 = .ok (.ireturn, 1) := by decide +kernel
theorem dX8_goesOn_24 : decode cX8_goesOn 24 = .ok (.aload_n 0, 1) := by decide +kernel
theorem dX8_goesOn_25 : decode cX8_goesOn 25 = .ok (.invokevirtual 42, 3) := by decide +kernel
theorem dX8_goesOn_28 : decode cX8_goesOn 28 = .ok (.iconst 1, 1) := by decide +kernel
theorem dX8_goesOn_29 : decode cX8_goesOn 29 = .ok (.ireturn, 1) := by decide +kernel
theorem dX9_init_0 : decode cX9_init 0 = .ok (.aload_n 0, 1) := by decide +kernel
theorem dX9_init_1 : decode cX9_init 1 = .ok (.invokespecial 3, 3) := by decide +kernel
theorem dX9_init_4 : decode cX9_init 4 = .ok (.aload_n 0, 1) := by decide +kernel
theorem dX9_init_5 : decode cX9_init 5 = .ok (.iconst (-1), 1) := by decide +kernel
theorem dX9_init_6 : decode cX9_init 6 = .ok (.putfield 9, 3) := by decide +kernel
theorem dX9_init_9 : decode cX9_init 9 = .ok (.aload_n 0, 1) := by decide +kernel
theorem dX9_init_10 : decode cX9_init 10 = .ok (.iconst (-1), 1) := by decide +kernel
theorem dX9_init_11 : decode cX9_init 11 = .ok (.putfield 15, 3) := by decide +kernel
theorem dX9_init_14 : decode cX9_init 14 = .ok (.aload_n 0, 1) := by decide +kernel
theorem dX9_init_15 : decode cX9_init 15 = .ok (.iconst (-1), 1) := by decide +kernel
theorem dX9_init_16 : decode cX9_init 16 = .ok (.putfield 18, 3) := by decide +kernel
theorem dX9_init_19 : decode cX9_init 19 = .ok (.return_, 1) := by decide +kernel
theorem dX9_copyFrom_0 : decode cX9_copyFrom 0 = .ok (.aload_n 0, 1) := by decide +kernel
theorem dX9_copyFrom_1 : decode cX9_copyFrom 1 = .ok (.aload_n 1, 1) := by decide +kernel
theorem dX9_copyFrom_2 : decode cX9_copyFrom 2 = .ok (.getfield 21, 3) := by decide +kernel
theorem dX9_copyFrom_5 : decode cX9_copyFrom 5 = .ok (.putfield 21, 3) := by decide +kernel
theorem dX9_copyFrom_8 : decode cX9_copyFrom 8 = .ok (.aload_n 0, 1) := by decide +kernel
theorem dX9_copyFrom_9 : decode cX9_copyFrom 9 = .ok (.aload_n 1, 1) := by decide +kernel
theorem dX9_copyFrom_10 : decode cX9_copyFrom 10 = .ok (.getfield 25, 3) := by decide +kernel
theorem dX9_copyFrom_13 : decode cX9_copyFrom 13 = .ok (.putfield 25, 3) := by decide +kernel
theorem dX9_copyFrom_16 : decode cX9_copyFrom 16 = .ok (.aload_n 0, 1) := by decide +kernel
theorem dX9_copyFrom_17 : decode cX9_copyFrom 17 = .ok (.aload_n 1, 1) := by decide +kernel
theorem dX9_copyFrom_18 : decode cX9_copyFrom 18 = .ok (.getfield 28, 3) := by decide +kernel
theorem dX9_copyFrom_21 : decode cX9_copyFrom 21 = .ok (.putfield 28, 3) := by decide +kernel
theorem dX9_copyFrom_24 : decode cX9_copyFrom 24 = .ok (.aload_n 0, 1) := by decide +kernel
theorem dX9_copyFrom_25 : decode cX9_copyFrom 25 = .ok (.aload_n 1, 1) := by decide +kernel
theorem dX9_copyFrom_26 : decode cX9_copyFrom 26 = .ok (.getfield 31, 3) := by decide +kernel
theorem dX9_copyFrom_29 : decode cX9_copyFrom 29 = .ok (.putfield 31, 3) := by decide +kernel
theorem dX9_copyFrom_32 : decode cX9_copyFrom 32 = .ok (.aload_n 0, 1) := by decide +kernel
theorem dX9_copyFrom_33 : decode cX9_copyFrom 33 = .ok (.aload_n 1, 1) := by decide +kernel
theorem dX9_copyFrom_34 : decode cX9_copyFrom 34 = .ok (.getfield 34, 3) := by decide +kernel
theorem dX9_copyFrom_37 : decode cX9_copyFrom 37 = .ok (.putfield 34, 3) := by decide +kernel
theorem dX9_copyFrom_40 : decode cX9_copyFrom 40 = .ok (.aload_n 0, 1) := by decide +kernel
theorem dX9_copyFrom_41 : decode cX9_copyFrom 41 = .ok (.aload_n 1, 1) := by decide +kernel
theorem dX9_copyFrom_42 : decode cX9_copyFrom 42 = .ok (.getfield 9, 3) := by decide +kernel
theorem dX9_copyFrom_45 : decode cX9_copyFrom 45 = .ok (.putfield 9, 3) := by decide +kernel
theorem dX9_copyFrom_48 : decode cX9_copyFrom 48 = .ok (.aload_n 0, 1) := by decide +kernel
theorem dX9_copyFrom_49 : decode cX9_copyFrom 49 = .ok (.aload_n 1, 1) := by decide +kernel
theorem dX9_copyFrom_50 : decode cX9_copyFrom 50 = .ok (.getfield 15, 3) := by decide +kernel
theorem dX9_copyFrom_53 : decode cX9_copyFrom 53 = .ok (.putfield 15, 3) := by decide +kernel
theorem dX9_copyFrom_56 : decode cX9_copyFrom 56 = .ok (.aload_n 0, 1) := by decide +kernel
theorem dX9_copyFrom_57 : decode cX9_copyFrom 57 = .ok (.aload_n 1, 1) := by decide +kernel
theorem dX9_copyFrom_58 : decode cX9_copyFrom 58 = .ok (.getfield 37, 3) := by decide +kernel
theorem dX9_copyFrom_61 : decode cX9_copyFrom 61 = .ok (.putfield 37, 3) := by decide +kernel
theorem dX9_copyFrom_64 : decode cX9_copyFrom 64 = .ok (.aload_n 0, 1) := by decide +kernel
theorem dX9_copyFrom_65 : decode cX9_copyFrom 65 = .ok (.aload_n 1, 1) := by decide +kernel
theorem dX9_copyFrom_66 : decode cX9_copyFrom 66 = .ok (.getfield 18, 3) := by decide +kernel
theorem dX9_copyFrom_69 : decode cX9_copyFrom 69 = .ok (.putfield 18, 3) := by decide +kernel
theorem dX9_copyFrom_72 : decode cX9_copyFrom 72 = .ok (.aload_n 0, 1) := by decide +kernel
theorem dX9_copyFrom_73 : decode cX9_copyFrom 73 = .ok (.aload_n 1, 1) := by decide +kernel
theorem dX9_copyFrom_74 : decode cX9_copyFrom 74 = .ok (.getfield 40, 3) := by decide +kernel
theorem dX9_copyFrom_77 : decode cX9_copyFrom 77 = .ok (.putfield 40, 3) := by decide +kernel
theorem dX9_copyFrom_80 : decode cX9_copyFrom 80 = .ok (.aload_n 0, 1) := by decide +kernel
theorem dX9_copyFrom_81 : decode cX9_copyFrom 81 = .ok (.aload_n 1, 1) := by decide +kernel
theorem dX9_copyFrom_82 : decode cX9_copyFrom 82 = .ok (.getfield 43, 3) := by decide +kernel
theorem dX9_copyFrom_85 : decode cX9_copyFrom 85 = .ok (.putfield 43, 3) := by decide +kernel
theorem dX9_copyFrom_88 : decode cX9_copyFrom 88 = .ok (.aload_n 0, 1) := by decide +kernel
theorem dX9_copyFrom_89 : decode cX9_copyFrom 89 = .ok (.aload_n 1, 1) := by decide +kernel
theorem dX9_copyFrom_90 : decode cX9_copyFrom 90 = .ok (.getfield 46, 3) := by decide +kernel
theorem dX9_copyFrom_93 : decode cX9_copyFrom 93 = .ok (.putfield 46, 3) := by decide +kernel
theorem dX9_copyFrom_96 : decode cX9_copyFrom 96 = .ok (.return_, 1) := by decide +kernel
theorem dX9_rise_0 : decode cX9_rise 0 = .ok (.aload_n 0, 1) := by decide +kernel
theorem dX9_rise_1 : decode cX9_rise 1 = .ok (.iconst 1, 1) := by decide +kernel
theorem dX9_rise_2 : decode cX9_rise 2 = .ok (.putfield 21, 3) := by decide +kernel
theorem dX9_rise_5 : decode cX9_rise 5 = .ok (.aload_n 0, 1) := by decide +kernel
theorem dX9_rise_6 : decode cX9_rise 6 = .ok (.iload_n 1, 1) := by decide +kernel
theorem dX9_rise_7 : decode cX9_rise 7 = .ok (.putfield 25, 3) := by decide +kernel
theorem dX9_rise_10 : decode cX9_rise 10 = .ok (.aload_n 0, 1) := by decide +kernel
theorem dX9_rise_11 : decode cX9_rise 11 = .ok (.iload_n 2, 1) := by decide +kernel
theorem dX9_rise_12 : decode cX9_rise 12 = .ok (.putfield 28, 3) := by decide +kernel
theorem dX9_rise_15 : decode cX9_rise 15 = .ok (.aload_n 0, 1) := by decide +kernel
theorem dX9_rise_16 : decode cX9_rise 16 = .ok (.iload_n 3, 1) := by decide +kernel
theorem dX9_rise_17 : decode cX9_rise 17 = .ok (.putfield 31, 3) := by decide +kernel
theorem dX9_rise_20 : decode cX9_rise 20 = .ok (.aload_n 0, 1) := by decide +kernel
theorem dX9_rise_21 : decode cX9_rise 21 = .ok (.iload 4, 2) := by decide +kernel
theorem dX9_rise_23 : decode cX9_rise 23 = .ok (.putfield 34, 3) := by decide +kernel
theorem dX9_rise_26 : decode cX9_rise 26 = .ok (.aload_n 0, 1) := by decide +kernel
theorem dX9_rise_27 : decode cX9_rise 27 = .ok (.iload 5, 2) := by decide +kernel
theorem dX9_rise_29 : decode cX9_rise 29 = .ok (.putfield 9, 3) := by decide +kernel
theorem dX9_rise_32 : decode cX9_rise 32 = .ok (.aload_n 0, 1) := by decide +kernel
theorem dX9_rise_33 : decode cX9_rise 33 = .ok (.iconst (-1), 1) := by decide +kernel
theorem dX9_rise_34 : decode cX9_rise 34 = .ok (.putfield 15, 3) := by decide +kernel
theorem dX9_rise_37 : decode cX9_rise 37 = .ok (.aload_n 0, 1) := by decide +kernel
theorem dX9_rise_38 : decode cX9_rise 38 = .ok (.iconst 0, 1) := by decide +kernel
theorem dX9_rise_39 : decode cX9_rise 39 = .ok (.putfield 37, 3) := by decide +kernel
theorem dX9_rise_42 : decode cX9_rise 42 = .ok (.aload_n 0, 1) := by decide +kernel
theorem dX9_rise_43 : decode cX9_rise 43 = .ok (.iconst (-1), 1) := by decide +kernel
theorem dX9_rise_44 : decode cX9_rise 44 = .ok (.putfield 18, 3) := by decide +kernel
theorem dX9_rise_47 : decode cX9_rise 47 = .ok (.aload_n 0, 1) := by decide +kernel
theorem dX9_rise_48 : decode cX9_rise 48 = .ok (.iconst 0, 1) := by decide +kernel
theorem dX9_rise_49 : decode cX9_rise 49 = .ok (.putfield 40, 3) := by decide +kernel
theorem dX9_rise_52 : decode cX9_rise 52 = .ok (.aload_n 0, 1) := by decide +kernel
theorem dX9_rise_53 : decode cX9_rise 53 = .ok (.iconst 0, 1) := by decide +kernel
theorem dX9_rise_54 : decode cX9_rise 54 = .ok (.putfield 43, 3) := by decide +kernel
theorem dX9_rise_57 : decode cX9_rise 57 = .ok (.aload_n 0, 1) := by decide +kernel
theorem dX9_rise_58 : decode cX9_rise 58 = .ok (.iconst 0, 1) := by decide +kernel
theorem dX9_rise_59 : decode cX9_rise 59 = .ok (.putfield 46, 3) := by decide +kernel
theorem dX9_rise_62 : decode cX9_rise 62 = .ok (.return_, 1) := by decide +kernel
theorem dX9_area_0 : decode cX9_area 0 = .ok (.aload_n 0, 1) := by decide +kernel
theorem dX9_area_1 : decode cX9_area 1 = .ok (.getfield 31, 3) := by decide +kernel
theorem dX9_area_4 : decode cX9_area 4 = .ok (.aload_n 0, 1) := by decide +kernel
theorem dX9_area_5 : decode cX9_area 5 = .ok (.getfield 25, 3) := by decide +kernel
theorem dX9_area_8 : decode cX9_area 8 = .ok (.isub, 1) := by decide +kernel
theorem dX9_area_9 : decode cX9_area 9 = .ok (.aload_n 0, 1) := by decide +kernel
theorem dX9_area_10 : decode cX9_area 10 = .ok (.getfield 34, 3) := by decide +kernel
theorem dX9_area_13 : decode cX9_area 13 = .ok (.aload_n 0, 1) := by decide +kernel
theorem dX9_area_14 : decode cX9_area 14 = .ok (.getfield 28, 3) := by decide +kernel
theorem dX9_area_17 : decode cX9_area 17 = .ok (.isub, 1) := by decide +kernel
theorem dX9_area_18 : decode cX9_area 18 = .ok (.imul, 1) := by decide +kernel
theorem dX9_area_19 : decode cX9_area 19 = .ok (.ireturn, 1) := by decide +kernel
theorem dX9_lengthOf_0 : decode cX9_lengthOf 0 = .ok (.iload_n 1, 1) := by decide +kernel
theorem dX9_lengthOf_1 : decode cX9_lengthOf 1 = .ok (.iconst 2, 1) := by decide +kernel
theorem dX9_lengthOf_2 : decode cX9_lengthOf 2 = .ok (.irem, 1) := by decide +kernel
theorem dX9_lengthOf_3 : decode cX9_lengthOf 3 = .ok (.ifCond .ne 15, 3) := by decide +kernel
theorem dX9_lengthOf_6 : decode cX9_lengthOf 6 = .ok (.aload_n 0, 1) := by decide +kernel
theorem dX9_lengthOf_7 : decode cX9_lengthOf 7 = .ok (.getfield 31, 3) := by decide +kernel
theorem dX9_lengthOf_10 : decode cX9_lengthOf 10 = .ok (.aload_n 0, 1) := by decide +kernel
theorem dX9_lengthOf_11 : decode cX9_lengthOf 11 = .ok (.getfield 25, 3) := by decide +kernel
theorem dX9_lengthOf_14 : decode cX9_lengthOf 14 = .ok (.isub, 1) := by decide +kernel
theorem dX9_lengthOf_15 : decode cX9_lengthOf 15 = .ok (.goto 12, 3) := by decide +kernel
theorem dX9_lengthOf_18 : decode cX9_lengthOf 18 = .ok (.aload_n 0, 1) := by decide +kernel
theorem dX9_lengthOf_19 : decode cX9_lengthOf 19 = .ok (.getfield 34, 3) := by decide +kernel
theorem dX9_lengthOf_22 : decode cX9_lengthOf 22 = .ok (.aload_n 0, 1) := by decide +kernel
theorem dX9_lengthOf_23 : decode cX9_lengthOf 23 = .ok (.getfield 28, 3) := by decide +kernel
theorem dX9_lengthOf_26 : decode cX9_lengthOf 26 = .ok (.isub, 1) := by decide +kernel
theorem dX9_lengthOf_27 : decode cX9_lengthOf 27 = .ok (.ireturn, 1) := by decide +kernel
theorem dX9_has_0 : decode cX9_has 0 = .ok (.aload_n 0, 1) := by decide +kernel
theorem dX9_has_1 : decode cX9_has 1 = .ok (.getfield 25, 3) := by decide +kernel
theorem dX9_has_4 : decode cX9_has 4 = .ok (.iload_n 1, 1) := by decide +kernel
theorem dX9_has_5 : decode cX9_has 5 = .ok (.if_icmp .gt 31, 3) := by decide +kernel
theorem dX9_has_8 : decode cX9_has 8 = .ok (.iload_n 1, 1) := by decide +kernel
theorem dX9_has_9 : decode cX9_has 9 = .ok (.aload_n 0, 1) := by decide +kernel
theorem dX9_has_10 : decode cX9_has 10 = .ok (.getfield 31, 3) := by decide +kernel
theorem dX9_has_13 : decode cX9_has 13 = .ok (.if_icmp .ge 23, 3) := by decide +kernel
theorem dX9_has_16 : decode cX9_has 16 = .ok (.aload_n 0, 1) := by decide +kernel
theorem dX9_has_17 : decode cX9_has 17 = .ok (.getfield 28, 3) := by decide +kernel
theorem dX9_has_20 : decode cX9_has 20 = .ok (.iload_n 2, 1) := by decide +kernel
theorem dX9_has_21 : decode cX9_has 21 = .ok (.if_icmp .gt 15, 3) := by decide +kernel
theorem dX9_has_24 : decode cX9_has 24 = .ok (.iload_n 2, 1) := by decide +kernel
theorem dX9_has_25 : decode cX9_has 25 = .ok (.aload_n 0, 1) := by decide +kernel
theorem dX9_has_26 : decode cX9_has 26 = .ok (.getfield 34, 3) := by decide +kernel
theorem dX9_has_29 : decode cX9_has 29 = .ok (.if_icmp .ge 7, 3) := by decide +kernel
theorem dX9_has_32 : decode cX9_has 32 = .ok (.iconst 1, 1) := by decide +kernel
theorem dX9_has_33 : decode cX9_has 33 = .ok (.goto 4, 3) := by decide +kernel
theorem dX9_has_36 : decode cX9_has 36 = .ok (.iconst 0, 1) := by decide +kernel
theorem dX9_has_37 : decode cX9_has 37 = .ok (.ireturn, 1) := by decide +kernel
theorem dX9_parts_0 : decode cX9_parts 0 = .ok (.aload_n 0, 1) := by decide +kernel
theorem dX9_parts_1 : decode cX9_parts 1 = .ok (.aload_n 1, 1) := by decide +kernel
theorem dX9_parts_2 : decode cX9_parts 2 = .ok (.getfield 49, 3) := by decide +kernel
theorem dX9_parts_5 : decode cX9_parts 5 = .ok (.aload_n 1, 1) := by decide +kernel
theorem dX9_parts_6 : decode cX9_parts 6 = .ok (.getfield 52, 3) := by decide +kernel
theorem dX9_parts_9 : decode cX9_parts 9 = .ok (.invokevirtual 53, 3) := by decide +kernel
theorem dX9_parts_12 : decode cX9_parts 12 = .ok (.aload_n 0, 1) := by decide +kernel
theorem dX9_parts_13 : decode cX9_parts 13 = .ok (.aload_n 1, 1) := by decide +kernel
theorem dX9_parts_14 : decode cX9_parts 14 = .ok (.getfield 57, 3) := by decide +kernel
theorem dX9_parts_17 : decode cX9_parts 17 = .ok (.aload_n 1, 1) := by decide +kernel
theorem dX9_parts_18 : decode cX9_parts 18 = .ok (.getfield 58, 3) := by decide +kernel
theorem dX9_parts_21 : decode cX9_parts 21 = .ok (.invokevirtual 53, 3) := by decide +kernel
theorem dX9_parts_24 : decode cX9_parts 24 = .ok (.if_icmp .eq 7, 3) := by decide +kernel
theorem dX9_parts_27 : decode cX9_parts 27 = .ok (.iconst 1, 1) := by decide +kernel
theorem dX9_parts_28 : decode cX9_parts 28 = .ok (.goto 4, 3) := by decide +kernel
theorem dX9_parts_31 : decode cX9_parts 31 = .ok (.iconst 0, 1) := by decide +kernel
theorem dX9_parts_32 : decode cX9_parts 32 = .ok (.ireturn, 1) := by decide +kernel
theorem dX9_tollFor_0 : decode cX9_tollFor 0 = .ok (.aload_n 0, 1) := by decide +kernel
theorem dX9_tollFor_1 : decode cX9_tollFor 1 = .ok (.getfield 9, 3) := by decide +kernel
theorem dX9_tollFor_4 : decode cX9_tollFor 4 = .ok (.iload_n 1, 1) := by decide +kernel
theorem dX9_tollFor_5 : decode cX9_tollFor 5 = .ok (.if_icmp .eq 15, 3) := by decide +kernel
theorem dX9_tollFor_8 : decode cX9_tollFor 8 = .ok (.aload_n 0, 1) := by decide +kernel
theorem dX9_tollFor_9 : decode cX9_tollFor 9 = .ok (.getfield 46, 3) := by decide +kernel
theorem dX9_tollFor_12 : decode cX9_tollFor 12 = .ok (.iload_n 1, 1) := by decide +kernel
theorem dX9_tollFor_13 : decode cX9_tollFor 13 = .ok (.ishr, 1) := by decide +kernel
theorem dX9_tollFor_14 : decode cX9_tollFor 14 = .ok (.iconst 1, 1) := by decide +kernel
theorem dX9_tollFor_15 : decode cX9_tollFor 15 = .ok (.iand, 1) := by decide +kernel
theorem dX9_tollFor_16 : decode cX9_tollFor 16 = .ok (.iconst 1, 1) := by decide +kernel
theorem dX9_tollFor_17 : decode cX9_tollFor 17 = .ok (.if_icmp .ne 7, 3) := by decide +kernel
theorem dX9_tollFor_20 : decode cX9_tollFor 20 = .ok (.iconst 0, 1) := by decide +kernel
theorem dX9_tollFor_21 : decode cX9_tollFor 21 = .ok (.goto 7, 3) := by decide +kernel
theorem dX9_tollFor_24 : decode cX9_tollFor 24 = .ok (.aload_n 0, 1) := by decide +kernel
theorem dX9_tollFor_25 : decode cX9_tollFor 25 = .ok (.getfield 43, 3) := by decide +kernel
theorem dX9_tollFor_28 : decode cX9_tollFor 28 = .ok (.ireturn, 1) := by decide +kernel
theorem dX10_init_0 : decode cX10_init 0 = .ok (.aload_n 0, 1) := by decide +kernel
theorem dX10_init_1 : decode cX10_init 1 = .ok (.invokespecial 3, 3) := by decide +kernel
theorem dX10_init_4 : decode cX10_init 4 = .ok (.aload_n 0, 1) := by decide +kernel
theorem dX10_init_5 : decode cX10_init 5 = .ok (.sipush 1600, 3) := by decide +kernel
theorem dX10_init_8 : decode cX10_init 8 = .ok (.newarray .int, 2) := by decide +kernel
theorem dX10_init_10 : decode cX10_init 10 = .ok (.putfield 9, 3) := by decide +kernel
theorem dX10_init_13 : decode cX10_init 13 = .ok (.aload_n 0, 1) := by decide +kernel
theorem dX10_init_14 : decode cX10_init 14 = .ok (.sipush 1600, 3) := by decide +kernel
theorem dX10_init_17 : decode cX10_init 17 = .ok (.newarray .int, 2) := by decide +kernel
theorem dX10_init_19 : decode cX10_init 19 = .ok (.putfield 15, 3) := by decide +kernel
theorem dX10_init_22 : decode cX10_init 22 = .ok (.aload_n 0, 1) := by decide +kernel
theorem dX10_init_23 : decode cX10_init 23 = .ok (.sipush 1600, 3) := by decide +kernel
theorem dX10_init_26 : decode cX10_init 26 = .ok (.newarray .int, 2) := by decide +kernel
theorem dX10_init_28 : decode cX10_init 28 = .ok (.putfield 18, 3) := by decide +kernel
theorem dX10_init_31 : decode cX10_init 31 = .ok (.aload_n 0, 1) := by decide +kernel
theorem dX10_init_32 : decode cX10_init 32 = .ok (.sipush 1600, 3) := by decide +kernel
theorem dX10_init_35 : decode cX10_init 35 = .ok (.newarray .int, 2) := by decide +kernel
theorem dX10_init_37 : decode cX10_init 37 = .ok (.putfield 21, 3) := by decide +kernel
theorem dX10_init_40 : decode cX10_init 40 = .ok (.aload_n 0, 1) := by decide +kernel
theorem dX10_init_41 : decode cX10_init 41 = .ok (.sipush 1600, 3) := by decide +kernel
theorem dX10_init_44 : decode cX10_init 44 = .ok (.newarray .int, 2) := by decide +kernel
theorem dX10_init_46 : decode cX10_init 46 = .ok (.putfield 24, 3) := by decide +kernel
theorem dX10_init_49 : decode cX10_init 49 = .ok (.aload_n 0, 1) := by decide +kernel
theorem dX10_init_50 : decode cX10_init 50 = .ok (.sipush 160, 3) := by decide +kernel
theorem dX10_init_53 : decode cX10_init 53 = .ok (.newarray .int, 2) := by decide +kernel
theorem dX10_init_55 : decode cX10_init 55 = .ok (.putfield 27, 3) := by decide +kernel
theorem dX10_init_58 : decode cX10_init 58 = .ok (.aload_n 0, 1) := by decide +kernel
theorem dX10_init_59 : decode cX10_init 59 = .ok (.sipush 160, 3) := by decide +kernel
theorem dX10_init_62 : decode cX10_init 62 = .ok (.newarray .int, 2) := by decide +kernel
theorem dX10_init_64 : decode cX10_init 64 = .ok (.putfield 30, 3) := by decide +kernel
theorem dX10_init_67 : decode cX10_init 67 = .ok (.return_, 1) := by decide +kernel
theorem dX10_survey_0 : decode cX10_survey 0 = .ok (.aload_n 0, 1) := by decide +kernel
theorem dX10_survey_1 : decode cX10_survey 1 = .ok (.aload_n 1, 1) := by decide +kernel
theorem dX10_survey_2 : decode cX10_survey 2 = .ok (.putfield 33, 3) := by decide +kernel
theorem dX10_survey_5 : decode cX10_survey 5 = .ok (.aload_n 0, 1) := by decide +kernel
theorem dX10_survey_6 : decode cX10_survey 6 = .ok (.iload_n 2, 1) := by decide +kernel
theorem dX10_survey_7 : decode cX10_survey 7 = .ok (.putfield 37, 3) := by decide +kernel
theorem dX10_survey_10 : decode cX10_survey 10 = .ok (.aload_n 0, 1) := by decide +kernel
theorem dX10_survey_11 : decode cX10_survey 11 = .ok (.invokevirtual 41, 3) := by decide +kernel
theorem dX10_survey_14 : decode cX10_survey 14 = .ok (.aload_n 0, 1) := by decide +kernel
theorem dX10_survey_15 : decode cX10_survey 15 = .ok (.getfield 24, 3) := by decide +kernel
theorem dX10_survey_18 : decode cX10_survey 18 = .ok (.iconst 0, 1) := by decide +kernel
theorem dX10_survey_19 : decode cX10_survey 19 = .ok (.invokestatic 44, 3) := by decide +kernel
theorem dX10_survey_22 : decode cX10_survey 22 = .ok (.iconst 0, 1) := by decide +kernel
theorem dX10_survey_23 : decode cX10_survey 23 = .ok (.istore_n 3, 1) := by decide +kernel
theorem dX10_survey_24 : decode cX10_survey 24 = .ok (.iload_n 3, 1) := by decide +kernel
theorem dX10_survey_25 : decode cX10_survey 25 = .ok (.aload_n 1, 1) := by decide +kernel
theorem dX10_survey_26 : decode cX10_survey 26 = .ok (.getfield 50, 3) := by decide +kernel
theorem dX10_survey_29 : decode cX10_survey 29 = .ok (.if_icmp .ge 64, 3) := by decide +kernel
theorem dX10_survey_32 : decode cX10_survey 32 = .ok (.iconst 0, 1) := by decide +kernel
theorem dX10_survey_33 : decode cX10_survey 33 = .ok (.istore 4, 2) := by decide +kernel
theorem dX10_survey_35 : decode cX10_survey 35 = .ok (.iload 4, 2) := by decide +kernel
theorem dX10_survey_37 : decode cX10_survey 37 = .ok (.aload_n 1, 1) := by decide +kernel
theorem dX10_survey_38 : decode cX10_survey 38 = .ok (.getfield 55, 3) := by decide +kernel
theorem dX10_survey_41 : decode cX10_survey 41 = .ok (.if_icmp .ge 46, 3) := by decide +kernel
theorem dX10_survey_44 : decode cX10_survey 44 = .ok (.iload 4, 2) := by decide +kernel
theorem dX10_survey_46 : decode cX10_survey 46 = .ok (.iconst 1, 1) := by decide +kernel
theorem dX10_survey_47 : decode cX10_survey 47 = .ok (.iadd, 1) := by decide +kernel
theorem dX10_survey_48 : decode cX10_survey 48 = .ok (.aload_n 1, 1) := by decide +kernel
theorem dX10_survey_49 : decode cX10_survey 49 = .ok (.getfield 55, 3) := by decide +kernel
theorem dX10_survey_52 : decode cX10_survey 52 = .ok (.if_icmp .ge 11, 3) := by decide +kernel
theorem dX10_survey_55 : decode cX10_survey 55 = .ok (.aload_n 0, 1) := by decide +kernel
theorem dX10_survey_56 : decode cX10_survey 56 = .ok (.iload 4, 2) := by decide +kernel
theorem dX10_survey_58 : decode cX10_survey 58 = .ok (.iload_n 3, 1) := by decide +kernel
theorem dX10_survey_59 : decode cX10_survey 59 = .ok (.iconst 1, 1) := by decide +kernel
theorem dX10_survey_60 : decode cX10_survey 60 = .ok (.invokevirtual 58, 3) := by decide +kernel
theorem dX10_survey_63 : decode cX10_survey 63 = .ok (.iload_n 3, 1) := by decide +kernel
theorem dX10_survey_64 : decode cX10_survey 64 = .ok (.iconst 1, 1) := by decide +kernel
theorem dX10_survey_65 : decode cX10_survey 65 = .ok (.iadd, 1) := by decide +kernel
theorem dX10_survey_66 : decode cX10_survey 66 = .ok (.aload_n 1, 1) := by decide +kernel
theorem dX10_survey_67 : decode cX10_survey 67 = .ok (.getfield 50, 3) := by decide +kernel
theorem dX10_survey_70 : decode cX10_survey 70 = .ok (.if_icmp .ge 11, 3) := by decide +kernel
theorem dX10_survey_73 : decode cX10_survey 73 = .ok (.aload_n 0, 1) := by decide +kernel
theorem dX10_survey_74 : decode cX10_survey 74 = .ok (.iload 4, 2) := by decide +kernel
theorem dX10_survey_76 : decode cX10_survey 76 = .ok (.iload_n 3, 1) := by decide +kernel
theorem dX10_survey_77 : decode cX10_survey 77 = .ok (.iconst 2, 1) := by decide +kernel
theorem dX10_survey_78 : decode cX10_survey 78 = .ok (.invokevirtual 58, 3) := by decide +kernel
theorem dX10_survey_81 : decode cX10_survey 81 = .ok (.iinc 4 1, 3) := by decide +kernel
theorem dX10_survey_84 : decode cX10_survey 84 = .ok (.goto (-49), 3) := by decide +kernel
theorem dX10_survey_87 : decode cX10_survey 87 = .ok (.iinc 3 1, 3) := by decide +kernel
theorem dX10_survey_90 : decode cX10_survey 90 = .ok (.goto (-66), 3) := by decide +kernel
theorem dX10_survey_93 : decode cX10_survey 93 = .ok (.return_, 1) := by decide +kernel
theorem dX10_paintWalls_0 : decode cX10_paintWalls 0 = .ok (.aload_n 0, 1) := by decide +kernel
theorem dX10_paintWalls_1 : decode cX10_paintWalls 1 = .ok (.getfield 21, 3) := by decide +kernel
theorem dX10_paintWalls_4 : decode cX10_paintWalls 4 = .ok (.iconst (-1), 1) := by decide +kernel
theorem dX10_paintWalls_5 : decode cX10_paintWalls 5 = .ok (.invokestatic 44, 3) := by decide +kernel
theorem dX10_paintWalls_8 : decode cX10_paintWalls 8 = .ok (.bipush 6, 2) := by decide +kernel
theorem dX10_paintWalls_10 : decode cX10_paintWalls 10 = .ok (.istore_n 1, 1) := by decide +kernel
theorem dX10_paintWalls_11 : decode cX10_paintWalls 11 = .ok (.iload_n 1, 1) := by decide +kernel
theorem dX10_paintWalls_12 : decode cX10_paintWalls 12 = .ok (.bipush 30, 2) := by decide +kernel
theorem dX10_paintWalls_14 : decode cX10_paintWalls 14 = .ok (.if_icmp .ge 29, 3) := by decide +kernel
theorem dX10_paintWalls_17 : decode cX10_paintWalls 17 = .ok (.aload_n 0, 1) := by decide +kernel
theorem dX10_paintWalls_18 : decode cX10_paintWalls 18 = .ok (.getfield 33, 3) := by decide +kernel
theorem dX10_paintWalls_21 : decode cX10_paintWalls 21 = .ok (.getfield 62, 3) := by decide +kernel
theorem dX10_paintWalls_24 : decode cX10_paintWalls 24 = .ok (.iload_n 1, 1) := by decide +kernel
theorem dX10_paintWalls_25 : decode cX10_paintWalls 25 = .ok (.aaload, 1) := by decide +kernel
theorem dX10_paintWalls_26 : decode cX10_paintWalls 26 = .ok (.getfield 66, 3) := by decide +kernel
theorem dX10_paintWalls_29 : decode cX10_paintWalls 29 = .ok (.ifCond .eq 8, 3) := by decide +kernel
theorem dX10_paintWalls_32 : decode cX10_paintWalls 32 = .ok (.aload_n 0, 1) := by decide +kernel
theorem dX10_paintWalls_33 : decode cX10_paintWalls 33 = .ok (.iload_n 1, 1) := by decide +kernel
theorem dX10_paintWalls_34 : decode cX10_paintWalls 34 = .ok (.invokevirtual 72, 3) := by decide +kernel
theorem dX10_paintWalls_37 : decode cX10_paintWalls 37 = .ok (.iinc 1 1, 3) := by decide +kernel
theorem dX10_paintWalls_40 : decode cX10_paintWalls 40 = .ok (.goto (-29), 3) := by decide +kernel
theorem dX10_paintWalls_43 : decode cX10_paintWalls 43 = .ok (.return_, 1) := by decide +kernel
theorem dX10_paint_0 : decode cX10_paint 0 = .ok (.aload_n 0, 1) := by decide +kernel
theorem dX10_paint_1 : decode cX10_paint 1 = .ok (.getfield 33, 3) := by decide +kernel
theorem dX10_paint_4 : decode cX10_paint 4 = .ok (.getfield 62, 3) := by decide +kernel
theorem dX10_paint_7 : decode cX10_paint 7 = .ok (.iload_n 1, 1) := by decide +kernel
theorem dX10_paint_8 : decode cX10_paint 8 = .ok (.aaload, 1) := by decide +kernel
theorem dX10_paint_9 : decode cX10_paint 9 = .ok (.astore_n 2, 1) := by decide +kernel
theorem dX10_paint_10 : decode cX10_paint 10 = .ok (.aload_n 2, 1) := by decide +kernel
theorem dX10_paint_11 : decode cX10_paint 11 = .ok (.invokevirtual 76, 3) := by decide +kernel
theorem dX10_paint_14 : decode cX10_paint 14 = .ok (.istore_n 3, 1) := by decide +kernel
theorem dX10_paint_15 : decode cX10_paint 15 = .ok (.aload_n 2, 1) := by decide +kernel
theorem dX10_paint_16 : decode cX10_paint 16 = .ok (.getfield 80, 3) := by decide +kernel
theorem dX10_paint_19 : decode cX10_paint 19 = .ok (.istore 4, 2) := by decide +kernel
theorem dX10_paint_21 : decode cX10_paint 21 = .ok (.iload 4, 2) := by decide +kernel
theorem dX10_paint_23 : decode cX10_paint 23 = .ok (.aload_n 2, 1) := by decide +kernel
theorem dX10_paint_24 : decode cX10_paint 24 = .ok (.getfield 83, 3) := by decide +kernel
theorem dX10_paint_27 : decode cX10_paint 27 = .ok (.if_icmp .ge 80, 3) := by decide +kernel
theorem dX10_paint_30 : decode cX10_paint 30 = .ok (.aload_n 2, 1) := by decide +kernel
theorem dX10_paint_31 : decode cX10_paint 31 = .ok (.getfield 86, 3) := by decide +kernel
theorem dX10_paint_34 : decode cX10_paint 34 = .ok (.istore 5, 2) := by decide +kernel
theorem dX10_paint_36 : decode cX10_paint 36 = .ok (.iload 5, 2) := by decide +kernel
theorem dX10_paint_38 : decode cX10_paint 38 = .ok (.aload_n 2, 1) := by decide +kernel
theorem dX10_paint_39 : decode cX10_paint 39 = .ok (.getfield 89, 3) := by decide +kernel
theorem dX10_paint_42 : decode cX10_paint 42 = .ok (.if_icmp .ge 59, 3) := by decide +kernel
theorem dX10_paint_45 : decode cX10_paint 45 = .ok (.iload 4, 2) := by decide +kernel
theorem dX10_paint_47 : decode cX10_paint 47 = .ok (.bipush 40, 2) := by decide +kernel
theorem dX10_paint_49 : decode cX10_paint 49 = .ok (.imul, 1) := by decide +kernel
theorem dX10_paint_50 : decode cX10_paint 50 = .ok (.iload 5, 2) := by decide +kernel
theorem dX10_paint_52 : decode cX10_paint 52 = .ok (.iadd, 1) := by decide +kernel
theorem dX10_paint_53 : decode cX10_paint 53 = .ok (.istore 6, 2) := by decide +kernel
theorem dX10_paint_55 : decode cX10_paint 55 = .ok (.aload_n 0, 1) := by decide +kernel
theorem dX10_paint_56 : decode cX10_paint 56 = .ok (.getfield 21, 3) := by decide +kernel
theorem dX10_paint_59 : decode cX10_paint 59 = .ok (.iload 6, 2) := by decide +kernel
theorem dX10_paint_61 : decode cX10_paint 61 = .ok (.iaload, 1) := by decide +kernel
theorem dX10_paint_62 : decode cX10_paint 62 = .ok (.istore 7, 2) := by decide +kernel
theorem dX10_paint_64 : decode cX10_paint 64 = .ok (.iload 7, 2) := by decide +kernel
theorem dX10_paint_66 : decode cX10_paint 66 = .ok (.iconst (-1), 1) := by decide +kernel
theorem dX10_paint_67 : decode cX10_paint 67 = .ok (.if_icmp .eq 20, 3) := by decide +kernel
theorem dX10_paint_70 : decode cX10_paint 70 = .ok (.iload_n 3, 1) := by decide +kernel
theorem dX10_paint_71 : decode cX10_paint 71 = .ok (.aload_n 0, 1) := by decide +kernel
theorem dX10_paint_72 : decode cX10_paint 72 = .ok (.getfield 33, 3) := by decide +kernel
theorem dX10_paint_75 : decode cX10_paint 75 = .ok (.getfield 62, 3) := by decide +kernel
theorem dX10_paint_78 : decode cX10_paint 78 = .ok (.iload 7, 2) := by decide +kernel
theorem dX10_paint_80 : decode cX10_paint 80 = .ok (.aaload, 1) := by decide +kernel
theorem dX10_paint_81 : decode cX10_paint 81 = .ok (.invokevirtual 76, 3) := by decide +kernel
theorem dX10_paint_84 : decode cX10_paint 84 = .ok (.if_icmp .ge 11, 3) := by decide +kernel
theorem dX10_paint_87 : decode cX10_paint 87 = .ok (.aload_n 0, 1) := by decide +kernel
theorem dX10_paint_88 : decode cX10_paint 88 = .ok (.getfield 21, 3) := by decide +kernel
theorem dX10_paint_91 : decode cX10_paint 91 = .ok (.iload 6, 2) := by decide +kernel
theorem dX10_paint_93 : decode cX10_paint 93 = .ok (.iload_n 1, 1) := by decide +kernel
theorem dX10_paint_94 : decode cX10_paint 94 = .ok (.iastore, 1) := by decide +kernel
theorem dX10_paint_95 : decode cX10_paint 95 = .ok (.iinc 5 1, 3) := by decide +kernel
theorem dX10_paint_98 : decode cX10_paint 98 = .ok (.goto (-62), 3) := by decide +kernel
theorem dX10_paint_101 : decode cX10_paint 101 = .ok (.iinc 4 1, 3) := by decide +kernel
theorem dX10_paint_104 : decode cX10_paint 104 = .ok (.goto (-83), 3) := by decide +kernel
theorem dX10_paint_107 : decode cX10_paint 107 = .ok (.return_, 1) := by decide +kernel
theorem dX10_join_0 : decode cX10_join 0 = .ok (.iload_n 2, 1) := by decide +kernel
theorem dX10_join_1 : decode cX10_join 1 = .ok (.bipush 40, 2) := by decide +kernel
theorem dX10_join_3 : decode cX10_join 3 = .ok (.imul, 1) := by decide +kernel
theorem dX10_join_4 : decode cX10_join 4 = .ok (.iload_n 1, 1) := by decide +kernel
theorem dX10_join_5 : decode cX10_join 5 = .ok (.iadd, 1) := by decide +kernel
theorem dX10_join_6 : decode cX10_join 6 = .ok (.istore 4, 2) := by decide +kernel
theorem dX10_join_8 : decode cX10_join 8 = .ok (.iload 4, 2) := by decide +kernel
theorem dX10_join_10 : decode cX10_join 10 = .ok (.getstatic 92, 3) := by decide +kernel
theorem dX10_join_13 : decode cX10_join 13 = .ok (.iload_n 3, 1) := by decide +kernel
theorem dX10_join_14 : decode cX10_join 14 = .ok (.iaload, 1) := by decide +kernel
theorem dX10_join_15 : decode cX10_join 15 = .ok (.iadd, 1) := by decide +kernel
theorem dX10_join_16 : decode cX10_join 16 = .ok (.istore 5, 2) := by decide +kernel
theorem dX10_join_18 : decode cX10_join 18 = .ok (.aload_n 0, 1) := by decide +kernel
theorem dX10_join_19 : decode cX10_join 19 = .ok (.getfield 33, 3) := by decide +kernel
theorem dX10_join_22 : decode cX10_join 22 = .ok (.getfield 95, 3) := by decide +kernel
theorem dX10_join_25 : decode cX10_join 25 = .ok (.iload 4, 2) := by decide +kernel
theorem dX10_join_27 : decode cX10_join 27 = .ok (.iaload, 1) := by decide +kernel
theorem dX10_join_28 : decode cX10_join 28 = .ok (.aload_n 0, 1) := by decide +kernel
theorem dX10_join_29 : decode cX10_join 29 = .ok (.getfield 33, 3) := by decide +kernel
theorem dX10_join_32 : decode cX10_join 32 = .ok (.getfield 95, 3) := by decide +kernel
theorem dX10_join_35 : decode cX10_join 35 = .ok (.iload 5, 2) := by decide +kernel
theorem dX10_join_37 : decode cX10_join 37 = .ok (.iaload, 1) := by decide +kernel
theorem dX10_join_38 : decode cX10_join 38 = .ok (.ior, 1) := by decide +kernel
theorem dX10_join_39 : decode cX10_join 39 = .ok (.sipush 128, 3) := by decide +kernel
theorem dX10_join_42 : decode cX10_join 42 = .ok (.iand, 1) := by decide +kernel
theorem dX10_join_43 : decode cX10_join 43 = .ok (.ifCond .ne 43, 3) := by decide +kernel
theorem dX10_join_46 : decode cX10_join 46 = .ok (.aload_n 0, 1) := by decide +kernel
theorem dX10_join_47 : decode cX10_join 47 = .ok (.iload_n 1, 1) := by decide +kernel
theorem dX10_join_48 : decode cX10_join 48 = .ok (.iload_n 2, 1) := by decide +kernel
theorem dX10_join_49 : decode cX10_join 49 = .ok (.iload_n 3, 1) := by decide +kernel
theorem dX10_join_50 : decode cX10_join 50 = .ok (.invokevirtual 98, 3) := by decide +kernel
theorem dX10_join_53 : decode cX10_join 53 = .ok (.ifCond .eq 33, 3) := by decide +kernel
theorem dX10_join_56 : decode cX10_join 56 = .ok (.aload_n 0, 1) := by decide +kernel
theorem dX10_join_57 : decode cX10_join 57 = .ok (.getfield 24, 3) := by decide +kernel
theorem dX10_join_60 : decode cX10_join 60 = .ok (.iload 4, 2) := by decide +kernel
theorem dX10_join_62 : decode cX10_join 62 = .ok (.dup2, 1) := by decide +kernel
theorem dX10_join_63 : decode cX10_join 63 = .ok (.iaload, 1) := by decide +kernel
theorem dX10_join_64 : decode cX10_join 64 = .ok (.iconst 1, 1) := by decide +kernel
theorem dX10_join_65 : decode cX10_join 65 = .ok (.iload_n 3, 1) := by decide +kernel
theorem dX10_join_66 : decode cX10_join 66 = .ok (.ishl, 1) := by decide +kernel
theorem dX10_join_67 : decode cX10_join 67 = .ok (.ior, 1) := by decide +kernel
theorem dX10_join_68 : decode cX10_join 68 = .ok (.iastore, 1) := by decide +kernel
theorem dX10_join_69 : decode cX10_join 69 = .ok (.aload_n 0, 1) := by decide +kernel
theorem dX10_join_70 : decode cX10_join 70 = .ok (.getfield 24, 3) := by decide +kernel
theorem dX10_join_73 : decode cX10_join 73 = .ok (.iload 5, 2) := by decide +kernel
theorem dX10_join_75 : decode cX10_join 75 = .ok (.dup2, 1) := by decide +kernel
theorem dX10_join_76 : decode cX10_join 76 = .ok (.iaload, 1) := by decide +kernel
theorem dX10_join_77 : decode cX10_join 77 = .ok (.iconst 1, 1) := by decide +kernel
theorem dX10_join_78 : decode cX10_join 78 = .ok (.iload_n 3, 1) := by decide +kernel
theorem dX10_join_79 : decode cX10_join 79 = .ok (.iconst 2, 1) := by decide +kernel
theorem dX10_join_80 : decode cX10_join 80 = .ok (.iadd, 1) := by decide +kernel
theorem dX10_join_81 : decode cX10_join 81 = .ok (.iconst 4, 1) := by decide +kernel
theorem dX10_join_82 : decode cX10_join 82 = .ok (.irem, 1) := by decide +kernel
theorem dX10_join_83 : decode cX10_join 83 = .ok (.ishl, 1) := by decide +kernel
theorem dX10_join_84 : decode cX10_join 84 = .ok (.ior, 1) := by decide +kernel
theorem dX10_join_85 : decode cX10_join 85 = .ok (.iastore, 1) := by decide +kernel
theorem dX10_join_86 : decode cX10_join 86 = .ok (.return_, 1) := by decide +kernel
theorem dX10_passes_0 : decode cX10_passes 0 = .ok (.aload_n 0, 1) := by decide +kernel
theorem dX10_passes_1 : decode cX10_passes 1 = .ok (.getfield 21, 3) := by decide +kernel
theorem dX10_passes_4 : decode cX10_passes 4 = .ok (.iload_n 2, 1) := by decide +kernel
theorem dX10_passes_5 : decode cX10_passes 5 = .ok (.bipush 40, 2) := by decide +kernel
theorem dX10_passes_7 : decode cX10_passes 7 = .ok (.imul, 1) := by decide +kernel
theorem dX10_passes_8 : decode cX10_passes 8 = .ok (.iload_n 1, 1) := by decide +kernel
theorem dX10_passes_9 : decode cX10_passes 9 = .ok (.iadd, 1) := by decide +kernel
theorem dX10_passes_10 : decode cX10_passes 10 = .ok (.iaload, 1) := by decide +kernel
theorem dX10_passes_11 : decode cX10_passes 11 = .ok (.istore 4, 2) := by decide +kernel
theorem dX10_passes_13 : decode cX10_passes 13 = .ok (.aload_n 0, 1) := by decide +kernel
theorem dX10_passes_14 : decode cX10_passes 14 = .ok (.getfield 21, 3) := by decide +kernel
theorem dX10_passes_17 : decode cX10_passes 17 = .ok (.iload_n 2, 1) := by decide +kernel
theorem dX10_passes_18 : decode cX10_passes 18 = .ok (.bipush 40, 2) := by decide +kernel
theorem dX10_passes_20 : decode cX10_passes 20 = .ok (.imul, 1) := by decide +kernel
theorem dX10_passes_21 : decode cX10_passes 21 = .ok (.iload_n 1, 1) := by decide +kernel
theorem dX10_passes_22 : decode cX10_passes 22 = .ok (.iadd, 1) := by decide +kernel
theorem dX10_passes_23 : decode cX10_passes 23 = .ok (.getstatic 92, 3) := by decide +kernel
theorem dX10_passes_26 : decode cX10_passes 26 = .ok (.iload_n 3, 1) := by decide +kernel
theorem dX10_passes_27 : decode cX10_passes 27 = .ok (.iaload, 1) := by decide +kernel
theorem dX10_passes_28 : decode cX10_passes 28 = .ok (.iadd, 1) := by decide +kernel
theorem dX10_passes_29 : decode cX10_passes 29 = .ok (.iaload, 1) := by decide +kernel
theorem dX10_passes_30 : decode cX10_passes 30 = .ok (.istore 5, 2) := by decide +kernel
theorem dX10_passes_32 : decode cX10_passes 32 = .ok (.iload 4, 2) := by decide +kernel
theorem dX10_passes_34 : decode cX10_passes 34 = .ok (.iload 5, 2) := by decide +kernel
theorem dX10_passes_36 : decode cX10_passes 36 = .ok (.if_icmp .ne 5, 3) := by decide +kernel
theorem dX10_passes_39 : decode cX10_passes 39 = .ok (.iconst 1, 1) := by decide +kernel
theorem dX10_passes_40 : decode cX10_passes 40 = .ok (.ireturn, 1) := by decide +kernel
theorem dX10_passes_41 : decode cX10_passes 41 = .ok (.iload 4, 2) := by decide +kernel
theorem dX10_passes_43 : decode cX10_passes 43 = .ok (.iconst (-1), 1) := by decide +kernel
theorem dX10_passes_44 : decode cX10_passes 44 = .ok (.if_icmp .eq 25, 3) := by decide +kernel
theorem dX10_passes_47 : decode cX10_passes 47 = .ok (.aload_n 0, 1) := by decide +kernel
theorem dX10_passes_48 : decode cX10_passes 48 = .ok (.getfield 33, 3) := by decide +kernel
theorem dX10_passes_51 : decode cX10_passes 51 = .ok (.getfield 62, 3) := by decide +kernel
theorem dX10_passes_54 : decode cX10_passes 54 = .ok (.iload 4, 2) := by decide +kernel
theorem dX10_passes_56 : decode cX10_passes 56 = .ok (.aaload, 1) := by decide +kernel
theorem dX10_passes_57 : decode cX10_passes 57 = .ok (.getfield 102, 3) := by decide +kernel
theorem dX10_passes_60 : decode cX10_passes 60 = .ok (.iload 5, 2) := by decide +kernel
theorem dX10_passes_62 : decode cX10_passes 62 = .ok (.if_icmp .ne 7, 3) := by decide +kernel
theorem dX10_passes_65 : decode cX10_passes 65 = .ok (.iconst 1, 1) := by decide +kernel
theorem dX10_passes_66 : decode cX10_passes 66 = .ok (.goto 4, 3) := by decide +kernel
theorem dX10_passes_69 : decode cX10_passes 69 = .ok (.iconst 0, 1) := by decide +kernel
theorem dX10_passes_70 : decode cX10_passes 70 = .ok (.istore 6, 2) := by decide +kernel
theorem dX10_passes_72 : decode cX10_passes 72 = .ok (.iload 6, 2) := by decide +kernel
theorem dX10_passes_74 : decode cX10_passes 74 = .ok (.ifCond .eq 8, 3) := by decide +kernel
theorem dX10_passes_77 : decode cX10_passes 77 = .ok (.iload 4, 2) := by decide +kernel
theorem dX10_passes_79 : decode cX10_passes 79 = .ok (.goto 5, 3) := by decide +kernel
theorem dX10_passes_82 : decode cX10_passes 82 = .ok (.iload 5, 2) := by decide +kernel
theorem dX10_passes_84 : decode cX10_passes 84 = .ok (.istore 7, 2) := by decide +kernel
theorem dX10_passes_86 : decode cX10_passes 86 = .ok (.iload 7, 2) := by decide +kernel
theorem dX10_passes_88 : decode cX10_passes 88 = .ok (.iconst (-1), 1) := by decide +kernel
theorem dX10_passes_89 : decode cX10_passes 89 = .ok (.if_icmp .ne 5, 3) := by decide +kernel
theorem dX10_passes_92 : decode cX10_passes 92 = .ok (.iconst 0, 1) := by decide +kernel
theorem dX10_passes_93 : decode cX10_passes 93 = .ok (.ireturn, 1) := by decide +kernel
theorem dX10_passes_94 : decode cX10_passes 94 = .ok (.aload_n 0, 1) := by decide +kernel
theorem dX10_passes_95 : decode cX10_passes 95 = .ok (.getfield 33, 3) := by decide +kernel
theorem dX10_passes_98 : decode cX10_passes 98 = .ok (.getfield 62, 3) := by decide +kernel
theorem dX10_passes_101 : decode cX10_passes 101 = .ok (.iload 7, 2) := by decide +kernel
theorem dX10_passes_103 : decode cX10_passes 103 = .ok (.aaload, 1) := by decide +kernel
theorem dX10_passes_104 : decode cX10_passes 104 = .ok (.astore 8, 2) := by decide +kernel
theorem dX10_passes_106 : decode cX10_passes 106 = .ok (.iload 6, 2) := by decide +kernel
theorem dX10_passes_108 : decode cX10_passes 108 = .ok (.ifCond .eq 7, 3) := by decide +kernel
theorem dX10_passes_111 : decode cX10_passes 111 = .ok (.iload_n 3, 1) := by decide +kernel
theorem dX10_passes_112 : decode cX10_passes 112 = .ok (.goto 8, 3) := by decide +kernel
theorem dX10_passes_115 : decode cX10_passes 115 = .ok (.iload_n 3, 1) := by decide +kernel
theorem dX10_passes_116 : decode cX10_passes 116 = .ok (.iconst 2, 1) := by decide +kernel
theorem dX10_passes_117 : decode cX10_passes 117 = .ok (.iadd, 1) := by decide +kernel
theorem dX10_passes_118 : decode cX10_passes 118 = .ok (.iconst 4, 1) := by decide +kernel
theorem dX10_passes_119 : decode cX10_passes 119 = .ok (.irem, 1) := by decide +kernel
theorem dX10_passes_120 : decode cX10_passes 120 = .ok (.istore 9, 2) := by decide +kernel
theorem dX10_passes_122 : decode cX10_passes 122 = .ok (.iload_n 3, 1) := by decide +kernel
theorem dX10_passes_123 : decode cX10_passes 123 = .ok (.iconst 2, 1) := by decide +kernel
theorem dX10_passes_124 : decode cX10_passes 124 = .ok (.irem, 1) := by decide +kernel
theorem dX10_passes_125 : decode cX10_passes 125 = .ok (.ifCond .ne 13, 3) := by decide +kernel
theorem dX10_passes_128 : decode cX10_passes 128 = .ok (.iload_n 1, 1) := by decide +kernel
theorem dX10_passes_129 : decode cX10_passes 129 = .ok (.aload 8, 2) := by decide +kernel
theorem dX10_passes_131 : decode cX10_passes 131 = .ok (.getfield 86, 3) := by decide +kernel
theorem dX10_passes_134 : decode cX10_passes 134 = .ok (.isub, 1) := by decide +kernel
theorem dX10_passes_135 : decode cX10_passes 135 = .ok (.goto 10, 3) := by decide +kernel
theorem dX10_passes_138 : decode cX10_passes 138 = .ok (.iload_n 2, 1) := by decide +kernel
theorem dX10_passes_139 : decode cX10_passes 139 = .ok (.aload 8, 2) := by decide +kernel
theorem dX10_passes_141 : decode cX10_passes 141 = .ok (.getfield 80, 3) := by decide +kernel
theorem dX10_passes_144 : decode cX10_passes 144 = .ok (.isub, 1) := by decide +kernel
theorem dX10_passes_145 : decode cX10_passes 145 = .ok (.istore 10, 2) := by decide +kernel
theorem dX10_passes_147 : decode cX10_passes 147 = .ok (.iload 7, 2) := by decide +kernel
theorem dX10_passes_149 : decode cX10_passes 149 = .ok (.aload_n 0, 1) := by decide +kernel
theorem dX10_passes_150 : decode cX10_passes 150 = .ok (.getfield 37, 3) := by decide +kernel
theorem dX10_passes_153 : decode cX10_passes 153 = .ok (.if_icmp .eq 23, 3) := by decide +kernel
theorem dX10_passes_156 : decode cX10_passes 156 = .ok (.aload 8, 2) := by decide +kernel
theorem dX10_passes_158 : decode cX10_passes 158 = .ok (.getfield 105, 3) := by decide +kernel
theorem dX10_passes_161 : decode cX10_passes 161 = .ok (.iload 9, 2) := by decide +kernel
theorem dX10_passes_163 : decode cX10_passes 163 = .ok (.if_icmp .ne 17, 3) := by decide +kernel
theorem dX10_passes_166 : decode cX10_passes 166 = .ok (.aload 8, 2) := by decide +kernel
theorem dX10_passes_168 : decode cX10_passes 168 = .ok (.getfield 108, 3) := by decide +kernel
theorem dX10_passes_171 : decode cX10_passes 171 = .ok (.iload 10, 2) := by decide +kernel
theorem dX10_passes_173 : decode cX10_passes 173 = .ok (.if_icmp .ne 7, 3) := by decide +kernel
theorem dX10_passes_176 : decode cX10_passes 176 = .ok (.iconst 1, 1) := by decide +kernel
theorem dX10_passes_177 : decode cX10_passes 177 = .ok (.goto 4, 3) := by decide +kernel
theorem dX10_passes_180 : decode cX10_passes 180 = .ok (.iconst 0, 1) := by decide +kernel
theorem dX10_passes_181 : decode cX10_passes 181 = .ok (.ireturn, 1) := by decide +kernel
theorem dX10_walk_0 : decode cX10_walk 0 = .ok (.aload_n 3, 1) := by decide +kernel
theorem dX10_walk_1 : decode cX10_walk 1 = .ok (.iconst (-1), 1) := by decide +kernel
theorem dX10_walk_2 : decode cX10_walk 2 = .ok (.invokestatic 44, 3) := by decide +kernel
theorem dX10_walk_5 : decode cX10_walk 5 = .ok (.aload_n 0, 1) := by decide +kernel
theorem dX10_walk_6 : decode cX10_walk 6 = .ok (.getfield 33, 3) := by decide +kernel
theorem dX10_walk_9 : decode cX10_walk 9 = .ok (.getfield 95, 3) := by decide +kernel
theorem dX10_walk_12 : decode cX10_walk 12 = .ok (.iload_n 1, 1) := by decide +kernel
theorem dX10_walk_13 : decode cX10_walk 13 = .ok (.iaload, 1) := by decide +kernel
theorem dX10_walk_14 : decode cX10_walk 14 = .ok (.sipush 128, 3) := by decide +kernel
theorem dX10_walk_17 : decode cX10_walk 17 = .ok (.iand, 1) := by decide +kernel
theorem dX10_walk_18 : decode cX10_walk 18 = .ok (.ifCond .eq 5, 3) := by decide +kernel
theorem dX10_walk_21 : decode cX10_walk 21 = .ok (.iconst (-1), 1) := by decide +kernel
theorem dX10_walk_22 : decode cX10_walk 22 = .ok (.ireturn, 1) := by decide +kernel
theorem dX10_walk_23 : decode cX10_walk 23 = .ok (.aload_n 3, 1) := by decide +kernel
theorem dX10_walk_24 : decode cX10_walk 24 = .ok (.iload_n 1, 1) := by decide +kernel
theorem dX10_walk_25 : decode cX10_walk 25 = .ok (.iconst 0, 1) := by decide +kernel
theorem dX10_walk_26 : decode cX10_walk 26 = .ok (.iastore, 1) := by decide +kernel
theorem dX10_walk_27 : decode cX10_walk 27 = .ok (.aload_n 0, 1) := by decide +kernel
theorem dX10_walk_28 : decode cX10_walk 28 = .ok (.getfield 18, 3) := by decide +kernel
theorem dX10_walk_31 : decode cX10_walk 31 = .ok (.iconst 0, 1) := by decide +kernel
theorem dX10_walk_32 : decode cX10_walk 32 = .ok (.iload_n 1, 1) := by decide +kernel
theorem dX10_walk_33 : decode cX10_walk 33 = .ok (.iastore, 1) := by decide +kernel
theorem dX10_walk_34 : decode cX10_walk 34 = .ok (.iconst 1, 1) := by decide +kernel
theorem dX10_walk_35 : decode cX10_walk 35 = .ok (.istore 4, 2) := by decide +kernel
theorem dX10_walk_37 : decode cX10_walk 37 = .ok (.iconst 0, 1) := by decide +kernel
theorem dX10_walk_38 : decode cX10_walk 38 = .ok (.istore 5, 2) := by decide +kernel
theorem dX10_walk_40 : decode cX10_walk 40 = .ok (.iload 5, 2) := by decide +kernel
theorem dX10_walk_42 : decode cX10_walk 42 = .ok (.iload 4, 2) := by decide +kernel
theorem dX10_walk_44 : decode cX10_walk 44 = .ok (.if_icmp .ge 131, 3) := by decide +kernel
theorem dX10_walk_47 : decode cX10_walk 47 = .ok (.iload 5, 2) := by decide +kernel
theorem dX10_walk_49 : decode cX10_walk 49 = .ok (.sipush 1600, 3) := by decide +kernel
theorem dX10_walk_52 : decode cX10_walk 52 = .ok (.if_icmp .ge 123, 3) := by decide +kernel
theorem dX10_walk_55 : decode cX10_walk 55 = .ok (.iload_n 2, 1) := by decide +kernel
theorem dX10_walk_56 : decode cX10_walk 56 = .ok (.iconst (-1), 1) := by decide +kernel
theorem dX10_walk_57 : decode cX10_walk 57 = .ok (.if_icmp .eq 13, 3) := by decide +kernel
theorem dX10_walk_60 : decode cX10_walk 60 = .ok (.aload_n 3, 1) := by decide +kernel
theorem dX10_walk_61 : decode cX10_walk 61 = .ok (.iload_n 2, 1) := by decide +kernel
theorem dX10_walk_62 : decode cX10_walk 62 = .ok (.iaload, 1) := by decide +kernel
theorem dX10_walk_63 : decode cX10_walk 63 = .ok (.iconst (-1), 1) := by decide +kernel
theorem dX10_walk_64 : decode cX10_walk 64 = .ok (.if_icmp .eq 6, 3) := by decide +kernel
theorem dX10_walk_67 : decode cX10_walk 67 = .ok (.goto 108, 3) := by decide +kernel
theorem dX10_walk_70 : decode cX10_walk 70 = .ok (.aload_n 0, 1) := by decide +kernel
theorem dX10_walk_71 : decode cX10_walk 71 = .ok (.getfield 18, 3) := by decide +kernel
theorem dX10_walk_74 : decode cX10_walk 74 = .ok (.iload 5, 2) := by decide +kernel
theorem dX10_walk_76 : decode cX10_walk 76 = .ok (.iaload, 1) := by decide +kernel
theorem dX10_walk_77 : decode cX10_walk 77 = .ok (.istore 6, 2) := by decide +kernel
theorem dX10_walk_79 : decode cX10_walk 79 = .ok (.iconst 0, 1) := by decide +kernel
theorem dX10_walk_80 : decode cX10_walk 80 = .ok (.istore 7, 2) := by decide +kernel
theorem dX10_walk_82 : decode cX10_walk 82 = .ok (.iload 7, 2) := by decide +kernel
theorem dX10_walk_84 : decode cX10_walk 84 = .ok (.iconst 4, 1) := by decide +kernel
theorem dX10_walk_85 : decode cX10_walk 85 = .ok (.if_icmp .ge 84, 3) := by decide +kernel
theorem dX10_walk_88 : decode cX10_walk 88 = .ok (.aload_n 0, 1) := by decide +kernel
theorem dX10_walk_89 : decode cX10_walk 89 = .ok (.getfield 24, 3) := by decide +kernel
theorem dX10_walk_92 : decode cX10_walk 92 = .ok (.iload 6, 2) := by decide +kernel
theorem dX10_walk_94 : decode cX10_walk 94 = .ok (.iaload, 1) := by decide +kernel
theorem dX10_walk_95 : decode cX10_walk 95 = .ok (.iload 7, 2) := by decide +kernel
theorem dX10_walk_97 : decode cX10_walk 97 = .ok (.ishr, 1) := by decide +kernel
theorem dX10_walk_98 : decode cX10_walk 98 = .ok (.iconst 1, 1) := by decide +kernel
theorem dX10_walk_99 : decode cX10_walk 99 = .ok (.iand, 1) := by decide +kernel
theorem dX10_walk_100 : decode cX10_walk 100 = .ok (.iconst 1, 1) := by decide +kernel
theorem dX10_walk_101 : decode cX10_walk 101 = .ok (.if_icmp .ne 62, 3) := by decide +kernel
theorem dX10_walk_104 : decode cX10_walk 104 = .ok (.aload_n 3, 1) := by decide +kernel
theorem dX10_walk_105 : decode cX10_walk 105 = .ok (.iload 6, 2) := by decide +kernel
theorem dX10_walk_107 : decode cX10_walk 107 = .ok (.getstatic 92, 3) := by decide +kernel
theorem dX10_walk_110 : decode cX10_walk 110 = .ok (.iload 7, 2) := by decide +kernel
theorem dX10_walk_112 : decode cX10_walk 112 = .ok (.iaload, 1) := by decide +kernel
theorem dX10_walk_113 : decode cX10_walk 113 = .ok (.iadd, 1) := by decide +kernel
theorem dX10_walk_114 : decode cX10_walk 114 = .ok (.iaload, 1) := by decide +kernel
theorem dX10_walk_115 : decode cX10_walk 115 = .ok (.iconst (-1), 1) := by decide +kernel
theorem dX10_walk_116 : decode cX10_walk 116 = .ok (.if_icmp .ne 47, 3) := by decide +kernel
theorem dX10_walk_119 : decode cX10_walk 119 = .ok (.iload 4, 2) := by decide +kernel
theorem dX10_walk_121 : decode cX10_walk 121 = .ok (.sipush 1600, 3) := by decide +kernel
theorem dX10_walk_124 : decode cX10_walk 124 = .ok (.if_icmp .ge 39, 3) := by decide +kernel
theorem dX10_walk_127 : decode cX10_walk 127 = .ok (.aload_n 3, 1) := by decide +kernel
theorem dX10_walk_128 : decode cX10_walk 128 = .ok (.iload 6, 2) := by decide +kernel
theorem dX10_walk_130 : decode cX10_walk 130 = .ok (.getstatic 92, 3) := by decide +kernel
theorem dX10_walk_133 : decode cX10_walk 133 = .ok (.iload 7, 2) := by decide +kernel
theorem dX10_walk_135 : decode cX10_walk 135 = .ok (.iaload, 1) := by decide +kernel
theorem dX10_walk_136 : decode cX10_walk 136 = .ok (.iadd, 1) := by decide +kernel
theorem dX10_walk_137 : decode cX10_walk 137 = .ok (.aload_n 3, 1) := by decide +kernel
theorem dX10_walk_138 : decode cX10_walk 138 = .ok (.iload 6, 2) := by decide +kernel
theorem dX10_walk_140 : decode cX10_walk 140 = .ok (.iaload, 1) := by decide +kernel
theorem dX10_walk_141 : decode cX10_walk 141 = .ok (.iconst 1, 1) := by decide +kernel
theorem dX10_walk_142 : decode cX10_walk 142 = .ok (.iadd, 1) := by decide +kernel
theorem dX10_walk_143 : decode cX10_walk 143 = .ok (.iastore, 1) := by decide +kernel
theorem dX10_walk_144 : decode cX10_walk 144 = .ok (.aload_n 0, 1) := by decide +kernel
theorem dX10_walk_145 : decode cX10_walk 145 = .ok (.getfield 18, 3) := by decide +kernel
theorem dX10_walk_148 : decode cX10_walk 148 = .ok (.iload 4, 2) := by decide +kernel
theorem dX10_walk_150 : decode cX10_walk 150 = .ok (.iload 6, 2) := by decide +kernel
theorem dX10_walk_152 : decode cX10_walk 152 = .ok (.getstatic 92, 3) := by decide +kernel
theorem dX10_walk_155 : decode cX10_walk 155 = .ok (.iload 7, 2) := by decide +kernel
theorem dX10_walk_157 : decode cX10_walk 157 = .ok (.iaload, 1) := by decide +kernel
theorem dX10_walk_158 : decode cX10_walk 158 = .ok (.iadd, 1) := by decide +kernel
theorem dX10_walk_159 : decode cX10_walk 159 = .ok (.iastore, 1) := by decide +kernel
theorem dX10_walk_160 : decode cX10_walk 160 = .ok (.iinc 4 1, 3) := by decide +kernel
theorem dX10_walk_163 : decode cX10_walk 163 = .ok (.iinc 7 1, 3) := by decide +kernel
theorem dX10_walk_166 : decode cX10_walk 166 = .ok (.goto (-84), 3) := by decide +kernel
theorem dX10_walk_169 : decode cX10_walk 169 = .ok (.iinc 5 1, 3) := by decide +kernel
theorem dX10_walk_172 : decode cX10_walk 172 = .ok (.goto (-132), 3) := by decide +kernel
theorem dX10_walk_175 : decode cX10_walk 175 = .ok (.iload_n 2, 1) := by decide +kernel
theorem dX10_walk_176 : decode cX10_walk 176 = .ok (.iconst (-1), 1) := by decide +kernel
theorem dX10_walk_177 : decode cX10_walk 177 = .ok (.if_icmp .ne 7, 3) := by decide +kernel
theorem dX10_walk_180 : decode cX10_walk 180 = .ok (.iconst (-1), 1) := by decide +kernel
theorem dX10_walk_181 : decode cX10_walk 181 = .ok (.goto 6, 3) := by decide +kernel
theorem dX10_walk_184 : decode cX10_walk 184 = .ok (.aload_n 3, 1) := by decide +kernel
theorem dX10_walk_185 : decode cX10_walk 185 = .ok (.iload_n 2, 1) := by decide +kernel
theorem dX10_walk_186 : decode cX10_walk 186 = .ok (.iaload, 1) := by decide +kernel
theorem dX10_walk_187 : decode cX10_walk 187 = .ok (.ireturn, 1) := by decide +kernel
theorem dX10_settle_0 : decode cX10_settle 0 = .ok (.aload_n 0, 1) := by decide +kernel
theorem dX10_settle_1 : decode cX10_settle 1 = .ok (.iconst 0, 1) := by decide +kernel
theorem dX10_settle_2 : decode cX10_settle 2 = .ok (.putfield 111, 3) := by decide +kernel
theorem dX10_settle_5 : decode cX10_settle 5 = .ok (.aload_n 0, 1) := by decide +kernel
theorem dX10_settle_6 : decode cX10_settle 6 = .ok (.iconst 0, 1) := by decide +kernel
theorem dX10_settle_7 : decode cX10_settle 7 = .ok (.putfield 114, 3) := by decide +kernel
theorem dX10_settle_10 : decode cX10_settle 10 = .ok (.bipush 6, 2) := by decide +kernel
theorem dX10_settle_12 : decode cX10_settle 12 = .ok (.istore 6, 2) := by decide +kernel
theorem dX10_settle_14 : decode cX10_settle 14 = .ok (.iload 6, 2) := by decide +kernel
theorem dX10_settle_16 : decode cX10_settle 16 = .ok (.bipush 30, 2) := by decide +kernel
theorem dX10_settle_18 : decode cX10_settle 18 = .ok (.if_icmp .ge 88, 3) := by decide +kernel
theorem dX10_settle_21 : decode cX10_settle 21 = .ok (.aload_n 0, 1) := by decide +kernel
theorem dX10_settle_22 : decode cX10_settle 22 = .ok (.getfield 33, 3) := by decide +kernel
theorem dX10_settle_25 : decode cX10_settle 25 = .ok (.getfield 62, 3) := by decide +kernel
theorem dX10_settle_28 : decode cX10_settle 28 = .ok (.iload 6, 2) := by decide +kernel
theorem dX10_settle_30 : decode cX10_settle 30 = .ok (.aaload, 1) := by decide +kernel
theorem dX10_settle_31 : decode cX10_settle 31 = .ok (.astore 7, 2) := by decide +kernel
theorem dX10_settle_33 : decode cX10_settle 33 = .ok (.aload 7, 2) := by decide +kernel
theorem dX10_settle_35 : decode cX10_settle 35 = .ok (.getfield 66, 3) := by decide +kernel
theorem dX10_settle_38 : decode cX10_settle 38 = .ok (.ifCond .eq 62, 3) := by decide +kernel
theorem dX10_settle_41 : decode cX10_settle 41 = .ok (.aload 7, 2) := by decide +kernel
theorem dX10_settle_43 : decode cX10_settle 43 = .ok (.iload_n 2, 1) := by decide +kernel
theorem dX10_settle_44 : decode cX10_settle 44 = .ok (.iload_n 3, 1) := by decide +kernel
theorem dX10_settle_45 : decode cX10_settle 45 = .ok (.invokevirtual 117, 3) := by decide +kernel
theorem dX10_settle_48 : decode cX10_settle 48 = .ok (.aload 7, 2) := by decide +kernel
theorem dX10_settle_50 : decode cX10_settle 50 = .ok (.iload 4, 2) := by decide +kernel
theorem dX10_settle_52 : decode cX10_settle 52 = .ok (.iload 5, 2) := by decide +kernel
theorem dX10_settle_54 : decode cX10_settle 54 = .ok (.invokevirtual 117, 3) := by decide +kernel
theorem dX10_settle_57 : decode cX10_settle 57 = .ok (.if_icmp .eq 43, 3) := by decide +kernel
theorem dX10_settle_60 : decode cX10_settle 60 = .ok (.aload 7, 2) := by decide +kernel
theorem dX10_settle_62 : decode cX10_settle 62 = .ok (.iload_n 1, 1) := by decide +kernel
theorem dX10_settle_63 : decode cX10_settle 63 = .ok (.invokevirtual 121, 3) := by decide +kernel
theorem dX10_settle_66 : decode cX10_settle 66 = .ok (.istore 8, 2) := by decide +kernel
theorem dX10_settle_68 : decode cX10_settle 68 = .ok (.aload_n 0, 1) := by decide +kernel
theorem dX10_settle_69 : decode cX10_settle 69 = .ok (.dup, 1) := by decide +kernel
theorem dX10_settle_70 : decode cX10_settle 70 = .ok (.getfield 111, 3) := by decide +kernel
theorem dX10_settle_73 : decode cX10_settle 73 = .ok (.iload 8, 2) := by decide +kernel
theorem dX10_settle_75 : decode cX10_settle 75 = .ok (.iadd, 1) := by decide +kernel
theorem dX10_settle_76 : decode cX10_settle 76 = .ok (.putfield 111, 3) := by decide +kernel
theorem dX10_settle_79 : decode cX10_settle 79 = .ok (.iload 8, 2) := by decide +kernel
theorem dX10_settle_81 : decode cX10_settle 81 = .ok (.ifCond .le 19, 3) := by decide +kernel
theorem dX10_settle_84 : decode cX10_settle 84 = .ok (.aload_n 0, 1) := by decide +kernel
theorem dX10_settle_85 : decode cX10_settle 85 = .ok (.dup, 1) := by decide +kernel
theorem dX10_settle_86 : decode cX10_settle 86 = .ok (.getfield 114, 3) := by decide +kernel
theorem dX10_settle_89 : decode cX10_settle 89 = .ok (.iconst 1, 1) := by decide +kernel
theorem dX10_settle_90 : decode cX10_settle 90 = .ok (.aload 7, 2) := by decide +kernel
theorem dX10_settle_92 : decode cX10_settle 92 = .ok (.getfield 125, 3) := by decide +kernel
theorem dX10_settle_95 : decode cX10_settle 95 = .ok (.ishl, 1) := by decide +kernel
theorem dX10_settle_96 : decode cX10_settle 96 = .ok (.ior, 1) := by decide +kernel
theorem dX10_settle_97 : decode cX10_settle 97 = .ok (.putfield 114, 3) := by decide +kernel
theorem dX10_settle_100 : decode cX10_settle 100 = .ok (.iinc 6 1, 3) := by decide +kernel
theorem dX10_settle_103 : decode cX10_settle 103 = .ok (.goto (-89), 3) := by decide +kernel
theorem dX10_settle_106 : decode cX10_settle 106 = .ok (.return_, 1) := by decide +kernel
theorem dX10_clearGates_0 : decode cX10_clearGates 0 = .ok (.aload_n 0, 1) := by decide +kernel
theorem dX10_clearGates_1 : decode cX10_clearGates 1 = .ok (.getfield 27, 3) := by decide +kernel
theorem dX10_clearGates_4 : decode cX10_clearGates 4 = .ok (.iconst 0, 1) := by decide +kernel
theorem dX10_clearGates_5 : decode cX10_clearGates 5 = .ok (.invokestatic 44, 3) := by decide +kernel
theorem dX10_clearGates_8 : decode cX10_clearGates 8 = .ok (.aload_n 0, 1) := by decide +kernel
theorem dX10_clearGates_9 : decode cX10_clearGates 9 = .ok (.getfield 30, 3) := by decide +kernel
theorem dX10_clearGates_12 : decode cX10_clearGates 12 = .ok (.iconst 0, 1) := by decide +kernel
theorem dX10_clearGates_13 : decode cX10_clearGates 13 = .ok (.invokestatic 44, 3) := by decide +kernel
theorem dX10_clearGates_16 : decode cX10_clearGates 16 = .ok (.return_, 1) := by decide +kernel
theorem dX10_tryGates_0 : decode cX10_tryGates 0 = .ok (.aload_n 0, 1) := by decide +kernel
theorem dX10_tryGates_1 : decode cX10_tryGates 1 = .ok (.aload_n 2, 1) := by decide +kernel
theorem dX10_tryGates_2 : decode cX10_tryGates 2 = .ok (.invokevirtual 128, 3) := by decide +kernel
theorem dX10_tryGates_5 : decode cX10_tryGates 5 = .ok (.iconst (-1), 1) := by decide +kernel
theorem dX10_tryGates_6 : decode cX10_tryGates 6 = .ok (.aload_n 0, 1) := by decide +kernel
theorem dX10_tryGates_7 : decode cX10_tryGates 7 = .ok (.getfield 9, 3) := by decide +kernel
theorem dX10_tryGates_10 : decode cX10_tryGates 10 = .ok (.invokevirtual 133, 3) := by decide +kernel
theorem dX10_tryGates_13 : decode cX10_tryGates 13 = .ok (.pop, 1) := by decide +kernel
theorem dX10_tryGates_14 : decode cX10_tryGates 14 = .ok (.aload_n 0, 1) := by decide +kernel
theorem dX10_tryGates_15 : decode cX10_tryGates 15 = .ok (.aload_n 2, 1) := by decide +kernel
theorem dX10_tryGates_16 : decode cX10_tryGates 16 = .ok (.invokevirtual 137, 3) := by decide +kernel
theorem dX10_tryGates_19 : decode cX10_tryGates 19 = .ok (.iconst (-1), 1) := by decide +kernel
theorem dX10_tryGates_20 : decode cX10_tryGates 20 = .ok (.aload_n 0, 1) := by decide +kernel
theorem dX10_tryGates_21 : decode cX10_tryGates 21 = .ok (.getfield 15, 3) := by decide +kernel
theorem dX10_tryGates_24 : decode cX10_tryGates 24 = .ok (.invokevirtual 133, 3) := by decide +kernel
theorem dX10_tryGates_27 : decode cX10_tryGates 27 = .ok (.pop, 1) := by decide +kernel
theorem dX10_tryGates_28 : decode cX10_tryGates 28 = .ok (.aload_n 0, 1) := by decide +kernel
theorem dX10_tryGates_29 : decode cX10_tryGates 29 = .ok (.aload_n 2, 1) := by decide +kernel
theorem dX10_tryGates_30 : decode cX10_tryGates 30 = .ok (.getfield 140, 3) := by decide +kernel
theorem dX10_tryGates_33 : decode cX10_tryGates 33 = .ok (.aload_n 2, 1) := by decide +kernel
theorem dX10_tryGates_34 : decode cX10_tryGates 34 = .ok (.getfield 143, 3) := by decide +kernel
theorem dX10_tryGates_37 : decode cX10_tryGates 37 = .ok (.aload_n 2, 1) := by decide +kernel
theorem dX10_tryGates_38 : decode cX10_tryGates 38 = .ok (.getfield 144, 3) := by decide +kernel
theorem dX10_tryGates_41 : decode cX10_tryGates 41 = .ok (.aload_n 2, 1) := by decide +kernel
theorem dX10_tryGates_42 : decode cX10_tryGates 42 = .ok (.getfield 145, 3) := by decide +kernel
theorem dX10_tryGates_45 : decode cX10_tryGates 45 = .ok (.aload_n 2, 1) := by decide +kernel
theorem dX10_tryGates_46 : decode cX10_tryGates 46 = .ok (.getfield 146, 3) := by decide +kernel
theorem dX10_tryGates_49 : decode cX10_tryGates 49 = .ok (.invokevirtual 147, 3) := by decide +kernel
theorem dX10_tryGates_52 : decode cX10_tryGates 52 = .ok (.aload_n 1, 1) := by decide +kernel
theorem dX10_tryGates_53 : decode cX10_tryGates 53 = .ok (.aload_n 2, 1) := by decide +kernel
theorem dX10_tryGates_54 : decode cX10_tryGates 54 = .ok (.getfield 143, 3) := by decide +kernel
theorem dX10_tryGates_57 : decode cX10_tryGates 57 = .ok (.aload_n 2, 1) := by decide +kernel
theorem dX10_tryGates_58 : decode cX10_tryGates 58 = .ok (.getfield 144, 3) := by decide +kernel
theorem dX10_tryGates_61 : decode cX10_tryGates 61 = .ok (.invokevirtual 117, 3) := by decide +kernel
theorem dX10_tryGates_64 : decode cX10_tryGates 64 = .ok (.istore_n 3, 1) := by decide +kernel
theorem dX10_tryGates_65 : decode cX10_tryGates 65 = .ok (.iconst 0, 1) := by decide +kernel
theorem dX10_tryGates_66 : decode cX10_tryGates 66 = .ok (.istore 4, 2) := by decide +kernel
theorem dX10_tryGates_68 : decode cX10_tryGates 68 = .ok (.iload 4, 2) := by decide +kernel
theorem dX10_tryGates_70 : decode cX10_tryGates 70 = .ok (.iconst 4, 1) := by decide +kernel
theorem dX10_tryGates_71 : decode cX10_tryGates 71 = .ok (.if_icmp .ge 39, 3) := by decide +kernel
theorem dX10_tryGates_74 : decode cX10_tryGates 74 = .ok (.iconst 0, 1) := by decide +kernel
theorem dX10_tryGates_75 : decode cX10_tryGates 75 = .ok (.istore 5, 2) := by decide +kernel
theorem dX10_tryGates_77 : decode cX10_tryGates 77 = .ok (.iload 5, 2) := by decide +kernel
theorem dX10_tryGates_79 : decode cX10_tryGates 79 = .ok (.aload_n 1, 1) := by decide +kernel
theorem dX10_tryGates_80 : decode cX10_tryGates 80 = .ok (.iload 4, 2) := by decide +kernel
theorem dX10_tryGates_82 : decode cX10_tryGates 82 = .ok (.invokevirtual 151, 3) := by decide +kernel
theorem dX10_tryGates_85 : decode cX10_tryGates 85 = .ok (.if_icmp .ge 19, 3) := by decide +kernel
theorem dX10_tryGates_88 : decode cX10_tryGates 88 = .ok (.aload_n 0, 1) := by decide +kernel
theorem dX10_tryGates_89 : decode cX10_tryGates 89 = .ok (.aload_n 1, 1) := by decide +kernel
theorem dX10_tryGates_90 : decode cX10_tryGates 90 = .ok (.iload 4, 2) := by decide +kernel
theorem dX10_tryGates_92 : decode cX10_tryGates 92 = .ok (.iload 5, 2) := by decide +kernel
theorem dX10_tryGates_94 : decode cX10_tryGates 94 = .ok (.iload_n 3, 1) := by decide +kernel
theorem dX10_tryGates_95 : decode cX10_tryGates 95 = .ok (.invokevirtual 154, 3) := by decide +kernel
theorem dX10_tryGates_98 : decode cX10_tryGates 98 = .ok (.iinc 5 1, 3) := by decide +kernel
theorem dX10_tryGates_101 : decode cX10_tryGates 101 = .ok (.goto (-24), 3) := by decide +kernel
theorem dX10_tryGates_104 : decode cX10_tryGates 104 = .ok (.iinc 4 1, 3) := by decide +kernel
theorem dX10_tryGates_107 : decode cX10_tryGates 107 = .ok (.goto (-39), 3) := by decide +kernel
theorem dX10_tryGates_110 : decode cX10_tryGates 110 = .ok (.return_, 1) := by decide +kernel
theorem dX10_addGate_0 : decode cX10_addGate 0 = .ok (.iload_n 2, 1) := by decide +kernel
theorem dX10_addGate_1 : decode cX10_addGate 1 = .ok (.iconst 1, 1) := by decide +kernel
theorem dX10_addGate_2 : decode cX10_addGate 2 = .ok (.if_icmp .ne 12, 3) := by decide +kernel
theorem dX10_addGate_5 : decode cX10_addGate 5 = .ok (.aload_n 1, 1) := by decide +kernel
theorem dX10_addGate_6 : decode cX10_addGate 6 = .ok (.getfield 89, 3) := by decide +kernel
theorem dX10_addGate_9 : decode cX10_addGate 9 = .ok (.iconst 1, 1) := by decide +kernel
theorem dX10_addGate_10 : decode cX10_addGate 10 = .ok (.isub, 1) := by decide +kernel
theorem dX10_addGate_11 : decode cX10_addGate 11 = .ok (.goto 21, 3) := by decide +kernel
theorem dX10_addGate_14 : decode cX10_addGate 14 = .ok (.iload_n 2, 1) := by decide +kernel
theorem dX10_addGate_15 : decode cX10_addGate 15 = .ok (.iconst 3, 1) := by decide +kernel
theorem dX10_addGate_16 : decode cX10_addGate 16 = .ok (.if_icmp .ne 10, 3) := by decide +kernel
theorem dX10_addGate_19 : decode cX10_addGate 19 = .ok (.aload_n 1, 1) := by decide +kernel
theorem dX10_addGate_20 : decode cX10_addGate 20 = .ok (.getfield 86, 3) := by decide +kernel
theorem dX10_addGate_23 : decode cX10_addGate 23 = .ok (.goto 9, 3) := by decide +kernel
theorem dX10_addGate_26 : decode cX10_addGate 26 = .ok (.aload_n 1, 1) := by decide +kernel
theorem dX10_addGate_27 : decode cX10_addGate 27 = .ok (.getfield 86, 3) := by decide +kernel
theorem dX10_addGate_30 : decode cX10_addGate 30 = .ok (.iload_n 3, 1) := by decide +kernel
theorem dX10_addGate_31 : decode cX10_addGate 31 = .ok (.iadd, 1) := by decide +kernel
theorem dX10_addGate_32 : decode cX10_addGate 32 = .ok (.istore 5, 2) := by decide +kernel
theorem dX10_addGate_34 : decode cX10_addGate 34 = .ok (.iload_n 2, 1) := by decide +kernel
theorem dX10_addGate_35 : decode cX10_addGate 35 = .ok (.ifCond .ne 10, 3) := by decide +kernel
theorem dX10_addGate_38 : decode cX10_addGate 38 = .ok (.aload_n 1, 1) := by decide +kernel
theorem dX10_addGate_39 : decode cX10_addGate 39 = .ok (.getfield 80, 3) := by decide +kernel
theorem dX10_addGate_42 : decode cX10_addGate 42 = .ok (.goto 23, 3) := by decide +kernel
theorem dX10_addGate_45 : decode cX10_addGate 45 = .ok (.iload_n 2, 1) := by decide +kernel
theorem dX10_addGate_46 : decode cX10_addGate 46 = .ok (.iconst 2, 1) := by decide +kernel
theorem dX10_addGate_47 : decode cX10_addGate 47 = .ok (.if_icmp .ne 12, 3) := by decide +kernel
theorem dX10_addGate_50 : decode cX10_addGate 50 = .ok (.aload_n 1, 1) := by decide +kernel
theorem dX10_addGate_51 : decode cX10_addGate 51 = .ok (.getfield 83, 3) := by decide +kernel
theorem dX10_addGate_54 : decode cX10_addGate 54 = .ok (.iconst 1, 1) := by decide +kernel
theorem dX10_addGate_55 : decode cX10_addGate 55 = .ok (.isub, 1) := by decide +kernel
theorem dX10_addGate_56 : decode cX10_addGate 56 = .ok (.goto 9, 3) := by decide +kernel
theorem dX10_addGate_59 : decode cX10_addGate 59 = .ok (.aload_n 1, 1) := by decide +kernel
theorem dX10_addGate_60 : decode cX10_addGate 60 = .ok (.getfield 80, 3) := by decide +kernel
theorem dX10_addGate_63 : decode cX10_addGate 63 = .ok (.iload_n 3, 1) := by decide +kernel
theorem dX10_addGate_64 : decode cX10_addGate 64 = .ok (.iadd, 1) := by decide +kernel
theorem dX10_addGate_65 : decode cX10_addGate 65 = .ok (.istore 6, 2) := by decide +kernel
theorem dX10_addGate_67 : decode cX10_addGate 67 = .ok (.iload_n 2, 1) := by decide +kernel
theorem dX10_addGate_68 : decode cX10_addGate 68 = .ok (.iconst 1, 1) := by decide +kernel
theorem dX10_addGate_69 : decode cX10_addGate 69 = .ok (.if_icmp .ne 10, 3) := by decide +kernel
theorem dX10_addGate_72 : decode cX10_addGate 72 = .ok (.iload 5, 2) := by decide +kernel
theorem dX10_addGate_74 : decode cX10_addGate 74 = .ok (.iconst 1, 1) := by decide +kernel
theorem dX10_addGate_75 : decode cX10_addGate 75 = .ok (.iadd, 1) := by decide +kernel
theorem dX10_addGate_76 : decode cX10_addGate 76 = .ok (.goto 17, 3) := by decide +kernel
theorem dX10_addGate_79 : decode cX10_addGate 79 = .ok (.iload_n 2, 1) := by decide +kernel
theorem dX10_addGate_80 : decode cX10_addGate 80 = .ok (.iconst 3, 1) := by decide +kernel
theorem dX10_addGate_81 : decode cX10_addGate 81 = .ok (.if_icmp .ne 10, 3) := by decide +kernel
theorem dX10_addGate_84 : decode cX10_addGate 84 = .ok (.iload 5, 2) := by decide +kernel
theorem dX10_addGate_86 : decode cX10_addGate 86 = .ok (.iconst 1, 1) := by decide +kernel
theorem dX10_addGate_87 : decode cX10_addGate 87 = .ok (.isub, 1) := by decide +kernel
theorem dX10_addGate_88 : decode cX10_addGate 88 = .ok (.goto 5, 3) := by decide +kernel
theorem dX10_addGate_91 : decode cX10_addGate 91 = .ok (.iload 5, 2) := by decide +kernel
theorem dX10_addGate_93 : decode cX10_addGate 93 = .ok (.istore 7, 2) := by decide +kernel
theorem dX10_addGate_95 : decode cX10_addGate 95 = .ok (.iload_n 2, 1) := by decide +kernel
theorem dX10_addGate_96 : decode cX10_addGate 96 = .ok (.ifCond .ne 10, 3) := by decide +kernel
theorem dX10_addGate_99 : decode cX10_addGate 99 = .ok (.iload 6, 2) := by decide +kernel
theorem dX10_addGate_101 : decode cX10_addGate 101 = .ok (.iconst 1, 1) := by decide +kernel
theorem dX10_addGate_102 : decode cX10_addGate 102 = .ok (.isub, 1) := by decide +kernel
theorem dX10_addGate_103 : decode cX10_addGate 103 = .ok (.goto 17, 3) := by decide +kernel
theorem dX10_addGate_106 : decode cX10_addGate 106 = .ok (.iload_n 2, 1) := by decide +kernel
theorem dX10_addGate_107 : decode cX10_addGate 107 = .ok (.iconst 2, 1) := by decide +kernel
theorem dX10_addGate_108 : decode cX10_addGate 108 = .ok (.if_icmp .ne 10, 3) := by decide +kernel
theorem dX10_addGate_111 : decode cX10_addGate 111 = .ok (.iload 6, 2) := by decide +kernel
theorem dX10_addGate_113 : decode cX10_addGate 113 = .ok (.iconst 1, 1) := by decide +kernel
theorem dX10_addGate_114 : decode cX10_addGate 114 = .ok (.iadd, 1) := by decide +kernel
theorem dX10_addGate_115 : decode cX10_addGate 115 = .ok (.goto 5, 3) := by decide +kernel
theorem dX10_addGate_118 : decode cX10_addGate 118 = .ok (.iload 6, 2) := by decide +kernel
theorem dX10_addGate_120 : decode cX10_addGate 120 = .ok (.istore 8, 2) := by decide +kernel
theorem dX10_addGate_122 : decode cX10_addGate 122 = .ok (.iconst (-1), 1) := by decide +kernel
theorem dX10_addGate_123 : decode cX10_addGate 123 = .ok (.istore 9, 2) := by decide +kernel
theorem dX10_addGate_125 : decode cX10_addGate 125 = .ok (.iconst (-1), 1) := by decide +kernel
theorem dX10_addGate_126 : decode cX10_addGate 126 = .ok (.istore 10, 2) := by decide +kernel
theorem dX10_addGate_128 : decode cX10_addGate 128 = .ok (.aload_n 0, 1) := by decide +kernel
theorem dX10_addGate_129 : decode cX10_addGate 129 = .ok (.getfield 33, 3) := by decide +kernel
theorem dX10_addGate_132 : decode cX10_addGate 132 = .ok (.iload 7, 2) := by decide +kernel
theorem dX10_addGate_134 : decode cX10_addGate 134 = .ok (.iload 8, 2) := by decide +kernel
theorem dX10_addGate_136 : decode cX10_addGate 136 = .ok (.invokevirtual 158, 3) := by decide +kernel
theorem dX10_addGate_139 : decode cX10_addGate 139 = .ok (.ifCond .eq 61, 3) := by decide +kernel
theorem dX10_addGate_142 : decode cX10_addGate 142 = .ok (.iload 6, 2) := by decide +kernel
theorem dX10_addGate_144 : decode cX10_addGate 144 = .ok (.bipush 40, 2) := by decide +kernel
theorem dX10_addGate_146 : decode cX10_addGate 146 = .ok (.imul, 1) := by decide +kernel
theorem dX10_addGate_147 : decode cX10_addGate 147 = .ok (.iload 5, 2) := by decide +kernel
theorem dX10_addGate_149 : decode cX10_addGate 149 = .ok (.iadd, 1) := by decide +kernel
theorem dX10_addGate_150 : decode cX10_addGate 150 = .ok (.istore 11, 2) := by decide +kernel
theorem dX10_addGate_152 : decode cX10_addGate 152 = .ok (.iload 8, 2) := by decide +kernel
theorem dX10_addGate_154 : decode cX10_addGate 154 = .ok (.bipush 40, 2) := by decide +kernel
theorem dX10_addGate_156 : decode cX10_addGate 156 = .ok (.imul, 1) := by decide +kernel
theorem dX10_addGate_157 : decode cX10_addGate 157 = .ok (.iload 7, 2) := by decide +kernel
theorem dX10_addGate_159 : decode cX10_addGate 159 = .ok (.iadd, 1) := by decide +kernel
theorem dX10_addGate_160 : decode cX10_addGate 160 = .ok (.istore 12, 2) := by decide +kernel
theorem dX10_addGate_162 : decode cX10_addGate 162 = .ok (.aload_n 0, 1) := by decide +kernel
theorem dX10_addGate_163 : decode cX10_addGate 163 = .ok (.getfield 9, 3) := by decide +kernel
theorem dX10_addGate_166 : decode cX10_addGate 166 = .ok (.iload 4, 2) := by decide +kernel
theorem dX10_addGate_168 : decode cX10_addGate 168 = .ok (.ifCond .eq 8, 3) := by decide +kernel
theorem dX10_addGate_171 : decode cX10_addGate 171 = .ok (.iload 11, 2) := by decide +kernel
theorem dX10_addGate_173 : decode cX10_addGate 173 = .ok (.goto 5, 3) := by decide +kernel
theorem dX10_addGate_176 : decode cX10_addGate 176 = .ok (.iload 12, 2) := by decide +kernel
theorem dX10_addGate_178 : decode cX10_addGate 178 = .ok (.iaload, 1) := by decide +kernel
theorem dX10_addGate_179 : decode cX10_addGate 179 = .ok (.istore 9, 2) := by decide +kernel
theorem dX10_addGate_181 : decode cX10_addGate 181 = .ok (.aload_n 0, 1) := by decide +kernel
theorem dX10_addGate_182 : decode cX10_addGate 182 = .ok (.getfield 15, 3) := by decide +kernel
theorem dX10_addGate_185 : decode cX10_addGate 185 = .ok (.iload 4, 2) := by decide +kernel
theorem dX10_addGate_187 : decode cX10_addGate 187 = .ok (.ifCond .eq 8, 3) := by decide +kernel
theorem dX10_addGate_190 : decode cX10_addGate 190 = .ok (.iload 12, 2) := by decide +kernel
theorem dX10_addGate_192 : decode cX10_addGate 192 = .ok (.goto 5, 3) := by decide +kernel
theorem dX10_addGate_195 : decode cX10_addGate 195 = .ok (.iload 11, 2) := by decide +kernel
theorem dX10_addGate_197 : decode cX10_addGate 197 = .ok (.iaload, 1) := by decide +kernel
theorem dX10_addGate_198 : decode cX10_addGate 198 = .ok (.istore 10, 2) := by decide +kernel
theorem dX10_addGate_200 : decode cX10_addGate 200 = .ok (.iload 9, 2) := by decide +kernel
theorem dX10_addGate_202 : decode cX10_addGate 202 = .ok (.iconst (-1), 1) := by decide +kernel
theorem dX10_addGate_203 : decode cX10_addGate 203 = .ok (.if_icmp .eq 9, 3) := by decide +kernel
theorem dX10_addGate_206 : decode cX10_addGate 206 = .ok (.iload 10, 2) := by decide +kernel
theorem dX10_addGate_208 : decode cX10_addGate 208 = .ok (.iconst (-1), 1) := by decide +kernel
theorem dX10_addGate_209 : decode cX10_addGate 209 = .ok (.if_icmp .ne 7, 3) := by decide +kernel
theorem dX10_addGate_212 : decode cX10_addGate 212 = .ok (.iconst 1, 1) := by decide +kernel
theorem dX10_addGate_213 : decode cX10_addGate 213 = .ok (.goto 4, 3) := by decide +kernel
theorem dX10_addGate_216 : decode cX10_addGate 216 = .ok (.iconst 0, 1) := by decide +kernel
theorem dX10_addGate_217 : decode cX10_addGate 217 = .ok (.istore 11, 2) := by decide +kernel
theorem dX10_addGate_219 : decode cX10_addGate 219 = .ok (.aload_n 0, 1) := by decide +kernel
theorem dX10_addGate_220 : decode cX10_addGate 220 = .ok (.getfield 27, 3) := by decide +kernel
theorem dX10_addGate_223 : decode cX10_addGate 223 = .ok (.iload_n 2, 1) := by decide +kernel
theorem dX10_addGate_224 : decode cX10_addGate 224 = .ok (.bipush 40, 2) := by decide +kernel
theorem dX10_addGate_226 : decode cX10_addGate 226 = .ok (.imul, 1) := by decide +kernel
theorem dX10_addGate_227 : decode cX10_addGate 227 = .ok (.iload_n 3, 1) := by decide +kernel
theorem dX10_addGate_228 : decode cX10_addGate 228 = .ok (.iadd, 1) := by decide +kernel
theorem dX10_addGate_229 : decode cX10_addGate 229 = .ok (.dup2, 1) := by decide +kernel
theorem dX10_addGate_230 : decode cX10_addGate 230 = .ok (.iaload, 1) := by decide +kernel
theorem dX10_addGate_231 : decode cX10_addGate 231 = .ok (.iload 11, 2) := by decide +kernel
theorem dX10_addGate_233 : decode cX10_addGate 233 = .ok (.ifCond .eq 9, 3) := by decide +kernel
theorem dX10_addGate_236 : decode cX10_addGate 236 = .ok (.sipush 999, 3) := by decide +kernel
theorem dX10_addGate_239 : decode cX10_addGate 239 = .ok (.goto 7, 3) := by decide +kernel
theorem dX10_addGate_242 : decode cX10_addGate 242 = .ok (.aload_n 0, 1) := by decide +kernel
theorem dX10_addGate_243 : decode cX10_addGate 243 = .ok (.getfield 111, 3) := by decide +kernel
theorem dX10_addGate_246 : decode cX10_addGate 246 = .ok (.iadd, 1) := by decide +kernel
theorem dX10_addGate_247 : decode cX10_addGate 247 = .ok (.iastore, 1) := by decide +kernel
theorem dX10_addGate_248 : decode cX10_addGate 248 = .ok (.aload_n 0, 1) := by decide +kernel
theorem dX10_addGate_249 : decode cX10_addGate 249 = .ok (.getfield 30, 3) := by decide +kernel
theorem dX10_addGate_252 : decode cX10_addGate 252 = .ok (.iload_n 2, 1) := by decide +kernel
theorem dX10_addGate_253 : decode cX10_addGate 253 = .ok (.bipush 40, 2) := by decide +kernel
theorem dX10_addGate_255 : decode cX10_addGate 255 = .ok (.imul, 1) := by decide +kernel
theorem dX10_addGate_256 : decode cX10_addGate 256 = .ok (.iload_n 3, 1) := by decide +kernel
theorem dX10_addGate_257 : decode cX10_addGate 257 = .ok (.iadd, 1) := by decide +kernel
theorem dX10_addGate_258 : decode cX10_addGate 258 = .ok (.dup2, 1) := by decide +kernel
theorem dX10_addGate_259 : decode cX10_addGate 259 = .ok (.iaload, 1) := by decide +kernel
theorem dX10_addGate_260 : decode cX10_addGate 260 = .ok (.iload 11, 2) := by decide +kernel
theorem dX10_addGate_262 : decode cX10_addGate 262 = .ok (.ifCond .eq 9, 3) := by decide +kernel
theorem dX10_addGate_265 : decode cX10_addGate 265 = .ok (.sipush 9999, 3) := by decide +kernel
theorem dX10_addGate_268 : decode cX10_addGate 268 = .ok (.goto 10, 3) := by decide +kernel
theorem dX10_addGate_271 : decode cX10_addGate 271 = .ok (.iload 9, 2) := by decide +kernel
theorem dX10_addGate_273 : decode cX10_addGate 273 = .ok (.iconst 1, 1) := by decide +kernel
theorem dX10_addGate_274 : decode cX10_addGate 274 = .ok (.iadd, 1) := by decide +kernel
theorem dX10_addGate_275 : decode cX10_addGate 275 = .ok (.iload 10, 2) := by decide +kernel
theorem dX10_addGate_277 : decode cX10_addGate 277 = .ok (.iadd, 1) := by decide +kernel
theorem dX10_addGate_278 : decode cX10_addGate 278 = .ok (.iadd, 1) := by decide +kernel
theorem dX10_addGate_279 : decode cX10_addGate 279 = .ok (.iastore, 1) := by decide +kernel
theorem dX10_addGate_280 : decode cX10_addGate 280 = .ok (.return_, 1) := by decide +kernel
theorem dX10_bestGate_0 : decode cX10_bestGate 0 = .ok (.iconst 0, 1) := by decide +kernel
theorem dX10_bestGate_1 : decode cX10_bestGate 1 = .ok (.istore_n 2, 1) := by decide +kernel
theorem dX10_bestGate_2 : decode cX10_bestGate 2 = .ok (.iconst 0, 1) := by decide +kernel
theorem dX10_bestGate_3 : decode cX10_bestGate 3 = .ok (.istore_n 3, 1) := by decide +kernel
theorem dX10_bestGate_4 : decode cX10_bestGate 4 = .ok (.iload_n 3, 1) := by decide +kernel
theorem dX10_bestGate_5 : decode cX10_bestGate 5 = .ok (.iconst 4, 1) := by decide +kernel
theorem dX10_bestGate_6 : decode cX10_bestGate 6 = .ok (.if_icmp .ge 88, 3) := by decide +kernel
theorem dX10_bestGate_9 : decode cX10_bestGate 9 = .ok (.iconst 0, 1) := by decide +kernel
theorem dX10_bestGate_10 : decode cX10_bestGate 10 = .ok (.istore 4, 2) := by decide +kernel
theorem dX10_bestGate_12 : decode cX10_bestGate 12 = .ok (.iload 4, 2) := by decide +kernel
theorem dX10_bestGate_14 : decode cX10_bestGate 14 = .ok (.aload_n 1, 1) := by decide +kernel
theorem dX10_bestGate_15 : decode cX10_bestGate 15 = .ok (.iload_n 3, 1) := by decide +kernel
theorem dX10_bestGate_16 : decode cX10_bestGate 16 = .ok (.invokevirtual 151, 3) := by decide +kernel
theorem dX10_bestGate_19 : decode cX10_bestGate 19 = .ok (.if_icmp .ge 69, 3) := by decide +kernel
theorem dX10_bestGate_22 : decode cX10_bestGate 22 = .ok (.iload_n 3, 1) := by decide +kernel
theorem dX10_bestGate_23 : decode cX10_bestGate 23 = .ok (.bipush 40, 2) := by decide +kernel
theorem dX10_bestGate_25 : decode cX10_bestGate 25 = .ok (.imul, 1) := by decide +kernel
theorem dX10_bestGate_26 : decode cX10_bestGate 26 = .ok (.iload 4, 2) := by decide +kernel
theorem dX10_bestGate_28 : decode cX10_bestGate 28 = .ok (.iadd, 1) := by decide +kernel
theorem dX10_bestGate_29 : decode cX10_bestGate 29 = .ok (.istore 5, 2) := by decide +kernel
theorem dX10_bestGate_31 : decode cX10_bestGate 31 = .ok (.aload_n 0, 1) := by decide +kernel
theorem dX10_bestGate_32 : decode cX10_bestGate 32 = .ok (.getfield 27, 3) := by decide +kernel
theorem dX10_bestGate_35 : decode cX10_bestGate 35 = .ok (.iload 5, 2) := by decide +kernel
theorem dX10_bestGate_37 : decode cX10_bestGate 37 = .ok (.iaload, 1) := by decide +kernel
theorem dX10_bestGate_38 : decode cX10_bestGate 38 = .ok (.aload_n 0, 1) := by decide +kernel
theorem dX10_bestGate_39 : decode cX10_bestGate 39 = .ok (.getfield 27, 3) := by decide +kernel
theorem dX10_bestGate_42 : decode cX10_bestGate 42 = .ok (.iload_n 2, 1) := by decide +kernel
theorem dX10_bestGate_43 : decode cX10_bestGate 43 = .ok (.iaload, 1) := by decide +kernel
theorem dX10_bestGate_44 : decode cX10_bestGate 44 = .ok (.if_icmp .lt 35, 3) := by decide +kernel
theorem dX10_bestGate_47 : decode cX10_bestGate 47 = .ok (.aload_n 0, 1) := by decide +kernel
theorem dX10_bestGate_48 : decode cX10_bestGate 48 = .ok (.getfield 27, 3) := by decide +kernel
theorem dX10_bestGate_51 : decode cX10_bestGate 51 = .ok (.iload 5, 2) := by decide +kernel
theorem dX10_bestGate_53 : decode cX10_bestGate 53 = .ok (.iaload, 1) := by decide +kernel
theorem dX10_bestGate_54 : decode cX10_bestGate 54 = .ok (.aload_n 0, 1) := by decide +kernel
theorem dX10_bestGate_55 : decode cX10_bestGate 55 = .ok (.getfield 27, 3) := by decide +kernel
theorem dX10_bestGate_58 : decode cX10_bestGate 58 = .ok (.iload_n 2, 1) := by decide +kernel
theorem dX10_bestGate_59 : decode cX10_bestGate 59 = .ok (.iaload, 1) := by decide +kernel
theorem dX10_bestGate_60 : decode cX10_bestGate 60 = .ok (.if_icmp .ne 22, 3) := by decide +kernel
theorem dX10_bestGate_63 : decode cX10_bestGate 63 = .ok (.aload_n 0, 1) := by decide +kernel
theorem dX10_bestGate_64 : decode cX10_bestGate 64 = .ok (.getfield 30, 3) := by decide +kernel
theorem dX10_bestGate_67 : decode cX10_bestGate 67 = .ok (.iload 5, 2) := by decide +kernel
theorem dX10_bestGate_69 : decode cX10_bestGate 69 = .ok (.iaload, 1) := by decide +kernel
theorem dX10_bestGate_70 : decode cX10_bestGate 70 = .ok (.aload_n 0, 1) := by decide +kernel
theorem dX10_bestGate_71 : decode cX10_bestGate 71 = .ok (.getfield 30, 3) := by decide +kernel
theorem dX10_bestGate_74 : decode cX10_bestGate 74 = .ok (.iload_n 2, 1) := by decide +kernel
theorem dX10_bestGate_75 : decode cX10_bestGate 75 = .ok (.iaload, 1) := by decide +kernel
theorem dX10_bestGate_76 : decode cX10_bestGate 76 = .ok (.if_icmp .ge 6, 3) := by decide +kernel
theorem dX10_bestGate_79 : decode cX10_bestGate 79 = .ok (.iload 5, 2) := by decide +kernel
theorem dX10_bestGate_81 : decode cX10_bestGate 81 = .ok (.istore_n 2, 1) := by decide +kernel
theorem dX10_bestGate_82 : decode cX10_bestGate 82 = .ok (.iinc 4 1, 3) := by decide +kernel
theorem dX10_bestGate_85 : decode cX10_bestGate 85 = .ok (.goto (-73), 3) := by decide +kernel
theorem dX10_bestGate_88 : decode cX10_bestGate 88 = .ok (.iinc 3 1, 3) := by decide +kernel
theorem dX10_bestGate_91 : decode cX10_bestGate 91 = .ok (.goto (-87), 3) := by decide +kernel
theorem dX10_bestGate_94 : decode cX10_bestGate 94 = .ok (.iload_n 2, 1) := by decide +kernel
theorem dX10_bestGate_95 : decode cX10_bestGate 95 = .ok (.ireturn, 1) := by decide +kernel
