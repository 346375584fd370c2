theorem dX0_init_0 : decode cX0_init 0 = .ok (.aload_n 0, 1) := by decide +kernel
theorem dX0_init_1 : decode cX0_init 1 = .ok (.invokespecial 3, 3) := by decide +kernel
theorem dX0_init_4 : decode cX0_init 4 = .ok (.aload_n 0, 1) := by decide +kernel
theorem dX0_init_5 : decode cX0_init 5 = .ok (.bipush 24, 2) := by decide +kernel
theorem dX0_init_7 : decode cX0_init 7 = .ok (.anewarray 9, 3) := by decide +kernel
theorem dX0_init_10 : decode cX0_init 10 = .ok (.putfield 11, 3) := by decide +kernel
theorem dX0_init_13 : decode cX0_init 13 = .ok (.aload_n 0, 1) := by decide +kernel
theorem dX0_init_14 : decode cX0_init 14 = .ok (.bipush 24, 2) := by decide +kernel
theorem dX0_init_16 : decode cX0_init 16 = .ok (.newarray .int, 2) := by decide +kernel
theorem dX0_init_18 : decode cX0_init 18 = .ok (.putfield 17, 3) := by decide +kernel
theorem dX0_init_21 : decode cX0_init 21 = .ok (.aload_n 0, 1) := by decide +kernel
theorem dX0_init_22 : decode cX0_init 22 = .ok (.bipush 24, 2) := by decide +kernel
theorem dX0_init_24 : decode cX0_init 24 = .ok (.newarray .int, 2) := by decide +kernel
theorem dX0_init_26 : decode cX0_init 26 = .ok (.putfield 21, 3) := by decide +kernel
theorem dX0_init_29 : decode cX0_init 29 = .ok (.aload_n 0, 1) := by decide +kernel
theorem dX0_init_30 : decode cX0_init 30 = .ok (.iconst 0, 1) := by decide +kernel
theorem dX0_init_31 : decode cX0_init 31 = .ok (.putfield 24, 3) := by decide +kernel
theorem dX0_init_34 : decode cX0_init 34 = .ok (.aload_n 0, 1) := by decide +kernel
theorem dX0_init_35 : decode cX0_init 35 = .ok (.iconst 0, 1) := by decide +kernel
theorem dX0_init_36 : decode cX0_init 36 = .ok (.putfield 28, 3) := by decide +kernel
theorem dX0_init_39 : decode cX0_init 39 = .ok (.iconst 0, 1) := by decide +kernel
theorem dX0_init_40 : decode cX0_init 40 = .ok (.istore_n 2, 1) := by decide +kernel
theorem dX0_init_41 : decode cX0_init 41 = .ok (.iload_n 2, 1) := by decide +kernel
theorem dX0_init_42 : decode cX0_init 42 = .ok (.bipush 24, 2) := by decide +kernel
theorem dX0_init_44 : decode cX0_init 44 = .ok (.if_icmp .ge 23, 3) := by decide +kernel
theorem dX0_init_47 : decode cX0_init 47 = .ok (.aload_n 0, 1) := by decide +kernel
theorem dX0_init_48 : decode cX0_init 48 = .ok (.getfield 11, 3) := by decide +kernel
theorem dX0_init_51 : decode cX0_init 51 = .ok (.iload_n 2, 1) := by decide +kernel
theorem dX0_init_52 : decode cX0_init 52 = .ok (.new 9, 3) := by decide +kernel
theorem dX0_init_55 : decode cX0_init 55 = .ok (.dup, 1) := by decide +kernel
theorem dX0_init_56 : decode cX0_init 56 = .ok (.aload_n 1, 1) := by decide +kernel
theorem dX0_init_57 : decode cX0_init 57 = .ok (.invokespecial 31, 3) := by decide +kernel
theorem dX0_init_60 : decode cX0_init 60 = .ok (.aastore, 1) := by decide +kernel
theorem dX0_init_61 : decode cX0_init 61 = .ok (.iinc 2 1, 3) := by decide +kernel
theorem dX0_init_64 : decode cX0_init 64 = .ok (.goto (-23), 3) := by decide +kernel
theorem dX0_init_67 : decode cX0_init 67 = .ok (.return_, 1) := by decide +kernel
theorem dX0_forget_0 : decode cX0_forget 0 = .ok (.aload_n 0, 1) := by decide +kernel
theorem dX0_forget_1 : decode cX0_forget 1 = .ok (.iconst 0, 1) := by decide +kernel
theorem dX0_forget_2 : decode cX0_forget 2 = .ok (.putfield 24, 3) := by decide +kernel
theorem dX0_forget_5 : decode cX0_forget 5 = .ok (.return_, 1) := by decide +kernel
theorem dX0_keep_0 : decode cX0_keep 0 = .ok (.aload_n 0, 1) := by decide +kernel
theorem dX0_keep_1 : decode cX0_keep 1 = .ok (.getfield 11, 3) := by decide +kernel
theorem dX0_keep_4 : decode cX0_keep 4 = .ok (.aload_n 0, 1) := by decide +kernel
theorem dX0_keep_5 : decode cX0_keep 5 = .ok (.getfield 28, 3) := by decide +kernel
theorem dX0_keep_8 : decode cX0_keep 8 = .ok (.aaload, 1) := by decide +kernel
theorem dX0_keep_9 : decode cX0_keep 9 = .ok (.aload_n 1, 1) := by decide +kernel
theorem dX0_keep_10 : decode cX0_keep 10 = .ok (.iload_n 2, 1) := by decide +kernel
theorem dX0_keep_11 : decode cX0_keep 11 = .ok (.invokevirtual 34, 3) := by decide +kernel
theorem dX0_keep_14 : decode cX0_keep 14 = .ok (.aload_n 0, 1) := by decide +kernel
theorem dX0_keep_15 : decode cX0_keep 15 = .ok (.getfield 17, 3) := by decide +kernel
theorem dX0_keep_18 : decode cX0_keep 18 = .ok (.aload_n 0, 1) := by decide +kernel
theorem dX0_keep_19 : decode cX0_keep 19 = .ok (.getfield 28, 3) := by decide +kernel
theorem dX0_keep_22 : decode cX0_keep 22 = .ok (.iload_n 2, 1) := by decide +kernel
theorem dX0_keep_23 : decode cX0_keep 23 = .ok (.iastore, 1) := by decide +kernel
theorem dX0_keep_24 : decode cX0_keep 24 = .ok (.aload_n 0, 1) := by decide +kernel
theorem dX0_keep_25 : decode cX0_keep 25 = .ok (.getfield 21, 3) := by decide +kernel
theorem dX0_keep_28 : decode cX0_keep 28 = .ok (.aload_n 0, 1) := by decide +kernel
theorem dX0_keep_29 : decode cX0_keep 29 = .ok (.getfield 28, 3) := by decide +kernel
theorem dX0_keep_32 : decode cX0_keep 32 = .ok (.aload_n 1, 1) := by decide +kernel
theorem dX0_keep_33 : decode cX0_keep 33 = .ok (.getfield 38, 3) := by decide +kernel
theorem dX0_keep_36 : decode cX0_keep 36 = .ok (.iastore, 1) := by decide +kernel
theorem dX0_keep_37 : decode cX0_keep 37 = .ok (.aload_n 0, 1) := by decide +kernel
theorem dX0_keep_38 : decode cX0_keep 38 = .ok (.aload_n 0, 1) := by decide +kernel
theorem dX0_keep_39 : decode cX0_keep 39 = .ok (.getfield 28, 3) := by decide +kernel
theorem dX0_keep_42 : decode cX0_keep 42 = .ok (.iconst 1, 1) := by decide +kernel
theorem dX0_keep_43 : decode cX0_keep 43 = .ok (.iadd, 1) := by decide +kernel
theorem dX0_keep_44 : decode cX0_keep 44 = .ok (.bipush 24, 2) := by decide +kernel
theorem dX0_keep_46 : decode cX0_keep 46 = .ok (.irem, 1) := by decide +kernel
theorem dX0_keep_47 : decode cX0_keep 47 = .ok (.putfield 28, 3) := by decide +kernel
theorem dX0_keep_50 : decode cX0_keep 50 = .ok (.aload_n 0, 1) := by decide +kernel
theorem dX0_keep_51 : decode cX0_keep 51 = .ok (.bipush 24, 2) := by decide +kernel
theorem dX0_keep_53 : decode cX0_keep 53 = .ok (.aload_n 0, 1) := by decide +kernel
theorem dX0_keep_54 : decode cX0_keep 54 = .ok (.getfield 24, 3) := by decide +kernel
theorem dX0_keep_57 : decode cX0_keep 57 = .ok (.iconst 1, 1) := by decide +kernel
theorem dX0_keep_58 : decode cX0_keep 58 = .ok (.iadd, 1) := by decide +kernel
theorem dX0_keep_59 : decode cX0_keep 59 = .ok (.invokestatic 42, 3) := by decide +kernel
theorem dX0_keep_62 : decode cX0_keep 62 = .ok (.putfield 24, 3) := by decide +kernel
theorem dX0_keep_65 : decode cX0_keep 65 = .ok (.return_, 1) := by decide +kernel
theorem dX0_giveBack_0 : decode cX0_giveBack 0 = .ok (.aload_n 0, 1) := by decide +kernel
theorem dX0_giveBack_1 : decode cX0_giveBack 1 = .ok (.getfield 24, 3) := by decide +kernel
theorem dX0_giveBack_4 : decode cX0_giveBack 4 = .ok (.ifCond .gt 5, 3) := by decide +kernel
theorem dX0_giveBack_7 : decode cX0_giveBack 7 = .ok (.iconst 0, 1) := by decide +kernel
theorem dX0_giveBack_8 : decode cX0_giveBack 8 = .ok (.ireturn, 1) := by decide +kernel
theorem dX0_giveBack_9 : decode cX0_giveBack 9 = .ok (.aload_n 0, 1) := by decide +kernel
theorem dX0_giveBack_10 : decode cX0_giveBack 10 = .ok (.aload_n 0, 1) := by decide +kernel
theorem dX0_giveBack_11 : decode cX0_giveBack 11 = .ok (.getfield 28, 3) := by decide +kernel
theorem dX0_giveBack_14 : decode cX0_giveBack 14 = .ok (.bipush 24, 2) := by decide +kernel
theorem dX0_giveBack_16 : decode cX0_giveBack 16 = .ok (.iadd, 1) := by decide +kernel
theorem dX0_giveBack_17 : decode cX0_giveBack 17 = .ok (.iconst 1, 1) := by decide +kernel
theorem dX0_giveBack_18 : decode cX0_giveBack 18 = .ok (.isub, 1) := by decide +kernel
theorem dX0_giveBack_19 : decode cX0_giveBack 19 = .ok (.bipush 24, 2) := by decide +kernel
theorem dX0_giveBack_21 : decode cX0_giveBack 21 = .ok (.irem, 1) := by decide +kernel
theorem dX0_giveBack_22 : decode cX0_giveBack 22 = .ok (.putfield 28, 3) := by decide +kernel
theorem dX0_giveBack_25 : decode cX0_giveBack 25 = .ok (.aload_n 0, 1) := by decide +kernel
theorem dX0_giveBack_26 : decode cX0_giveBack 26 = .ok (.dup, 1) := by decide +kernel
theorem dX0_giveBack_27 : decode cX0_giveBack 27 = .ok (.getfield 24, 3) := by decide +kernel
theorem dX0_giveBack_30 : decode cX0_giveBack 30 = .ok (.iconst 1, 1) := by decide +kernel
theorem dX0_giveBack_31 : decode cX0_giveBack 31 = .ok (.isub, 1) := by decide +kernel
theorem dX0_giveBack_32 : decode cX0_giveBack 32 = .ok (.putfield 24, 3) := by decide +kernel
theorem dX0_giveBack_35 : decode cX0_giveBack 35 = .ok (.aload_n 0, 1) := by decide +kernel
theorem dX0_giveBack_36 : decode cX0_giveBack 36 = .ok (.getfield 11, 3) := by decide +kernel
theorem dX0_giveBack_39 : decode cX0_giveBack 39 = .ok (.aload_n 0, 1) := by decide +kernel
theorem dX0_giveBack_40 : decode cX0_giveBack 40 = .ok (.getfield 28, 3) := by decide +kernel
theorem dX0_giveBack_43 : decode cX0_giveBack 43 = .ok (.aaload, 1) := by decide +kernel
theorem dX0_giveBack_44 : decode cX0_giveBack 44 = .ok (.aload_n 1, 1) := by decide +kernel
theorem dX0_giveBack_45 : decode cX0_giveBack 45 = .ok (.aload_n 0, 1) := by decide +kernel
theorem dX0_giveBack_46 : decode cX0_giveBack 46 = .ok (.getfield 17, 3) := by decide +kernel
theorem dX0_giveBack_49 : decode cX0_giveBack 49 = .ok (.aload_n 0, 1) := by decide +kernel
theorem dX0_giveBack_50 : decode cX0_giveBack 50 = .ok (.getfield 28, 3) := by decide +kernel
theorem dX0_giveBack_53 : decode cX0_giveBack 53 = .ok (.iaload, 1) := by decide +kernel
theorem dX0_giveBack_54 : decode cX0_giveBack 54 = .ok (.invokevirtual 48, 3) := by decide +kernel
theorem dX0_giveBack_57 : decode cX0_giveBack 57 = .ok (.aload_n 1, 1) := by decide +kernel
theorem dX0_giveBack_58 : decode cX0_giveBack 58 = .ok (.aload_n 0, 1) := by decide +kernel
theorem dX0_giveBack_59 : decode cX0_giveBack 59 = .ok (.getfield 21, 3) := by decide +kernel
theorem dX0_giveBack_62 : decode cX0_giveBack 62 = .ok (.aload_n 0, 1) := by decide +kernel
theorem dX0_giveBack_63 : decode cX0_giveBack 63 = .ok (.getfield 28, 3) := by decide +kernel
theorem dX0_giveBack_66 : decode cX0_giveBack 66 = .ok (.iaload, 1) := by decide +kernel
theorem dX0_giveBack_67 : decode cX0_giveBack 67 = .ok (.putfield 38, 3) := by decide +kernel
theorem dX0_giveBack_70 : decode cX0_giveBack 70 = .ok (.iconst 1, 1) := by decide +kernel
theorem dX0_giveBack_71 : decode cX0_giveBack 71 = .ok (.ireturn, 1) := by decide +kernel
theorem dX1_init_0 : decode cX1_init 0 = .ok (.aload_n 0, 1) := by decide +kernel
theorem dX1_init_1 : decode cX1_init 1 = .ok (.invokespecial 3, 3) := by decide +kernel
theorem dX1_init_4 : decode cX1_init 4 = .ok (.aload_n 0, 1) := by decide +kernel
theorem dX1_init_5 : decode cX1_init 5 = .ok (.sipush 192, 3) := by decide +kernel
theorem dX1_init_8 : decode cX1_init 8 = .ok (.newarray .int, 2) := by decide +kernel
theorem dX1_init_10 : decode cX1_init 10 = .ok (.putfield 11, 3) := by decide +kernel
theorem dX1_init_13 : decode cX1_init 13 = .ok (.aload_n 0, 1) := by decide +kernel
theorem dX1_init_14 : decode cX1_init 14 = .ok (.sipush 192, 3) := by decide +kernel
theorem dX1_init_17 : decode cX1_init 17 = .ok (.newarray .int, 2) := by decide +kernel
theorem dX1_init_19 : decode cX1_init 19 = .ok (.putfield 15, 3) := by decide +kernel
theorem dX1_init_22 : decode cX1_init 22 = .ok (.aload_n 0, 1) := by decide +kernel
theorem dX1_init_23 : decode cX1_init 23 = .ok (.sipush 192, 3) := by decide +kernel
theorem dX1_init_26 : decode cX1_init 26 = .ok (.newarray .int, 2) := by decide +kernel
theorem dX1_init_28 : decode cX1_init 28 = .ok (.putfield 18, 3) := by decide +kernel
theorem dX1_init_31 : decode cX1_init 31 = .ok (.aload_n 0, 1) := by decide +kernel
theorem dX1_init_32 : decode cX1_init 32 = .ok (.sipush 192, 3) := by decide +kernel
theorem dX1_init_35 : decode cX1_init 35 = .ok (.newarray .int, 2) := by decide +kernel
theorem dX1_init_37 : decode cX1_init 37 = .ok (.putfield 21, 3) := by decide +kernel
theorem dX1_init_40 : decode cX1_init 40 = .ok (.aload_n 0, 1) := by decide +kernel
theorem dX1_init_41 : decode cX1_init 41 = .ok (.iconst 0, 1) := by decide +kernel
theorem dX1_init_42 : decode cX1_init 42 = .ok (.putfield 24, 3) := by decide +kernel
theorem dX1_init_45 : decode cX1_init 45 = .ok (.aload_n 0, 1) := by decide +kernel
theorem dX1_init_46 : decode cX1_init 46 = .ok (.aload_n 1, 1) := by decide +kernel
theorem dX1_init_47 : decode cX1_init 47 = .ok (.putfield 28, 3) := by decide +kernel
theorem dX1_init_50 : decode cX1_init 50 = .ok (.return_, 1) := by decide +kernel
theorem dX1_search_0 : decode cX1_search 0 = .ok (.aload_n 0, 1) := by decide +kernel
theorem dX1_search_1 : decode cX1_search 1 = .ok (.getfield 21, 3) := by decide +kernel
theorem dX1_search_4 : decode cX1_search 4 = .ok (.iconst (-1), 1) := by decide +kernel
theorem dX1_search_5 : decode cX1_search 5 = .ok (.invokestatic 32, 3) := by decide +kernel
theorem dX1_search_8 : decode cX1_search 8 = .ok (.aload_n 1, 1) := by decide +kernel
theorem dX1_search_9 : decode cX1_search 9 = .ok (.iload_n 2, 1) := by decide +kernel
theorem dX1_search_10 : decode cX1_search 10 = .ok (.invokevirtual 38, 3) := by decide +kernel
theorem dX1_search_13 : decode cX1_search 13 = .ok (.istore 4, 2) := by decide +kernel
theorem dX1_search_15 : decode cX1_search 15 = .ok (.aload_n 0, 1) := by decide +kernel
theorem dX1_search_16 : decode cX1_search 16 = .ok (.iconst 0, 1) := by decide +kernel
theorem dX1_search_17 : decode cX1_search 17 = .ok (.putfield 24, 3) := by decide +kernel
theorem dX1_search_20 : decode cX1_search 20 = .ok (.aload_n 0, 1) := by decide +kernel
theorem dX1_search_21 : decode cX1_search 21 = .ok (.iconst 4, 1) := by decide +kernel
theorem dX1_search_22 : decode cX1_search 22 = .ok (.aload_n 1, 1) := by decide +kernel
theorem dX1_search_23 : decode cX1_search 23 = .ok (.getfield 44, 3) := by decide +kernel
theorem dX1_search_26 : decode cX1_search 26 = .ok (.imul, 1) := by decide +kernel
theorem dX1_search_27 : decode cX1_search 27 = .ok (.aload_n 1, 1) := by decide +kernel
theorem dX1_search_28 : decode cX1_search 28 = .ok (.getfield 47, 3) := by decide +kernel
theorem dX1_search_31 : decode cX1_search 31 = .ok (.iadd, 1) := by decide +kernel
theorem dX1_search_32 : decode cX1_search 32 = .ok (.iconst 0, 1) := by decide +kernel
theorem dX1_search_33 : decode cX1_search 33 = .ok (.iconst 0, 1) := by decide +kernel
theorem dX1_search_34 : decode cX1_search 34 = .ok (.iconst 0, 1) := by decide +kernel
theorem dX1_search_35 : decode cX1_search 35 = .ok (.invokevirtual 50, 3) := by decide +kernel
theorem dX1_search_38 : decode cX1_search 38 = .ok (.iconst 0, 1) := by decide +kernel
theorem dX1_search_39 : decode cX1_search 39 = .ok (.istore 5, 2) := by decide +kernel
theorem dX1_search_41 : decode cX1_search 41 = .ok (.iload 5, 2) := by decide +kernel
theorem dX1_search_43 : decode cX1_search 43 = .ok (.aload_n 0, 1) := by decide +kernel
theorem dX1_search_44 : decode cX1_search 44 = .ok (.getfield 24, 3) := by decide +kernel
theorem dX1_search_47 : decode cX1_search 47 = .ok (.if_icmp .ge 49, 3) := by decide +kernel
theorem dX1_search_50 : decode cX1_search 50 = .ok (.iload 5, 2) := by decide +kernel
theorem dX1_search_52 : decode cX1_search 52 = .ok (.sipush 192, 3) := by decide +kernel
theorem dX1_search_55 : decode cX1_search 55 = .ok (.if_icmp .ge 41, 3) := by decide +kernel
theorem dX1_search_58 : decode cX1_search 58 = .ok (.aload_n 0, 1) := by decide +kernel
theorem dX1_search_59 : decode cX1_search 59 = .ok (.getfield 11, 3) := by decide +kernel
theorem dX1_search_62 : decode cX1_search 62 = .ok (.iload 5, 2) := by decide +kernel
theorem dX1_search_64 : decode cX1_search 64 = .ok (.iaload, 1) := by decide +kernel
theorem dX1_search_65 : decode cX1_search 65 = .ok (.istore 6, 2) := by decide +kernel
theorem dX1_search_67 : decode cX1_search 67 = .ok (.iload 6, 2) := by decide +kernel
theorem dX1_search_69 : decode cX1_search 69 = .ok (.iconst 4, 1) := by decide +kernel
theorem dX1_search_70 : decode cX1_search 70 = .ok (.idiv, 1) := by decide +kernel
theorem dX1_search_71 : decode cX1_search 71 = .ok (.iload_n 3, 1) := by decide +kernel
theorem dX1_search_72 : decode cX1_search 72 = .ok (.if_icmp .ne 6, 3) := by decide +kernel
theorem dX1_search_75 : decode cX1_search 75 = .ok (.iload 6, 2) := by decide +kernel
theorem dX1_search_77 : decode cX1_search 77 = .ok (.ireturn, 1) := by decide +kernel
theorem dX1_search_78 : decode cX1_search 78 = .ok (.aload_n 0, 1) := by decide +kernel
theorem dX1_search_79 : decode cX1_search 79 = .ok (.iload 6, 2) := by decide +kernel
theorem dX1_search_81 : decode cX1_search 81 = .ok (.aload_n 1, 1) := by decide +kernel
theorem dX1_search_82 : decode cX1_search 82 = .ok (.getfield 54, 3) := by decide +kernel
theorem dX1_search_85 : decode cX1_search 85 = .ok (.iload 4, 2) := by decide +kernel
theorem dX1_search_87 : decode cX1_search 87 = .ok (.invokevirtual 57, 3) := by decide +kernel
theorem dX1_search_90 : decode cX1_search 90 = .ok (.iinc 5 1, 3) := by decide +kernel
theorem dX1_search_93 : decode cX1_search 93 = .ok (.goto (-52), 3) := by decide +kernel
theorem dX1_search_96 : decode cX1_search 96 = .ok (.bipush (-4), 2) := by decide +kernel
theorem dX1_search_98 : decode cX1_search 98 = .ok (.ireturn, 1) := by decide +kernel
theorem dX1_spread_0 : decode cX1_spread 0 = .ok (.iconst 0, 1) := by decide +kernel
theorem dX1_spread_1 : decode cX1_spread 1 = .ok (.istore 4, 2) := by decide +kernel
theorem dX1_spread_3 : decode cX1_spread 3 = .ok (.iload 4, 2) := by decide +kernel
theorem dX1_spread_5 : decode cX1_spread 5 = .ok (.iconst 3, 1) := by decide +kernel
theorem dX1_spread_6 : decode cX1_spread 6 = .ok (.if_icmp .ge 71, 3) := by decide +kernel
theorem dX1_spread_9 : decode cX1_spread 9 = .ok (.iload_n 3, 1) := by decide +kernel
theorem dX1_spread_10 : decode cX1_spread 10 = .ok (.ifCond .eq 15, 3) := by decide +kernel
theorem dX1_spread_13 : decode cX1_spread 13 = .ok (.iload_n 2, 1) := by decide +kernel
theorem dX1_spread_14 : decode cX1_spread 14 = .ok (.iload_n 1, 1) := by decide +kernel
theorem dX1_spread_15 : decode cX1_spread 15 = .ok (.iconst 4, 1) := by decide +kernel
theorem dX1_spread_16 : decode cX1_spread 16 = .ok (.irem, 1) := by decide +kernel
theorem dX1_spread_17 : decode cX1_spread 17 = .ok (.iload 4, 2) := by decide +kernel
theorem dX1_spread_19 : decode cX1_spread 19 = .ok (.invokestatic 61, 3) := by decide +kernel
theorem dX1_spread_22 : decode cX1_spread 22 = .ok (.goto 6, 3) := by decide +kernel
theorem dX1_spread_25 : decode cX1_spread 25 = .ok (.iload_n 1, 1) := by decide +kernel
theorem dX1_spread_26 : decode cX1_spread 26 = .ok (.iconst 4, 1) := by decide +kernel
theorem dX1_spread_27 : decode cX1_spread 27 = .ok (.irem, 1) := by decide +kernel
theorem dX1_spread_28 : decode cX1_spread 28 = .ok (.istore 5, 2) := by decide +kernel
theorem dX1_spread_30 : decode cX1_spread 30 = .ok (.aload_n 0, 1) := by decide +kernel
theorem dX1_spread_31 : decode cX1_spread 31 = .ok (.getfield 28, 3) := by decide +kernel
theorem dX1_spread_34 : decode cX1_spread 34 = .ok (.iload_n 1, 1) := by decide +kernel
theorem dX1_spread_35 : decode cX1_spread 35 = .ok (.iconst 4, 1) := by decide +kernel
theorem dX1_spread_36 : decode cX1_spread 36 = .ok (.idiv, 1) := by decide +kernel
theorem dX1_spread_37 : decode cX1_spread 37 = .ok (.iload 5, 2) := by decide +kernel
theorem dX1_spread_39 : decode cX1_spread 39 = .ok (.invokevirtual 65, 3) := by decide +kernel
theorem dX1_spread_42 : decode cX1_spread 42 = .ok (.istore 6, 2) := by decide +kernel
theorem dX1_spread_44 : decode cX1_spread 44 = .ok (.iload 6, 2) := by decide +kernel
theorem dX1_spread_46 : decode cX1_spread 46 = .ok (.ifCond .lt 25, 3) := by decide +kernel
theorem dX1_spread_49 : decode cX1_spread 49 = .ok (.aload_n 0, 1) := by decide +kernel
theorem dX1_spread_50 : decode cX1_spread 50 = .ok (.iconst 4, 1) := by decide +kernel
theorem dX1_spread_51 : decode cX1_spread 51 = .ok (.iload 6, 2) := by decide +kernel
theorem dX1_spread_53 : decode cX1_spread 53 = .ok (.imul, 1) := by decide +kernel
theorem dX1_spread_54 : decode cX1_spread 54 = .ok (.iload 5, 2) := by decide +kernel
theorem dX1_spread_56 : decode cX1_spread 56 = .ok (.iadd, 1) := by decide +kernel
theorem dX1_spread_57 : decode cX1_spread 57 = .ok (.iload_n 1, 1) := by decide +kernel
theorem dX1_spread_58 : decode cX1_spread 58 = .ok (.iload 4, 2) := by decide +kernel
theorem dX1_spread_60 : decode cX1_spread 60 = .ok (.aload_n 0, 1) := by decide +kernel
theorem dX1_spread_61 : decode cX1_spread 61 = .ok (.getfield 21, 3) := by decide +kernel
theorem dX1_spread_64 : decode cX1_spread 64 = .ok (.iload_n 1, 1) := by decide +kernel
theorem dX1_spread_65 : decode cX1_spread 65 = .ok (.iaload, 1) := by decide +kernel
theorem dX1_spread_66 : decode cX1_spread 66 = .ok (.iconst 1, 1) := by decide +kernel
theorem dX1_spread_67 : decode cX1_spread 67 = .ok (.iadd, 1) := by decide +kernel
theorem dX1_spread_68 : decode cX1_spread 68 = .ok (.invokevirtual 50, 3) := by decide +kernel
theorem dX1_spread_71 : decode cX1_spread 71 = .ok (.iinc 4 1, 3) := by decide +kernel
theorem dX1_spread_74 : decode cX1_spread 74 = .ok (.goto (-71), 3) := by decide +kernel
theorem dX1_spread_77 : decode cX1_spread 77 = .ok (.return_, 1) := by decide +kernel
theorem dX1_mark_0 : decode cX1_mark 0 = .ok (.aload_n 0, 1) := by decide +kernel
theorem dX1_mark_1 : decode cX1_mark 1 = .ok (.getfield 21, 3) := by decide +kernel
theorem dX1_mark_4 : decode cX1_mark 4 = .ok (.iload_n 1, 1) := by decide +kernel
theorem dX1_mark_5 : decode cX1_mark 5 = .ok (.iaload, 1) := by decide +kernel
theorem dX1_mark_6 : decode cX1_mark 6 = .ok (.ifCond .ge 13, 3) := by decide +kernel
theorem dX1_mark_9 : decode cX1_mark 9 = .ok (.aload_n 0, 1) := by decide +kernel
theorem dX1_mark_10 : decode cX1_mark 10 = .ok (.getfield 24, 3) := by decide +kernel
theorem dX1_mark_13 : decode cX1_mark 13 = .ok (.sipush 192, 3) := by decide +kernel
theorem dX1_mark_16 : decode cX1_mark 16 = .ok (.if_icmp .lt 4, 3) := by decide +kernel
theorem dX1_mark_19 : decode cX1_mark 19 = .ok (.return_, 1) := by decide +kernel
theorem dX1_mark_20 : decode cX1_mark 20 = .ok (.aload_n 0, 1) := by decide +kernel
theorem dX1_mark_21 : decode cX1_mark 21 = .ok (.getfield 11, 3) := by decide +kernel
theorem dX1_mark_24 : decode cX1_mark 24 = .ok (.aload_n 0, 1) := by decide +kernel
theorem dX1_mark_25 : decode cX1_mark 25 = .ok (.getfield 24, 3) := by decide +kernel
theorem dX1_mark_28 : decode cX1_mark 28 = .ok (.iload_n 1, 1) := by decide +kernel
theorem dX1_mark_29 : decode cX1_mark 29 = .ok (.iastore, 1) := by decide +kernel
theorem dX1_mark_30 : decode cX1_mark 30 = .ok (.aload_n 0, 1) := by decide +kernel
theorem dX1_mark_31 : decode cX1_mark 31 = .ok (.dup, 1) := by decide +kernel
theorem dX1_mark_32 : decode cX1_mark 32 = .ok (.getfield 24, 3) := by decide +kernel
theorem dX1_mark_35 : decode cX1_mark 35 = .ok (.iconst 1, 1) := by decide +kernel
theorem dX1_mark_36 : decode cX1_mark 36 = .ok (.iadd, 1) := by decide +kernel
theorem dX1_mark_37 : decode cX1_mark 37 = .ok (.putfield 24, 3) := by decide +kernel
theorem dX1_mark_40 : decode cX1_mark 40 = .ok (.aload_n 0, 1) := by decide +kernel
theorem dX1_mark_41 : decode cX1_mark 41 = .ok (.getfield 15, 3) := by decide +kernel
theorem dX1_mark_44 : decode cX1_mark 44 = .ok (.iload_n 1, 1) := by decide +kernel
theorem dX1_mark_45 : decode cX1_mark 45 = .ok (.iload_n 2, 1) := by decide +kernel
theorem dX1_mark_46 : decode cX1_mark 46 = .ok (.iastore, 1) := by decide +kernel
theorem dX1_mark_47 : decode cX1_mark 47 = .ok (.aload_n 0, 1) := by decide +kernel
theorem dX1_mark_48 : decode cX1_mark 48 = .ok (.getfield 18, 3) := by decide +kernel
theorem dX1_mark_51 : decode cX1_mark 51 = .ok (.iload_n 1, 1) := by decide +kernel
theorem dX1_mark_52 : decode cX1_mark 52 = .ok (.iload_n 3, 1) := by decide +kernel
theorem dX1_mark_53 : decode cX1_mark 53 = .ok (.iastore, 1) := by decide +kernel
theorem dX1_mark_54 : decode cX1_mark 54 = .ok (.aload_n 0, 1) := by decide +kernel
theorem dX1_mark_55 : decode cX1_mark 55 = .ok (.getfield 21, 3) := by decide +kernel
theorem dX1_mark_58 : decode cX1_mark 58 = .ok (.iload_n 1, 1) := by decide +kernel
theorem dX1_mark_59 : decode cX1_mark 59 = .ok (.iload 4, 2) := by decide +kernel
theorem dX1_mark_61 : decode cX1_mark 61 = .ok (.iastore, 1) := by decide +kernel
theorem dX1_mark_62 : decode cX1_mark 62 = .ok (.return_, 1) := by decide +kernel
theorem dX1_wordTo_0 : decode cX1_wordTo 0 = .ok (.iload_n 2, 1) := by decide +kernel
theorem dX1_wordTo_1 : decode cX1_wordTo 1 = .ok (.ifCond .lt 13, 3) := by decide +kernel
theorem dX1_wordTo_4 : decode cX1_wordTo 4 = .ok (.iload_n 2, 1) := by decide +kernel
theorem dX1_wordTo_5 : decode cX1_wordTo 5 = .ok (.aload_n 0, 1) := by decide +kernel
theorem dX1_wordTo_6 : decode cX1_wordTo 6 = .ok (.getfield 21, 3) := by decide +kernel
theorem dX1_wordTo_9 : decode cX1_wordTo 9 = .ok (.iload_n 1, 1) := by decide +kernel
theorem dX1_wordTo_10 : decode cX1_wordTo 10 = .ok (.iaload, 1) := by decide +kernel
theorem dX1_wordTo_11 : decode cX1_wordTo 11 = .ok (.if_icmp .lt 6, 3) := by decide +kernel
theorem dX1_wordTo_14 : decode cX1_wordTo 14 = .ok (.bipush (-4), 2) := by decide +kernel
theorem dX1_wordTo_16 : decode cX1_wordTo 16 = .ok (.ireturn, 1) := by decide +kernel
theorem dX1_wordTo_17 : decode cX1_wordTo 17 = .ok (.iload_n 1, 1) := by decide +kernel
theorem dX1_wordTo_18 : decode cX1_wordTo 18 = .ok (.istore_n 3, 1) := by decide +kernel
theorem dX1_wordTo_19 : decode cX1_wordTo 19 = .ok (.aload_n 0, 1) := by decide +kernel
theorem dX1_wordTo_20 : decode cX1_wordTo 20 = .ok (.getfield 21, 3) := by decide +kernel
theorem dX1_wordTo_23 : decode cX1_wordTo 23 = .ok (.iload_n 1, 1) := by decide +kernel
theorem dX1_wordTo_24 : decode cX1_wordTo 24 = .ok (.iaload, 1) := by decide +kernel
theorem dX1_wordTo_25 : decode cX1_wordTo 25 = .ok (.istore 4, 2) := by decide +kernel
theorem dX1_wordTo_27 : decode cX1_wordTo 27 = .ok (.iload 4, 2) := by decide +kernel
theorem dX1_wordTo_29 : decode cX1_wordTo 29 = .ok (.iload_n 2, 1) := by decide +kernel
theorem dX1_wordTo_30 : decode cX1_wordTo 30 = .ok (.iconst 1, 1) := by decide +kernel
theorem dX1_wordTo_31 : decode cX1_wordTo 31 = .ok (.iadd, 1) := by decide +kernel
theorem dX1_wordTo_32 : decode cX1_wordTo 32 = .ok (.if_icmp .le 16, 3) := by decide +kernel
theorem dX1_wordTo_35 : decode cX1_wordTo 35 = .ok (.aload_n 0, 1) := by decide +kernel
theorem dX1_wordTo_36 : decode cX1_wordTo 36 = .ok (.getfield 15, 3) := by decide +kernel
theorem dX1_wordTo_39 : decode cX1_wordTo 39 = .ok (.iload_n 3, 1) := by decide +kernel
theorem dX1_wordTo_40 : decode cX1_wordTo 40 = .ok (.iaload, 1) := by decide +kernel
theorem dX1_wordTo_41 : decode cX1_wordTo 41 = .ok (.istore_n 3, 1) := by decide +kernel
theorem dX1_wordTo_42 : decode cX1_wordTo 42 = .ok (.iinc 4 (-1), 3) := by decide +kernel
theorem dX1_wordTo_45 : decode cX1_wordTo 45 = .ok (.goto (-18), 3) := by decide +kernel
theorem dX1_wordTo_48 : decode cX1_wordTo 48 = .ok (.aload_n 0, 1) := by decide +kernel
theorem dX1_wordTo_49 : decode cX1_wordTo 49 = .ok (.getfield 18, 3) := by decide +kernel
theorem dX1_wordTo_52 : decode cX1_wordTo 52 = .ok (.iload_n 3, 1) := by decide +kernel
theorem dX1_wordTo_53 : decode cX1_wordTo 53 = .ok (.iaload, 1) := by decide +kernel
theorem dX1_wordTo_54 : decode cX1_wordTo 54 = .ok (.ireturn, 1) := by decide +kernel
theorem dX2_init_0 : decode cX2_init 0 = .ok (.aload_n 0, 1) := by decide +kernel
theorem dX2_init_1 : decode cX2_init 1 = .ok (.invokespecial 3, 3) := by decide +kernel
theorem dX2_init_4 : decode cX2_init 4 = .ok (.aload_n 0, 1) := by decide +kernel
theorem dX2_init_5 : decode cX2_init 5 = .ok (.new 9, 3) := by decide +kernel
theorem dX2_init_8 : decode cX2_init 8 = .ok (.dup, 1) := by decide +kernel
theorem dX2_init_9 : decode cX2_init 9 = .ok (.invokespecial 11, 3) := by decide +kernel
theorem dX2_init_12 : decode cX2_init 12 = .ok (.putfield 12, 3) := by decide +kernel
theorem dX2_init_15 : decode cX2_init 15 = .ok (.aload_n 0, 1) := by decide +kernel
theorem dX2_init_16 : decode cX2_init 16 = .ok (.bipush 6, 2) := by decide +kernel
theorem dX2_init_18 : decode cX2_init 18 = .ok (.newarray .int, 2) := by decide +kernel
theorem dX2_init_20 : decode cX2_init 20 = .ok (.putfield 18, 3) := by decide +kernel
theorem dX2_init_23 : decode cX2_init 23 = .ok (.aload_n 0, 1) := by decide +kernel
theorem dX2_init_24 : decode cX2_init 24 = .ok (.bipush 6, 2) := by decide +kernel
theorem dX2_init_26 : decode cX2_init 26 = .ok (.newarray .int, 2) := by decide +kernel
theorem dX2_init_28 : decode cX2_init 28 = .ok (.putfield 22, 3) := by decide +kernel
theorem dX2_init_31 : decode cX2_init 31 = .ok (.aload_n 0, 1) := by decide +kernel
theorem dX2_init_32 : decode cX2_init 32 = .ok (.bipush 6, 2) := by decide +kernel
theorem dX2_init_34 : decode cX2_init 34 = .ok (.newarray .int, 2) := by decide +kernel
theorem dX2_init_36 : decode cX2_init 36 = .ok (.putfield 25, 3) := by decide +kernel
theorem dX2_init_39 : decode cX2_init 39 = .ok (.aload_n 0, 1) := by decide +kernel
theorem dX2_init_40 : decode cX2_init 40 = .ok (.bipush 6, 2) := by decide +kernel
theorem dX2_init_42 : decode cX2_init 42 = .ok (.newarray .int, 2) := by decide +kernel
theorem dX2_init_44 : decode cX2_init 44 = .ok (.putfield 28, 3) := by decide +kernel
theorem dX2_init_47 : decode cX2_init 47 = .ok (.aload_n 0, 1) := by decide +kernel
theorem dX2_init_48 : decode cX2_init 48 = .ok (.iconst 4, 1) := by decide +kernel
theorem dX2_init_49 : decode cX2_init 49 = .ok (.newarray .int, 2) := by decide +kernel
theorem dX2_init_51 : decode cX2_init 51 = .ok (.putfield 31, 3) := by decide +kernel
theorem dX2_init_54 : decode cX2_init 54 = .ok (.aload_n 0, 1) := by decide +kernel
theorem dX2_init_55 : decode cX2_init 55 = .ok (.iconst 0, 1) := by decide +kernel
theorem dX2_init_56 : decode cX2_init 56 = .ok (.putfield 34, 3) := by decide +kernel
theorem dX2_init_59 : decode cX2_init 59 = .ok (.aload_n 0, 1) := by decide +kernel
theorem dX2_init_60 : decode cX2_init 60 = .ok (.iconst 0, 1) := by decide +kernel
theorem dX2_init_61 : decode cX2_init 61 = .ok (.putfield 38, 3) := by decide +kernel
theorem dX2_init_64 : decode cX2_init 64 = .ok (.return_, 1) := by decide +kernel
theorem dX2_become_0 : decode cX2_become 0 = .ok (.aload_n 0, 1) := by decide +kernel
theorem dX2_become_1 : decode cX2_become 1 = .ok (.getfield 12, 3) := by decide +kernel
theorem dX2_become_4 : decode cX2_become 4 = .ok (.aload_n 1, 1) := by decide +kernel
theorem dX2_become_5 : decode cX2_become 5 = .ok (.getfield 12, 3) := by decide +kernel
theorem dX2_become_8 : decode cX2_become 8 = .ok (.invokevirtual 41, 3) := by decide +kernel
theorem dX2_become_11 : decode cX2_become 11 = .ok (.aload_n 1, 1) := by decide +kernel
theorem dX2_become_12 : decode cX2_become 12 = .ok (.getfield 18, 3) := by decide +kernel
theorem dX2_become_15 : decode cX2_become 15 = .ok (.iconst 0, 1) := by decide +kernel
theorem dX2_become_16 : decode cX2_become 16 = .ok (.aload_n 0, 1) := by decide +kernel
theorem dX2_become_17 : decode cX2_become 17 = .ok (.getfield 18, 3) := by decide +kernel
theorem dX2_become_20 : decode cX2_become 20 = .ok (.iconst 0, 1) := by decide +kernel
theorem dX2_become_21 : decode cX2_become 21 = .ok (.bipush 6, 2) := by decide +kernel
theorem dX2_become_23 : decode cX2_become 23 = .ok (.invokestatic 45, 3) := by decide +kernel
theorem dX2_become_26 : decode cX2_become 26 = .ok (.aload_n 1, 1) := by decide +kernel
theorem dX2_become_27 : decode cX2_become 27 = .ok (.getfield 22, 3) := by decide +kernel
theorem dX2_become_30 : decode cX2_become 30 = .ok (.iconst 0, 1) := by decide +kernel
theorem dX2_become_31 : decode cX2_become 31 = .ok (.aload_n 0, 1) := by decide +kernel
theorem dX2_become_32 : decode cX2_become 32 = .ok (.getfield 22, 3) := by decide +kernel
theorem dX2_become_35 : decode cX2_become 35 = .ok (.iconst 0, 1) := by decide +kernel
theorem dX2_become_36 : decode cX2_become 36 = .ok (.bipush 6, 2) := by decide +kernel
theorem dX2_become_38 : decode cX2_become 38 = .ok (.invokestatic 45, 3) := by decide +kernel
theorem dX2_become_41 : decode cX2_become 41 = .ok (.aload_n 1, 1) := by decide +kernel
theorem dX2_become_42 : decode cX2_become 42 = .ok (.getfield 25, 3) := by decide +kernel
theorem dX2_become_45 : decode cX2_become 45 = .ok (.iconst 0, 1) := by decide +kernel
theorem dX2_become_46 : decode cX2_become 46 = .ok (.aload_n 0, 1) := by decide +kernel
theorem dX2_become_47 : decode cX2_become 47 = .ok (.getfield 25, 3) := by decide +kernel
theorem dX2_become_50 : decode cX2_become 50 = .ok (.iconst 0, 1) := by decide +kernel
theorem dX2_become_51 : decode cX2_become 51 = .ok (.bipush 6, 2) := by decide +kernel
theorem dX2_become_53 : decode cX2_become 53 = .ok (.invokestatic 45, 3) := by decide +kernel
theorem dX2_become_56 : decode cX2_become 56 = .ok (.aload_n 1, 1) := by decide +kernel
theorem dX2_become_57 : decode cX2_become 57 = .ok (.getfield 28, 3) := by decide +kernel
theorem dX2_become_60 : decode cX2_become 60 = .ok (.iconst 0, 1) := by decide +kernel
theorem dX2_become_61 : decode cX2_become 61 = .ok (.aload_n 0, 1) := by decide +kernel
theorem dX2_become_62 : decode cX2_become 62 = .ok (.getfield 28, 3) := by decide +kernel
theorem dX2_become_65 : decode cX2_become 65 = .ok (.iconst 0, 1) := by decide +kernel
theorem dX2_become_66 : decode cX2_become 66 = .ok (.bipush 6, 2) := by decide +kernel
theorem dX2_become_68 : decode cX2_become 68 = .ok (.invokestatic 45, 3) := by decide +kernel
theorem dX2_become_71 : decode cX2_become 71 = .ok (.aload_n 1, 1) := by decide +kernel
theorem dX2_become_72 : decode cX2_become 72 = .ok (.getfield 31, 3) := by decide +kernel
theorem dX2_become_75 : decode cX2_become 75 = .ok (.iconst 0, 1) := by decide +kernel
theorem dX2_become_76 : decode cX2_become 76 = .ok (.aload_n 0, 1) := by decide +kernel
theorem dX2_become_77 : decode cX2_become 77 = .ok (.getfield 31, 3) := by decide +kernel
theorem dX2_become_80 : decode cX2_become 80 = .ok (.iconst 0, 1) := by decide +kernel
theorem dX2_become_81 : decode cX2_become 81 = .ok (.iconst 4, 1) := by decide +kernel
theorem dX2_become_82 : decode cX2_become 82 = .ok (.invokestatic 45, 3) := by decide +kernel
theorem dX2_become_85 : decode cX2_become 85 = .ok (.aload_n 0, 1) := by decide +kernel
theorem dX2_become_86 : decode cX2_become 86 = .ok (.aload_n 1, 1) := by decide +kernel
theorem dX2_become_87 : decode cX2_become 87 = .ok (.getfield 34, 3) := by decide +kernel
theorem dX2_become_90 : decode cX2_become 90 = .ok (.putfield 34, 3) := by decide +kernel
theorem dX2_become_93 : decode cX2_become 93 = .ok (.aload_n 0, 1) := by decide +kernel
theorem dX2_become_94 : decode cX2_become 94 = .ok (.aload_n 1, 1) := by decide +kernel
theorem dX2_become_95 : decode cX2_become 95 = .ok (.getfield 38, 3) := by decide +kernel
theorem dX2_become_98 : decode cX2_become 98 = .ok (.putfield 38, 3) := by decide +kernel
theorem dX2_become_101 : decode cX2_become 101 = .ok (.return_, 1) := by decide +kernel
theorem dX2_empty_0 : decode cX2_empty 0 = .ok (.aload_n 0, 1) := by decide +kernel
theorem dX2_empty_1 : decode cX2_empty 1 = .ok (.getfield 12, 3) := by decide +kernel
theorem dX2_empty_4 : decode cX2_empty 4 = .ok (.invokevirtual 51, 3) := by decide +kernel
theorem dX2_empty_7 : decode cX2_empty 7 = .ok (.aload_n 0, 1) := by decide +kernel
theorem dX2_empty_8 : decode cX2_empty 8 = .ok (.iconst 0, 1) := by decide +kernel
theorem dX2_empty_9 : decode cX2_empty 9 = .ok (.putfield 34, 3) := by decide +kernel
theorem dX2_empty_12 : decode cX2_empty 12 = .ok (.aload_n 0, 1) := by decide +kernel
theorem dX2_empty_13 : decode cX2_empty 13 = .ok (.iconst 0, 1) := by decide +kernel
theorem dX2_empty_14 : decode cX2_empty 14 = .ok (.putfield 38, 3) := by decide +kernel
theorem dX2_empty_17 : decode cX2_empty 17 = .ok (.return_, 1) := by decide +kernel
theorem dX2_stands_0 : decode cX2_stands 0 = .ok (.aload_n 0, 1) := by decide +kernel
theorem dX2_stands_1 : decode cX2_stands 1 = .ok (.getfield 34, 3) := by decide +kernel
theorem dX2_stands_4 : decode cX2_stands 4 = .ok (.ifCond .le 7, 3) := by decide +kernel
theorem dX2_stands_7 : decode cX2_stands 7 = .ok (.iconst 1, 1) := by decide +kernel
theorem dX2_stands_8 : decode cX2_stands 8 = .ok (.goto 4, 3) := by decide +kernel
theorem dX2_stands_11 : decode cX2_stands 11 = .ok (.iconst 0, 1) := by decide +kernel
theorem dX2_stands_12 : decode cX2_stands 12 = .ok (.ireturn, 1) := by decide +kernel
theorem dX2_hasShip_0 : decode cX2_hasShip 0 = .ok (.iload_n 1, 1) := by decide +kernel
theorem dX2_hasShip_1 : decode cX2_hasShip 1 = .ok (.ifCond .lt 15, 3) := by decide +kernel
theorem dX2_hasShip_4 : decode cX2_hasShip 4 = .ok (.iload_n 1, 1) := by decide +kernel
theorem dX2_hasShip_5 : decode cX2_hasShip 5 = .ok (.aload_n 0, 1) := by decide +kernel
theorem dX2_hasShip_6 : decode cX2_hasShip 6 = .ok (.getfield 34, 3) := by decide +kernel
theorem dX2_hasShip_9 : decode cX2_hasShip 9 = .ok (.if_icmp .ge 7, 3) := by decide +kernel
theorem dX2_hasShip_12 : decode cX2_hasShip 12 = .ok (.iconst 1, 1) := by decide +kernel
theorem dX2_hasShip_13 : decode cX2_hasShip 13 = .ok (.goto 4, 3) := by decide +kernel
theorem dX2_hasShip_16 : decode cX2_hasShip 16 = .ok (.iconst 0, 1) := by decide +kernel
theorem dX2_hasShip_17 : decode cX2_hasShip 17 = .ok (.ireturn, 1) := by decide +kernel
theorem dX2_everyShip_0 : decode cX2_everyShip 0 = .ok (.iconst 1, 1) := by decide +kernel
theorem dX2_everyShip_1 : decode cX2_everyShip 1 = .ok (.aload_n 0, 1) := by decide +kernel
theorem dX2_everyShip_2 : decode cX2_everyShip 2 = .ok (.getfield 34, 3) := by decide +kernel
theorem dX2_everyShip_5 : decode cX2_everyShip 5 = .ok (.ishl, 1) := by decide +kernel
theorem dX2_everyShip_6 : decode cX2_everyShip 6 = .ok (.iconst 1, 1) := by decide +kernel
theorem dX2_everyShip_7 : decode cX2_everyShip 7 = .ok (.isub, 1) := by decide +kernel
theorem dX2_everyShip_8 : decode cX2_everyShip 8 = .ok (.ireturn, 1) := by decide +kernel
theorem dX2_doubtOf_0 : decode cX2_doubtOf 0 = .ok (.aload_n 0, 1) := by decide +kernel
theorem dX2_doubtOf_1 : decode cX2_doubtOf 1 = .ok (.getfield 18, 3) := by decide +kernel
theorem dX2_doubtOf_4 : decode cX2_doubtOf 4 = .ok (.iload_n 1, 1) := by decide +kernel
theorem dX2_doubtOf_5 : decode cX2_doubtOf 5 = .ok (.iaload, 1) := by decide +kernel
theorem dX2_doubtOf_6 : decode cX2_doubtOf 6 = .ok (.aload_n 0, 1) := by decide +kernel
theorem dX2_doubtOf_7 : decode cX2_doubtOf 7 = .ok (.getfield 28, 3) := by decide +kernel
theorem dX2_doubtOf_10 : decode cX2_doubtOf 10 = .ok (.iload_n 1, 1) := by decide +kernel
theorem dX2_doubtOf_11 : decode cX2_doubtOf 11 = .ok (.iaload, 1) := by decide +kernel
theorem dX2_doubtOf_12 : decode cX2_doubtOf 12 = .ok (.iload_n 2, 1) := by decide +kernel
theorem dX2_doubtOf_13 : decode cX2_doubtOf 13 = .ok (.invokestatic 54, 3) := by decide +kernel
theorem dX2_doubtOf_16 : decode cX2_doubtOf 16 = .ok (.ireturn, 1) := by decide +kernel
theorem dX2_trusts_0 : decode cX2_trusts 0 = .ok (.aload_n 0, 1) := by decide +kernel
theorem dX2_trusts_1 : decode cX2_trusts 1 = .ok (.getfield 31, 3) := by decide +kernel
theorem dX2_trusts_4 : decode cX2_trusts 4 = .ok (.iload_n 2, 1) := by decide +kernel
theorem dX2_trusts_5 : decode cX2_trusts 5 = .ok (.iaload, 1) := by decide +kernel
theorem dX2_trusts_6 : decode cX2_trusts 6 = .ok (.aload_n 0, 1) := by decide +kernel
theorem dX2_trusts_7 : decode cX2_trusts 7 = .ok (.getfield 18, 3) := by decide +kernel
theorem dX2_trusts_10 : decode cX2_trusts 10 = .ok (.iload_n 1, 1) := by decide +kernel
theorem dX2_trusts_11 : decode cX2_trusts 11 = .ok (.iaload, 1) := by decide +kernel
theorem dX2_trusts_12 : decode cX2_trusts 12 = .ok (.aload_n 0, 1) := by decide +kernel
theorem dX2_trusts_13 : decode cX2_trusts 13 = .ok (.getfield 28, 3) := by decide +kernel
theorem dX2_trusts_16 : decode cX2_trusts 16 = .ok (.iload_n 1, 1) := by decide +kernel
theorem dX2_trusts_17 : decode cX2_trusts 17 = .ok (.iaload, 1) := by decide +kernel
theorem dX2_trusts_18 : decode cX2_trusts 18 = .ok (.iload_n 2, 1) := by decide +kernel
theorem dX2_trusts_19 : decode cX2_trusts 19 = .ok (.invokestatic 54, 3) := by decide +kernel
theorem dX2_trusts_22 : decode cX2_trusts 22 = .ok (.if_icmp .lt 7, 3) := by decide +kernel
theorem dX2_trusts_25 : decode cX2_trusts 25 = .ok (.iconst 1, 1) := by decide +kernel
theorem dX2_trusts_26 : decode cX2_trusts 26 = .ok (.goto 4, 3) := by decide +kernel
theorem dX2_trusts_29 : decode cX2_trusts 29 = .ok (.iconst 0, 1) := by decide +kernel
theorem dX2_trusts_30 : decode cX2_trusts 30 = .ok (.ireturn, 1) := by decide +kernel
theorem dX2_allWorm_0 : decode cX2_allWorm 0 = .ok (.iconst 0, 1) := by decide +kernel
theorem dX2_allWorm_1 : decode cX2_allWorm 1 = .ok (.istore_n 1, 1) := by decide +kernel
theorem dX2_allWorm_2 : decode cX2_allWorm 2 = .ok (.iconst 0, 1) := by decide +kernel
theorem dX2_allWorm_3 : decode cX2_allWorm 3 = .ok (.istore_n 2, 1) := by decide +kernel
theorem dX2_allWorm_4 : decode cX2_allWorm 4 = .ok (.iload_n 2, 1) := by decide +kernel
theorem dX2_allWorm_5 : decode cX2_allWorm 5 = .ok (.aload_n 0, 1) := by decide +kernel
theorem dX2_allWorm_6 : decode cX2_allWorm 6 = .ok (.getfield 34, 3) := by decide +kernel
theorem dX2_allWorm_9 : decode cX2_allWorm 9 = .ok (.if_icmp .ge 18, 3) := by decide +kernel
theorem dX2_allWorm_12 : decode cX2_allWorm 12 = .ok (.iload_n 1, 1) := by decide +kernel
theorem dX2_allWorm_13 : decode cX2_allWorm 13 = .ok (.aload_n 0, 1) := by decide +kernel
theorem dX2_allWorm_14 : decode cX2_allWorm 14 = .ok (.getfield 28, 3) := by decide +kernel
theorem dX2_allWorm_17 : decode cX2_allWorm 17 = .ok (.iload_n 2, 1) := by decide +kernel
theorem dX2_allWorm_18 : decode cX2_allWorm 18 = .ok (.iaload, 1) := by decide +kernel
theorem dX2_allWorm_19 : decode cX2_allWorm 19 = .ok (.iadd, 1) := by decide +kernel
theorem dX2_allWorm_20 : decode cX2_allWorm 20 = .ok (.istore_n 1, 1) := by decide +kernel
theorem dX2_allWorm_21 : decode cX2_allWorm 21 = .ok (.iinc 2 1, 3) := by decide +kernel
theorem dX2_allWorm_24 : decode cX2_allWorm 24 = .ok (.goto (-20), 3) := by decide +kernel
theorem dX2_allWorm_27 : decode cX2_allWorm 27 = .ok (.iload_n 1, 1) := by decide +kernel
theorem dX2_allWorm_28 : decode cX2_allWorm 28 = .ok (.ireturn, 1) := by decide +kernel
theorem dX2_allCredit_0 : decode cX2_allCredit 0 = .ok (.iconst 0, 1) := by decide +kernel
theorem dX2_allCredit_1 : decode cX2_allCredit 1 = .ok (.istore_n 1, 1) := by decide +kernel
theorem dX2_allCredit_2 : decode cX2_allCredit 2 = .ok (.iconst 0, 1) := by decide +kernel
theorem dX2_allCredit_3 : decode cX2_allCredit 3 = .ok (.istore_n 2, 1) := by decide +kernel
theorem dX2_allCredit_4 : decode cX2_allCredit 4 = .ok (.iload_n 2, 1) := by decide +kernel
theorem dX2_allCredit_5 : decode cX2_allCredit 5 = .ok (.iconst 4, 1) := by decide +kernel
theorem dX2_allCredit_6 : decode cX2_allCredit 6 = .ok (.if_icmp .ge 18, 3) := by decide +kernel
theorem dX2_allCredit_9 : decode cX2_allCredit 9 = .ok (.iload_n 1, 1) := by decide +kernel
theorem dX2_allCredit_10 : decode cX2_allCredit 10 = .ok (.aload_n 0, 1) := by decide +kernel
theorem dX2_allCredit_11 : decode cX2_allCredit 11 = .ok (.getfield 31, 3) := by decide +kernel
theorem dX2_allCredit_14 : decode cX2_allCredit 14 = .ok (.iload_n 2, 1) := by decide +kernel
theorem dX2_allCredit_15 : decode cX2_allCredit 15 = .ok (.iaload, 1) := by decide +kernel
theorem dX2_allCredit_16 : decode cX2_allCredit 16 = .ok (.iadd, 1) := by decide +kernel
theorem dX2_allCredit_17 : decode cX2_allCredit 17 = .ok (.istore_n 1, 1) := by decide +kernel
theorem dX2_allCredit_18 : decode cX2_allCredit 18 = .ok (.iinc 2 1, 3) := by decide +kernel
theorem dX2_allCredit_21 : decode cX2_allCredit 21 = .ok (.goto (-17), 3) := by decide +kernel
theorem dX2_allCredit_24 : decode cX2_allCredit 24 = .ok (.iload_n 1, 1) := by decide +kernel
theorem dX2_allCredit_25 : decode cX2_allCredit 25 = .ok (.ireturn, 1) := by decide +kernel
theorem dX2_harboured_0 : decode cX2_harboured 0 = .ok (.iconst 0, 1) := by decide +kernel
theorem dX2_harboured_1 : decode cX2_harboured 1 = .ok (.istore_n 1, 1) := by decide +kernel
theorem dX2_harboured_2 : decode cX2_harboured 2 = .ok (.iconst 0, 1) := by decide +kernel
theorem dX2_harboured_3 : decode cX2_harboured 3 = .ok (.istore_n 2, 1) := by decide +kernel
theorem dX2_harboured_4 : decode cX2_harboured 4 = .ok (.iload_n 2, 1) := by decide +kernel
theorem dX2_harboured_5 : decode cX2_harboured 5 = .ok (.aload_n 0, 1) := by decide +kernel
theorem dX2_harboured_6 : decode cX2_harboured 6 = .ok (.getfield 34, 3) := by decide +kernel
theorem dX2_harboured_9 : decode cX2_harboured 9 = .ok (.if_icmp .ge 32, 3) := by decide +kernel
theorem dX2_harboured_12 : decode cX2_harboured 12 = .ok (.aload_n 0, 1) := by decide +kernel
theorem dX2_harboured_13 : decode cX2_harboured 13 = .ok (.getfield 12, 3) := by decide +kernel
theorem dX2_harboured_16 : decode cX2_harboured 16 = .ok (.aload_n 0, 1) := by decide +kernel
theorem dX2_harboured_17 : decode cX2_harboured 17 = .ok (.getfield 22, 3) := by decide +kernel
theorem dX2_harboured_20 : decode cX2_harboured 20 = .ok (.iload_n 2, 1) := by decide +kernel
theorem dX2_harboured_21 : decode cX2_harboured 21 = .ok (.iaload, 1) := by decide +kernel
theorem dX2_harboured_22 : decode cX2_harboured 22 = .ok (.invokevirtual 58, 3) := by decide +kernel
theorem dX2_harboured_25 : decode cX2_harboured 25 = .ok (.iconst 2, 1) := by decide +kernel
theorem dX2_harboured_26 : decode cX2_harboured 26 = .ok (.if_icmp .ne 9, 3) := by decide +kernel
theorem dX2_harboured_29 : decode cX2_harboured 29 = .ok (.iload_n 1, 1) := by decide +kernel
theorem dX2_harboured_30 : decode cX2_harboured 30 = .ok (.iconst 1, 1) := by decide +kernel
theorem dX2_harboured_31 : decode cX2_harboured 31 = .ok (.iload_n 2, 1) := by decide +kernel
theorem dX2_harboured_32 : decode cX2_harboured 32 = .ok (.ishl, 1) := by decide +kernel
theorem dX2_harboured_33 : decode cX2_harboured 33 = .ok (.ior, 1) := by decide +kernel
theorem dX2_harboured_34 : decode cX2_harboured 34 = .ok (.istore_n 1, 1) := by decide +kernel
theorem dX2_harboured_35 : decode cX2_harboured 35 = .ok (.iinc 2 1, 3) := by decide +kernel
theorem dX2_harboured_38 : decode cX2_harboured 38 = .ok (.goto (-34), 3) := by decide +kernel
theorem dX2_harboured_41 : decode cX2_harboured 41 = .ok (.iload_n 1, 1) := by decide +kernel
theorem dX2_harboured_42 : decode cX2_harboured 42 = .ok (.ireturn, 1) := by decide +kernel
theorem dX2_heardBy_0 : decode cX2_heardBy 0 = .ok (.iconst 1, 1) := by decide +kernel
theorem dX2_heardBy_1 : decode cX2_heardBy 1 = .ok (.iload_n 1, 1) := by decide +kernel
theorem dX2_heardBy_2 : decode cX2_heardBy 2 = .ok (.ishl, 1) := by decide +kernel
theorem dX2_heardBy_3 : decode cX2_heardBy 3 = .ok (.istore 4, 2) := by decide +kernel
theorem dX2_heardBy_5 : decode cX2_heardBy 5 = .ok (.iconst 1, 1) := by decide +kernel
theorem dX2_heardBy_6 : decode cX2_heardBy 6 = .ok (.istore 5, 2) := by decide +kernel
theorem dX2_heardBy_8 : decode cX2_heardBy 8 = .ok (.iload 5, 2) := by decide +kernel
theorem dX2_heardBy_10 : decode cX2_heardBy 10 = .ok (.aload_n 0, 1) := by decide +kernel
theorem dX2_heardBy_11 : decode cX2_heardBy 11 = .ok (.getfield 34, 3) := by decide +kernel
theorem dX2_heardBy_14 : decode cX2_heardBy 14 = .ok (.if_icmp .ge 23, 3) := by decide +kernel
theorem dX2_heardBy_17 : decode cX2_heardBy 17 = .ok (.iload 4, 2) := by decide +kernel
theorem dX2_heardBy_19 : decode cX2_heardBy 19 = .ok (.aload_n 0, 1) := by decide +kernel
theorem dX2_heardBy_20 : decode cX2_heardBy 20 = .ok (.iload 4, 2) := by decide +kernel
theorem dX2_heardBy_22 : decode cX2_heardBy 22 = .ok (.iload_n 3, 1) := by decide +kernel
theorem dX2_heardBy_23 : decode cX2_heardBy 23 = .ok (.invokevirtual 62, 3) := by decide +kernel
theorem dX2_heardBy_26 : decode cX2_heardBy 26 = .ok (.iload_n 2, 1) := by decide +kernel
theorem dX2_heardBy_27 : decode cX2_heardBy 27 = .ok (.iand, 1) := by decide +kernel
theorem dX2_heardBy_28 : decode cX2_heardBy 28 = .ok (.ior, 1) := by decide +kernel
theorem dX2_heardBy_29 : decode cX2_heardBy 29 = .ok (.istore 4, 2) := by decide +kernel
theorem dX2_heardBy_31 : decode cX2_heardBy 31 = .ok (.iinc 5 1, 3) := by decide +kernel
theorem dX2_heardBy_34 : decode cX2_heardBy 34 = .ok (.goto (-26), 3) := by decide +kernel
theorem dX2_heardBy_37 : decode cX2_heardBy 37 = .ok (.iload 4, 2) := by decide +kernel
theorem dX2_heardBy_39 : decode cX2_heardBy 39 = .ok (.ireturn, 1) := by decide +kernel
theorem dX2_nearAny_0 : decode cX2_nearAny 0 = .ok (.iconst 0, 1) := by decide +kernel
theorem dX2_nearAny_1 : decode cX2_nearAny 1 = .ok (.istore_n 3, 1) := by decide +kernel
theorem dX2_nearAny_2 : decode cX2_nearAny 2 = .ok (.iconst 0, 1) := by decide +kernel
theorem dX2_nearAny_3 : decode cX2_nearAny 3 = .ok (.istore 4, 2) := by decide +kernel
theorem dX2_nearAny_5 : decode cX2_nearAny 5 = .ok (.iload 4, 2) := by decide +kernel
theorem dX2_nearAny_7 : decode cX2_nearAny 7 = .ok (.aload_n 0, 1) := by decide +kernel
theorem dX2_nearAny_8 : decode cX2_nearAny 8 = .ok (.getfield 34, 3) := by decide +kernel
theorem dX2_nearAny_11 : decode cX2_nearAny 11 = .ok (.if_icmp .ge 64, 3) := by decide +kernel
theorem dX2_nearAny_14 : decode cX2_nearAny 14 = .ok (.iconst 0, 1) := by decide +kernel
theorem dX2_nearAny_15 : decode cX2_nearAny 15 = .ok (.istore 5, 2) := by decide +kernel
theorem dX2_nearAny_17 : decode cX2_nearAny 17 = .ok (.iload 5, 2) := by decide +kernel
theorem dX2_nearAny_19 : decode cX2_nearAny 19 = .ok (.aload_n 0, 1) := by decide +kernel
theorem dX2_nearAny_20 : decode cX2_nearAny 20 = .ok (.getfield 34, 3) := by decide +kernel
theorem dX2_nearAny_23 : decode cX2_nearAny 23 = .ok (.if_icmp .ge 46, 3) := by decide +kernel
theorem dX2_nearAny_26 : decode cX2_nearAny 26 = .ok (.iload_n 1, 1) := by decide +kernel
theorem dX2_nearAny_27 : decode cX2_nearAny 27 = .ok (.iconst 1, 1) := by decide +kernel
theorem dX2_nearAny_28 : decode cX2_nearAny 28 = .ok (.iload 4, 2) := by decide +kernel
theorem dX2_nearAny_30 : decode cX2_nearAny 30 = .ok (.ishl, 1) := by decide +kernel
theorem dX2_nearAny_31 : decode cX2_nearAny 31 = .ok (.iand, 1) := by decide +kernel
theorem dX2_nearAny_32 : decode cX2_nearAny 32 = .ok (.ifCond .eq 31, 3) := by decide +kernel
theorem dX2_nearAny_35 : decode cX2_nearAny 35 = .ok (.aload_n 0, 1) := by decide +kernel
theorem dX2_nearAny_36 : decode cX2_nearAny 36 = .ok (.getfield 22, 3) := by decide +kernel
theorem dX2_nearAny_39 : decode cX2_nearAny 39 = .ok (.iload 4, 2) := by decide +kernel
theorem dX2_nearAny_41 : decode cX2_nearAny 41 = .ok (.iaload, 1) := by decide +kernel
theorem dX2_nearAny_42 : decode cX2_nearAny 42 = .ok (.aload_n 0, 1) := by decide +kernel
theorem dX2_nearAny_43 : decode cX2_nearAny 43 = .ok (.getfield 22, 3) := by decide +kernel
theorem dX2_nearAny_46 : decode cX2_nearAny 46 = .ok (.iload 5, 2) := by decide +kernel
theorem dX2_nearAny_48 : decode cX2_nearAny 48 = .ok (.iaload, 1) := by decide +kernel
theorem dX2_nearAny_49 : decode cX2_nearAny 49 = .ok (.invokestatic 66, 3) := by decide +kernel
theorem dX2_nearAny_52 : decode cX2_nearAny 52 = .ok (.iload_n 2, 1) := by decide +kernel
theorem dX2_nearAny_53 : decode cX2_nearAny 53 = .ok (.if_icmp .gt 10, 3) := by decide +kernel
theorem dX2_nearAny_56 : decode cX2_nearAny 56 = .ok (.iload_n 3, 1) := by decide +kernel
theorem dX2_nearAny_57 : decode cX2_nearAny 57 = .ok (.iconst 1, 1) := by decide +kernel
theorem dX2_nearAny_58 : decode cX2_nearAny 58 = .ok (.iload 5, 2) := by decide +kernel
theorem dX2_nearAny_60 : decode cX2_nearAny 60 = .ok (.ishl, 1) := by decide +kernel
theorem dX2_nearAny_61 : decode cX2_nearAny 61 = .ok (.ior, 1) := by decide +kernel
theorem dX2_nearAny_62 : decode cX2_nearAny 62 = .ok (.istore_n 3, 1) := by decide +kernel
theorem dX2_nearAny_63 : decode cX2_nearAny 63 = .ok (.iinc 5 1, 3) := by decide +kernel
theorem dX2_nearAny_66 : decode cX2_nearAny 66 = .ok (.goto (-49), 3) := by decide +kernel
theorem dX2_nearAny_69 : decode cX2_nearAny 69 = .ok (.iinc 4 1, 3) := by decide +kernel
theorem dX2_nearAny_72 : decode cX2_nearAny 72 = .ok (.goto (-67), 3) := by decide +kernel
theorem dX2_nearAny_75 : decode cX2_nearAny 75 = .ok (.iload_n 3, 1) := by decide +kernel
theorem dX2_nearAny_76 : decode cX2_nearAny 76 = .ok (.ireturn, 1) := by decide +kernel
theorem dX2_isLink_0 : decode cX2_isLink 0 = .ok (.aload_n 0, 1) := by decide +kernel
theorem dX2_isLink_1 : decode cX2_isLink 1 = .ok (.invokevirtual 69, 3) := by decide +kernel
theorem dX2_isLink_4 : decode cX2_isLink 4 = .ok (.iconst 1, 1) := by decide +kernel
theorem dX2_isLink_5 : decode cX2_isLink 5 = .ok (.iload_n 1, 1) := by decide +kernel
theorem dX2_isLink_6 : decode cX2_isLink 6 = .ok (.ishl, 1) := by decide +kernel
theorem dX2_isLink_7 : decode cX2_isLink 7 = .ok (.iconst (-1), 1) := by decide +kernel
theorem dX2_isLink_8 : decode cX2_isLink 8 = .ok (.ixor, 1) := by decide +kernel
theorem dX2_isLink_9 : decode cX2_isLink 9 = .ok (.iand, 1) := by decide +kernel
theorem dX2_isLink_10 : decode cX2_isLink 10 = .ok (.istore_n 3, 1) := by decide +kernel
theorem dX2_isLink_11 : decode cX2_isLink 11 = .ok (.iconst 0, 1) := by decide +kernel
theorem dX2_isLink_12 : decode cX2_isLink 12 = .ok (.istore 4, 2) := by decide +kernel
theorem dX2_isLink_14 : decode cX2_isLink 14 = .ok (.iload 4, 2) := by decide +kernel
theorem dX2_isLink_16 : decode cX2_isLink 16 = .ok (.aload_n 0, 1) := by decide +kernel
theorem dX2_isLink_17 : decode cX2_isLink 17 = .ok (.getfield 34, 3) := by decide +kernel
theorem dX2_isLink_20 : decode cX2_isLink 20 = .ok (.if_icmp .ge 41, 3) := by decide +kernel
theorem dX2_isLink_23 : decode cX2_isLink 23 = .ok (.iload 4, 2) := by decide +kernel
theorem dX2_isLink_25 : decode cX2_isLink 25 = .ok (.iload_n 1, 1) := by decide +kernel
theorem dX2_isLink_26 : decode cX2_isLink 26 = .ok (.if_icmp .eq 29, 3) := by decide +kernel
theorem dX2_isLink_29 : decode cX2_isLink 29 = .ok (.aload_n 0, 1) := by decide +kernel
theorem dX2_isLink_30 : decode cX2_isLink 30 = .ok (.iload 4, 2) := by decide +kernel
theorem dX2_isLink_32 : decode cX2_isLink 32 = .ok (.aload_n 0, 1) := by decide +kernel
theorem dX2_isLink_33 : decode cX2_isLink 33 = .ok (.invokevirtual 69, 3) := by decide +kernel
theorem dX2_isLink_36 : decode cX2_isLink 36 = .ok (.iload_n 2, 1) := by decide +kernel
theorem dX2_isLink_37 : decode cX2_isLink 37 = .ok (.invokevirtual 73, 3) := by decide +kernel
theorem dX2_isLink_40 : decode cX2_isLink 40 = .ok (.iload_n 3, 1) := by decide +kernel
theorem dX2_isLink_41 : decode cX2_isLink 41 = .ok (.iand, 1) := by decide +kernel
theorem dX2_isLink_42 : decode cX2_isLink 42 = .ok (.aload_n 0, 1) := by decide +kernel
theorem dX2_isLink_43 : decode cX2_isLink 43 = .ok (.iload 4, 2) := by decide +kernel
theorem dX2_isLink_45 : decode cX2_isLink 45 = .ok (.iload_n 3, 1) := by decide +kernel
theorem dX2_isLink_46 : decode cX2_isLink 46 = .ok (.iload_n 2, 1) := by decide +kernel
theorem dX2_isLink_47 : decode cX2_isLink 47 = .ok (.invokevirtual 73, 3) := by decide +kernel
theorem dX2_isLink_50 : decode cX2_isLink 50 = .ok (.if_icmp .eq 5, 3) := by decide +kernel
theorem dX2_isLink_53 : decode cX2_isLink 53 = .ok (.iconst 1, 1) := by decide +kernel
theorem dX2_isLink_54 : decode cX2_isLink 54 = .ok (.ireturn, 1) := by decide +kernel
theorem dX2_isLink_55 : decode cX2_isLink 55 = .ok (.iinc 4 1, 3) := by decide +kernel
theorem dX2_isLink_58 : decode cX2_isLink 58 = .ok (.goto (-44), 3) := by decide +kernel
theorem dX2_isLink_61 : decode cX2_isLink 61 = .ok (.iconst 0, 1) := by decide +kernel
theorem dX2_isLink_62 : decode cX2_isLink 62 = .ok (.ireturn, 1) := by decide +kernel
theorem dX3_init_0 : decode cX3_init 0 = .ok (.aload_n 0, 1) := by decide +kernel
theorem dX3_init_1 : decode cX3_init 1 = .ok (.invokespecial 3, 3) := by decide +kernel
theorem dX3_init_4 : decode cX3_init 4 = .ok (.aload_n 0, 1) := by decide +kernel
theorem dX3_init_5 : decode cX3_init 5 = .ok (.bipush 48, 2) := by decide +kernel
theorem dX3_init_7 : decode cX3_init 7 = .ok (.newarray .int, 2) := by decide +kernel
theorem dX3_init_9 : decode cX3_init 9 = .ok (.putfield 9, 3) := by decide +kernel
theorem dX3_init_12 : decode cX3_init 12 = .ok (.aload_n 0, 1) := by decide +kernel
theorem dX3_init_13 : decode cX3_init 13 = .ok (.iconst 0, 1) := by decide +kernel
theorem dX3_init_14 : decode cX3_init 14 = .ok (.putfield 15, 3) := by decide +kernel
theorem dX3_init_17 : decode cX3_init 17 = .ok (.aload_n 0, 1) := by decide +kernel
theorem dX3_init_18 : decode cX3_init 18 = .ok (.iconst 0, 1) := by decide +kernel
theorem dX3_init_19 : decode cX3_init 19 = .ok (.putfield 19, 3) := by decide +kernel
theorem dX3_init_22 : decode cX3_init 22 = .ok (.return_, 1) := by decide +kernel
theorem dX3_become_0 : decode cX3_become 0 = .ok (.aload_n 1, 1) := by decide +kernel
theorem dX3_become_1 : decode cX3_become 1 = .ok (.getfield 9, 3) := by decide +kernel
theorem dX3_become_4 : decode cX3_become 4 = .ok (.iconst 0, 1) := by decide +kernel
theorem dX3_become_5 : decode cX3_become 5 = .ok (.aload_n 0, 1) := by decide +kernel
theorem dX3_become_6 : decode cX3_become 6 = .ok (.getfield 9, 3) := by decide +kernel
theorem dX3_become_9 : decode cX3_become 9 = .ok (.iconst 0, 1) := by decide +kernel
theorem dX3_become_10 : decode cX3_become 10 = .ok (.aload_n 0, 1) := by decide +kernel
theorem dX3_become_11 : decode cX3_become 11 = .ok (.getfield 9, 3) := by decide +kernel
theorem dX3_become_14 : decode cX3_become 14 = .ok (.arraylength, 1) := by decide +kernel
theorem dX3_become_15 : decode cX3_become 15 = .ok (.invokestatic 22, 3) := by decide +kernel
theorem dX3_become_18 : decode cX3_become 18 = .ok (.aload_n 0, 1) := by decide +kernel
theorem dX3_become_19 : decode cX3_become 19 = .ok (.aload_n 1, 1) := by decide +kernel
theorem dX3_become_20 : decode cX3_become 20 = .ok (.getfield 15, 3) := by decide +kernel
theorem dX3_become_23 : decode cX3_become 23 = .ok (.putfield 15, 3) := by decide +kernel
theorem dX3_become_26 : decode cX3_become 26 = .ok (.aload_n 0, 1) := by decide +kernel
theorem dX3_become_27 : decode cX3_become 27 = .ok (.aload_n 1, 1) := by decide +kernel
theorem dX3_become_28 : decode cX3_become 28 = .ok (.getfield 19, 3) := by decide +kernel
theorem dX3_become_31 : decode cX3_become 31 = .ok (.putfield 19, 3) := by decide +kernel
theorem dX3_become_34 : decode cX3_become 34 = .ok (.return_, 1) := by decide +kernel
theorem dX3_empty_0 : decode cX3_empty 0 = .ok (.aload_n 0, 1) := by decide +kernel
theorem dX3_empty_1 : decode cX3_empty 1 = .ok (.iconst 0, 1) := by decide +kernel
theorem dX3_empty_2 : decode cX3_empty 2 = .ok (.putfield 15, 3) := by decide +kernel
theorem dX3_empty_5 : decode cX3_empty 5 = .ok (.aload_n 0, 1) := by decide +kernel
theorem dX3_empty_6 : decode cX3_empty 6 = .ok (.iconst 0, 1) := by decide +kernel
theorem dX3_empty_7 : decode cX3_empty 7 = .ok (.putfield 19, 3) := by decide +kernel
theorem dX3_empty_10 : decode cX3_empty 10 = .ok (.return_, 1) := by decide +kernel
theorem dX3_cellOf_0 : decode cX3_cellOf 0 = .ok (.bipush 8, 2) := by decide +kernel
theorem dX3_cellOf_2 : decode cX3_cellOf 2 = .ok (.iload_n 0, 1) := by decide +kernel
theorem dX3_cellOf_3 : decode cX3_cellOf 3 = .ok (.imul, 1) := by decide +kernel
theorem dX3_cellOf_4 : decode cX3_cellOf 4 = .ok (.iload_n 1, 1) := by decide +kernel
theorem dX3_cellOf_5 : decode cX3_cellOf 5 = .ok (.iadd, 1) := by decide +kernel
theorem dX3_cellOf_6 : decode cX3_cellOf 6 = .ok (.ireturn, 1) := by decide +kernel
theorem dX3_has_0 : decode cX3_has 0 = .ok (.iload_n 1, 1) := by decide +kernel
theorem dX3_has_1 : decode cX3_has 1 = .ok (.ifCond .lt 29, 3) := by decide +kernel
theorem dX3_has_4 : decode cX3_has 4 = .ok (.iload_n 1, 1) := by decide +kernel
theorem dX3_has_5 : decode cX3_has 5 = .ok (.bipush 8, 2) := by decide +kernel
theorem dX3_has_7 : decode cX3_has 7 = .ok (.aload_n 0, 1) := by decide +kernel
theorem dX3_has_8 : decode cX3_has 8 = .ok (.getfield 15, 3) := by decide +kernel
theorem dX3_has_11 : decode cX3_has 11 = .ok (.imul, 1) := by decide +kernel
theorem dX3_has_12 : decode cX3_has 12 = .ok (.if_icmp .ge 18, 3) := by decide +kernel
theorem dX3_has_15 : decode cX3_has 15 = .ok (.iload_n 1, 1) := by decide +kernel
theorem dX3_has_16 : decode cX3_has 16 = .ok (.bipush 8, 2) := by decide +kernel
theorem dX3_has_18 : decode cX3_has 18 = .ok (.irem, 1) := by decide +kernel
theorem dX3_has_19 : decode cX3_has 19 = .ok (.aload_n 0, 1) := by decide +kernel
theorem dX3_has_20 : decode cX3_has 20 = .ok (.getfield 19, 3) := by decide +kernel
theorem dX3_has_23 : decode cX3_has 23 = .ok (.if_icmp .ge 7, 3) := by decide +kernel
theorem dX3_has_26 : decode cX3_has 26 = .ok (.iconst 1, 1) := by decide +kernel
theorem dX3_has_27 : decode cX3_has 27 = .ok (.goto 4, 3) := by decide +kernel
theorem dX3_has_30 : decode cX3_has 30 = .ok (.iconst 0, 1) := by decide +kernel
theorem dX3_has_31 : decode cX3_has 31 = .ok (.ireturn, 1) := by decide +kernel
theorem dX3_at_0 : decode cX3_at 0 = .ok (.aload_n 0, 1) := by decide +kernel
theorem dX3_at_1 : decode cX3_at 1 = .ok (.iload_n 1, 1) := by decide +kernel
theorem dX3_at_2 : decode cX3_at 2 = .ok (.invokevirtual 28, 3) := by decide +kernel
theorem dX3_at_5 : decode cX3_at 5 = .ok (.ifCond .eq 12, 3) := by decide +kernel
theorem dX3_at_8 : decode cX3_at 8 = .ok (.aload_n 0, 1) := by decide +kernel
theorem dX3_at_9 : decode cX3_at 9 = .ok (.getfield 9, 3) := by decide +kernel
theorem dX3_at_12 : decode cX3_at 12 = .ok (.iload_n 1, 1) := by decide +kernel
theorem dX3_at_13 : decode cX3_at 13 = .ok (.iaload, 1) := by decide +kernel
theorem dX3_at_14 : decode cX3_at 14 = .ok (.goto 4, 3) := by decide +kernel
theorem dX3_at_17 : decode cX3_at 17 = .ok (.iconst 1, 1) := by decide +kernel
theorem dX3_at_18 : decode cX3_at 18 = .ok (.ireturn, 1) := by decide +kernel
theorem dX3_ahead_0 : decode cX3_ahead 0 = .ok (.iload_n 1, 1) := by decide +kernel
theorem dX3_ahead_1 : decode cX3_ahead 1 = .ok (.bipush 8, 2) := by decide +kernel
theorem dX3_ahead_3 : decode cX3_ahead 3 = .ok (.idiv, 1) := by decide +kernel
theorem dX3_ahead_4 : decode cX3_ahead 4 = .ok (.getstatic 32, 3) := by decide +kernel
theorem dX3_ahead_7 : decode cX3_ahead 7 = .ok (.iload_n 2, 1) := by decide +kernel
theorem dX3_ahead_8 : decode cX3_ahead 8 = .ok (.iaload, 1) := by decide +kernel
theorem dX3_ahead_9 : decode cX3_ahead 9 = .ok (.iadd, 1) := by decide +kernel
theorem dX3_ahead_10 : decode cX3_ahead 10 = .ok (.istore_n 3, 1) := by decide +kernel
theorem dX3_ahead_11 : decode cX3_ahead 11 = .ok (.iload_n 1, 1) := by decide +kernel
theorem dX3_ahead_12 : decode cX3_ahead 12 = .ok (.bipush 8, 2) := by decide +kernel
theorem dX3_ahead_14 : decode cX3_ahead 14 = .ok (.irem, 1) := by decide +kernel
theorem dX3_ahead_15 : decode cX3_ahead 15 = .ok (.getstatic 35, 3) := by decide +kernel
theorem dX3_ahead_18 : decode cX3_ahead 18 = .ok (.iload_n 2, 1) := by decide +kernel
theorem dX3_ahead_19 : decode cX3_ahead 19 = .ok (.iaload, 1) := by decide +kernel
theorem dX3_ahead_20 : decode cX3_ahead 20 = .ok (.iadd, 1) := by decide +kernel
theorem dX3_ahead_21 : decode cX3_ahead 21 = .ok (.istore 4, 2) := by decide +kernel
theorem dX3_ahead_23 : decode cX3_ahead 23 = .ok (.iload_n 3, 1) := by decide +kernel
theorem dX3_ahead_24 : decode cX3_ahead 24 = .ok (.ifCond .lt 25, 3) := by decide +kernel
theorem dX3_ahead_27 : decode cX3_ahead 27 = .ok (.iload_n 3, 1) := by decide +kernel
theorem dX3_ahead_28 : decode cX3_ahead 28 = .ok (.aload_n 0, 1) := by decide +kernel
theorem dX3_ahead_29 : decode cX3_ahead 29 = .ok (.getfield 15, 3) := by decide +kernel
theorem dX3_ahead_32 : decode cX3_ahead 32 = .ok (.if_icmp .ge 17, 3) := by decide +kernel
theorem dX3_ahead_35 : decode cX3_ahead 35 = .ok (.iload 4, 2) := by decide +kernel
theorem dX3_ahead_37 : decode cX3_ahead 37 = .ok (.ifCond .lt 12, 3) := by decide +kernel
theorem dX3_ahead_40 : decode cX3_ahead 40 = .ok (.iload 4, 2) := by decide +kernel
theorem dX3_ahead_42 : decode cX3_ahead 42 = .ok (.aload_n 0, 1) := by decide +kernel
theorem dX3_ahead_43 : decode cX3_ahead 43 = .ok (.getfield 19, 3) := by decide +kernel
theorem dX3_ahead_46 : decode cX3_ahead 46 = .ok (.if_icmp .lt 6, 3) := by decide +kernel
theorem dX3_ahead_49 : decode cX3_ahead 49 = .ok (.bipush (-4), 2) := by decide +kernel
theorem dX3_ahead_51 : decode cX3_ahead 51 = .ok (.ireturn, 1) := by decide +kernel
theorem dX3_ahead_52 : decode cX3_ahead 52 = .ok (.iload_n 3, 1) := by decide +kernel
theorem dX3_ahead_53 : decode cX3_ahead 53 = .ok (.iload 4, 2) := by decide +kernel
theorem dX3_ahead_55 : decode cX3_ahead 55 = .ok (.invokestatic 38, 3) := by decide +kernel
theorem dX3_ahead_58 : decode cX3_ahead 58 = .ok (.istore 5, 2) := by decide +kernel
theorem dX3_ahead_60 : decode cX3_ahead 60 = .ok (.aload_n 0, 1) := by decide +kernel
theorem dX3_ahead_61 : decode cX3_ahead 61 = .ok (.getfield 9, 3) := by decide +kernel
theorem dX3_ahead_64 : decode cX3_ahead 64 = .ok (.iload 5, 2) := by decide +kernel
theorem dX3_ahead_66 : decode cX3_ahead 66 = .ok (.iaload, 1) := by decide +kernel
theorem dX3_ahead_67 : decode cX3_ahead 67 = .ok (.iconst 1, 1) := by decide +kernel
theorem dX3_ahead_68 : decode cX3_ahead 68 = .ok (.if_icmp .ne 8, 3) := by decide +kernel
theorem dX3_ahead_71 : decode cX3_ahead 71 = .ok (.bipush (-4), 2) := by decide +kernel
theorem dX3_ahead_73 : decode cX3_ahead 73 = .ok (.goto 5, 3) := by decide +kernel
theorem dX3_ahead_76 : decode cX3_ahead 76 = .ok (.iload 5, 2) := by decide +kernel
theorem dX3_ahead_78 : decode cX3_ahead 78 = .ok (.ireturn, 1) := by decide +kernel
theorem dX3_away_0 : decode cX3_away 0 = .ok (.iload_n 0, 1) := by decide +kernel
theorem dX3_away_1 : decode cX3_away 1 = .ok (.bipush 8, 2) := by decide +kernel
theorem dX3_away_3 : decode cX3_away 3 = .ok (.idiv, 1) := by decide +kernel
theorem dX3_away_4 : decode cX3_away 4 = .ok (.iload_n 1, 1) := by decide +kernel
theorem dX3_away_5 : decode cX3_away 5 = .ok (.bipush 8, 2) := by decide +kernel
theorem dX3_away_7 : decode cX3_away 7 = .ok (.idiv, 1) := by decide +kernel
theorem dX3_away_8 : decode cX3_away 8 = .ok (.isub, 1) := by decide +kernel
theorem dX3_away_9 : decode cX3_away 9 = .ok (.invokestatic 42, 3) := by decide +kernel
theorem dX3_away_12 : decode cX3_away 12 = .ok (.iload_n 0, 1) := by decide +kernel
theorem dX3_away_13 : decode cX3_away 13 = .ok (.bipush 8, 2) := by decide +kernel
theorem dX3_away_15 : decode cX3_away 15 = .ok (.irem, 1) := by decide +kernel
theorem dX3_away_16 : decode cX3_away 16 = .ok (.iload_n 1, 1) := by decide +kernel
theorem dX3_away_17 : decode cX3_away 17 = .ok (.bipush 8, 2) := by decide +kernel
theorem dX3_away_19 : decode cX3_away 19 = .ok (.irem, 1) := by decide +kernel
theorem dX3_away_20 : decode cX3_away 20 = .ok (.isub, 1) := by decide +kernel
theorem dX3_away_21 : decode cX3_away 21 = .ok (.invokestatic 42, 3) := by decide +kernel
theorem dX3_away_24 : decode cX3_away 24 = .ok (.iadd, 1) := by decide +kernel
theorem dX3_away_25 : decode cX3_away 25 = .ok (.ireturn, 1) := by decide +kernel
theorem dX3_harbours_0 : decode cX3_harbours 0 = .ok (.iconst 0, 1) := by decide +kernel
theorem dX3_harbours_1 : decode cX3_harbours 1 = .ok (.istore_n 1, 1) := by decide +kernel
theorem dX3_harbours_2 : decode cX3_harbours 2 = .ok (.iconst 0, 1) := by decide +kernel
theorem dX3_harbours_3 : decode cX3_harbours 3 = .ok (.istore_n 2, 1) := by decide +kernel
theorem dX3_harbours_4 : decode cX3_harbours 4 = .ok (.iload_n 2, 1) := by decide +kernel
theorem dX3_harbours_5 : decode cX3_harbours 5 = .ok (.aload_n 0, 1) := by decide +kernel
theorem dX3_harbours_6 : decode cX3_harbours 6 = .ok (.getfield 9, 3) := by decide +kernel
theorem dX3_harbours_9 : decode cX3_harbours 9 = .ok (.arraylength, 1) := by decide +kernel
theorem dX3_harbours_10 : decode cX3_harbours 10 = .ok (.if_icmp .ge 21, 3) := by decide +kernel
theorem dX3_harbours_13 : decode cX3_harbours 13 = .ok (.aload_n 0, 1) := by decide +kernel
theorem dX3_harbours_14 : decode cX3_harbours 14 = .ok (.iload_n 2, 1) := by decide +kernel
theorem dX3_harbours_15 : decode cX3_harbours 15 = .ok (.invokevirtual 48, 3) := by decide +kernel
theorem dX3_harbours_18 : decode cX3_harbours 18 = .ok (.iconst 2, 1) := by decide +kernel
theorem dX3_harbours_19 : decode cX3_harbours 19 = .ok (.if_icmp .ne 6, 3) := by decide +kernel
theorem dX3_harbours_22 : decode cX3_harbours 22 = .ok (.iinc 1 1, 3) := by decide +kernel
theorem dX3_harbours_25 : decode cX3_harbours 25 = .ok (.iinc 2 1, 3) := by decide +kernel
theorem dX3_harbours_28 : decode cX3_harbours 28 = .ok (.goto (-24), 3) := by decide +kernel
theorem dX3_harbours_31 : decode cX3_harbours 31 = .ok (.iload_n 1, 1) := by decide +kernel
theorem dX3_harbours_32 : decode cX3_harbours 32 = .ok (.ireturn, 1) := by decide +kernel
theorem dX3_awayFromHarbour_0 : decode cX3_awayFromHarbour 0 = .ok (.bipush 14, 2) := by decide +kernel
theorem dX3_awayFromHarbour_2 : decode cX3_awayFromHarbour 2 = .ok (.istore_n 2, 1) := by decide +kernel
theorem dX3_awayFromHarbour_3 : decode cX3_awayFromHarbour 3 = .ok (.iconst 0, 1) := by decide +kernel
theorem dX3_awayFromHarbour_4 : decode cX3_awayFromHarbour 4 = .ok (.istore_n 3, 1) := by decide +kernel
theorem dX3_awayFromHarbour_5 : decode cX3_awayFromHarbour 5 = .ok (.iload_n 3, 1) := by decide +kernel
theorem dX3_awayFromHarbour_6 : decode cX3_awayFromHarbour 6 = .ok (.aload_n 0, 1) := by decide +kernel
theorem dX3_awayFromHarbour_7 : decode cX3_awayFromHarbour 7 = .ok (.getfield 9, 3) := by decide +kernel
theorem dX3_awayFromHarbour_10 : decode cX3_awayFromHarbour 10 = .ok (.arraylength, 1) := by decide +kernel
theorem dX3_awayFromHarbour_11 : decode cX3_awayFromHarbour 11 = .ok (.if_icmp .ge 28, 3) := by decide +kernel
theorem dX3_awayFromHarbour_14 : decode cX3_awayFromHarbour 14 = .ok (.aload_n 0, 1) := by decide +kernel
theorem dX3_awayFromHarbour_15 : decode cX3_awayFromHarbour 15 = .ok (.iload_n 3, 1) := by decide +kernel
theorem dX3_awayFromHarbour_16 : decode cX3_awayFromHarbour 16 = .ok (.invokevirtual 48, 3) := by decide +kernel
theorem dX3_awayFromHarbour_19 : decode cX3_awayFromHarbour 19 = .ok (.iconst 2, 1) := by decide +kernel
theorem dX3_awayFromHarbour_20 : decode cX3_awayFromHarbour 20 = .ok (.if_icmp .ne 13, 3) := by decide +kernel
theorem dX3_awayFromHarbour_23 : decode cX3_awayFromHarbour 23 = .ok (.iload_n 2, 1) := by decide +kernel
theorem dX3_awayFromHarbour_24 : decode cX3_awayFromHarbour 24 = .ok (.iload_n 1, 1) := by decide +kernel
theorem dX3_awayFromHarbour_25 : decode cX3_awayFromHarbour 25 = .ok (.iload_n 3, 1) := by decide +kernel
theorem dX3_awayFromHarbour_26 : decode cX3_awayFromHarbour 26 = .ok (.invokestatic 51, 3) := by decide +kernel
theorem dX3_awayFromHarbour_29 : decode cX3_awayFromHarbour 29 = .ok (.invokestatic 54, 3) := by decide +kernel
theorem dX3_awayFromHarbour_32 : decode cX3_awayFromHarbour 32 = .ok (.istore_n 2, 1) := by decide +kernel
theorem dX3_awayFromHarbour_33 : decode cX3_awayFromHarbour 33 = .ok (.iinc 3 1, 3) := by decide +kernel
theorem dX3_awayFromHarbour_36 : decode cX3_awayFromHarbour 36 = .ok (.goto (-31), 3) := by decide +kernel
theorem dX3_awayFromHarbour_39 : decode cX3_awayFromHarbour 39 = .ok (.iload_n 2, 1) := by decide +kernel
theorem dX3_awayFromHarbour_40 : decode cX3_awayFromHarbour 40 = .ok (.ireturn, 1) := by decide +kernel
theorem dX4_init_0 : decode cX4_init 0 = .ok (.aload_n 0, 1) := by decide +kernel
theorem dX4_init_1 : decode cX4_init 1 = .ok (.invokespecial 3, 3) := by decide +kernel
theorem dX4_init_4 : decode cX4_init 4 = .ok (.aload_n 0, 1) := by decide +kernel
theorem dX4_init_5 : decode cX4_init 5 = .ok (.bipush 24, 2) := by decide +kernel
theorem dX4_init_7 : decode cX4_init 7 = .ok (.newarray .long, 2) := by decide +kernel
theorem dX4_init_9 : decode cX4_init 9 = .ok (.putfield 9, 3) := by decide +kernel
theorem dX4_init_12 : decode cX4_init 12 = .ok (.aload_n 0, 1) := by decide +kernel
theorem dX4_init_13 : decode cX4_init 13 = .ok (.iconst 0, 1) := by decide +kernel
theorem dX4_init_14 : decode cX4_init 14 = .ok (.putfield 15, 3) := by decide +kernel
theorem dX4_init_17 : decode cX4_init 17 = .ok (.aload_n 0, 1) := by decide +kernel
theorem dX4_init_18 : decode cX4_init 18 = .ok (.iconst 0, 1) := by decide +kernel
theorem dX4_init_19 : decode cX4_init 19 = .ok (.putfield 19, 3) := by decide +kernel
theorem dX4_init_22 : decode cX4_init 22 = .ok (.aload_n 0, 1) := by decide +kernel
theorem dX4_init_23 : decode cX4_init 23 = .ok (.iconst 0, 1) := by decide +kernel
theorem dX4_init_24 : decode cX4_init 24 = .ok (.putfield 23, 3) := by decide +kernel
theorem dX4_init_27 : decode cX4_init 27 = .ok (.return_, 1) := by decide +kernel
theorem dX4_renew_0 : decode cX4_renew 0 = .ok (.aload_n 0, 1) := by decide +kernel
theorem dX4_renew_1 : decode cX4_renew 1 = .ok (.getfield 9, 3) := by decide +kernel
theorem dX4_renew_4 : decode cX4_renew 4 = .ok (.lconst 0, 1) := by decide +kernel
theorem dX4_renew_5 : decode cX4_renew 5 = .ok (.invokestatic 26, 3) := by decide +kernel
theorem dX4_renew_8 : decode cX4_renew 8 = .ok (.aload_n 0, 1) := by decide +kernel
theorem dX4_renew_9 : decode cX4_renew 9 = .ok (.iconst 1, 1) := by decide +kernel
theorem dX4_renew_10 : decode cX4_renew 10 = .ok (.putfield 15, 3) := by decide +kernel
theorem dX4_renew_13 : decode cX4_renew 13 = .ok (.aload_n 0, 1) := by decide +kernel
theorem dX4_renew_14 : decode cX4_renew 14 = .ok (.iload_n 1, 1) := by decide +kernel
theorem dX4_renew_15 : decode cX4_renew 15 = .ok (.putfield 19, 3) := by decide +kernel
theorem dX4_renew_18 : decode cX4_renew 18 = .ok (.aload_n 0, 1) := by decide +kernel
theorem dX4_renew_19 : decode cX4_renew 19 = .ok (.iload_n 2, 1) := by decide +kernel
theorem dX4_renew_20 : decode cX4_renew 20 = .ok (.putfield 23, 3) := by decide +kernel
theorem dX4_renew_23 : decode cX4_renew 23 = .ok (.return_, 1) := by decide +kernel
theorem dX4_holds_0 : decode cX4_holds 0 = .ok (.iload_n 1, 1) := by decide +kernel
theorem dX4_holds_1 : decode cX4_holds 1 = .ok (.ifCond .lt 29, 3) := by decide +kernel
theorem dX4_holds_4 : decode cX4_holds 4 = .ok (.iload_n 2, 1) := by decide +kernel
theorem dX4_holds_5 : decode cX4_holds 5 = .ok (.ifCond .lt 25, 3) := by decide +kernel
theorem dX4_holds_8 : decode cX4_holds 8 = .ok (.iload_n 2, 1) := by decide +kernel
theorem dX4_holds_9 : decode cX4_holds 9 = .ok (.aload_n 0, 1) := by decide +kernel
theorem dX4_holds_10 : decode cX4_holds 10 = .ok (.getfield 23, 3) := by decide +kernel
theorem dX4_holds_13 : decode cX4_holds 13 = .ok (.if_icmp .gt 17, 3) := by decide +kernel
theorem dX4_holds_16 : decode cX4_holds 16 = .ok (.iload_n 1, 1) := by decide +kernel
theorem dX4_holds_17 : decode cX4_holds 17 = .ok (.aload_n 0, 1) := by decide +kernel
theorem dX4_holds_18 : decode cX4_holds 18 = .ok (.getfield 23, 3) := by decide +kernel
theorem dX4_holds_21 : decode cX4_holds 21 = .ok (.iload_n 2, 1) := by decide +kernel
theorem dX4_holds_22 : decode cX4_holds 22 = .ok (.isub, 1) := by decide +kernel
theorem dX4_holds_23 : decode cX4_holds 23 = .ok (.if_icmp .gt 7, 3) := by decide +kernel
theorem dX4_holds_26 : decode cX4_holds 26 = .ok (.iconst 1, 1) := by decide +kernel
theorem dX4_holds_27 : decode cX4_holds 27 = .ok (.goto 4, 3) := by decide +kernel
theorem dX4_holds_30 : decode cX4_holds 30 = .ok (.iconst 0, 1) := by decide +kernel
theorem dX4_holds_31 : decode cX4_holds 31 = .ok (.ireturn, 1) := by decide +kernel
theorem dX4_holdsWords_0 : decode cX4_holdsWords 0 = .ok (.iconst 0, 1) := by decide +kernel
theorem dX4_holdsWords_1 : decode cX4_holdsWords 1 = .ok (.istore 4, 2) := by decide +kernel
theorem dX4_holdsWords_3 : decode cX4_holdsWords 3 = .ok (.iload 4, 2) := by decide +kernel
theorem dX4_holdsWords_5 : decode cX4_holdsWords 5 = .ok (.iload_n 2, 1) := by decide +kernel
theorem dX4_holdsWords_6 : decode cX4_holdsWords 6 = .ok (.if_icmp .ge 28, 3) := by decide +kernel
theorem dX4_holdsWords_9 : decode cX4_holdsWords 9 = .ok (.aload_n 0, 1) := by decide +kernel
theorem dX4_holdsWords_10 : decode cX4_holdsWords 10 = .ok (.getfield 9, 3) := by decide +kernel
theorem dX4_holdsWords_13 : decode cX4_holdsWords 13 = .ok (.iload_n 1, 1) := by decide +kernel
theorem dX4_holdsWords_14 : decode cX4_holdsWords 14 = .ok (.iload_n 3, 1) := by decide +kernel
theorem dX4_holdsWords_15 : decode cX4_holdsWords 15 = .ok (.iload 4, 2) := by decide +kernel
theorem dX4_holdsWords_17 : decode cX4_holdsWords 17 = .ok (.imul, 1) := by decide +kernel
theorem dX4_holdsWords_18 : decode cX4_holdsWords 18 = .ok (.iadd, 1) := by decide +kernel
theorem dX4_holdsWords_19 : decode cX4_holdsWords 19 = .ok (.laload, 1) := by decide +kernel
theorem dX4_holdsWords_20 : decode cX4_holdsWords 20 = .ok (.invokestatic 32, 3) := by decide +kernel
theorem dX4_holdsWords_23 : decode cX4_holdsWords 23 = .ok (.ifCond .ne 5, 3) := by decide +kernel
theorem dX4_holdsWords_26 : decode cX4_holdsWords 26 = .ok (.iconst 0, 1) := by decide +kernel
theorem dX4_holdsWords_27 : decode cX4_holdsWords 27 = .ok (.ireturn, 1) := by decide +kernel
theorem dX4_holdsWords_28 : decode cX4_holdsWords 28 = .ok (.iinc 4 1, 3) := by decide +kernel
theorem dX4_holdsWords_31 : decode cX4_holdsWords 31 = .ok (.goto (-28), 3) := by decide +kernel
theorem dX4_holdsWords_34 : decode cX4_holdsWords 34 = .ok (.iconst 1, 1) := by decide +kernel
theorem dX4_holdsWords_35 : decode cX4_holdsWords 35 = .ok (.ireturn, 1) := by decide +kernel
theorem dX4_put_0 : decode cX4_put 0 = .ok (.aload_n 0, 1) := by decide +kernel
theorem dX4_put_1 : decode cX4_put 1 = .ok (.getfield 9, 3) := by decide +kernel
theorem dX4_put_4 : decode cX4_put 4 = .ok (.iload_n 1, 1) := by decide +kernel
theorem dX4_put_5 : decode cX4_put 5 = .ok (.aload_n 0, 1) := by decide +kernel
theorem dX4_put_6 : decode cX4_put 6 = .ok (.lload_n 2, 1) := by decide +kernel
theorem dX4_put_7 : decode cX4_put 7 = .ok (.invokevirtual 36, 3) := by decide +kernel
theorem dX4_put_10 : decode cX4_put 10 = .ok (.lastore, 1) := by decide +kernel
theorem dX4_put_11 : decode cX4_put 11 = .ok (.aload_n 0, 1) := by decide +kernel
theorem dX4_put_12 : decode cX4_put 12 = .ok (.getfield 9, 3) := by decide +kernel
theorem dX4_put_15 : decode cX4_put 15 = .ok (.iload_n 1, 1) := by decide +kernel
theorem dX4_put_16 : decode cX4_put 16 = .ok (.laload, 1) := by decide +kernel
theorem dX4_put_17 : decode cX4_put 17 = .ok (.lreturn, 1) := by decide +kernel
theorem dX4_narrowed_0 : decode cX4_narrowed 0 = .ok (.aload_n 0, 1) := by decide +kernel
theorem dX4_narrowed_1 : decode cX4_narrowed 1 = .ok (.getfield 19, 3) := by decide +kernel
theorem dX4_narrowed_4 : decode cX4_narrowed 4 = .ok (.tableswitch 42 0 2 #[28, 33, 38], 28) := by decide +kernel
theorem dX4_narrowed_32 : decode cX4_narrowed 32 = .ok (.lload_n 1, 1) := by decide +kernel
theorem dX4_narrowed_33 : decode cX4_narrowed 33 = .ok (.l2i, 1) := by decide +kernel
theorem dX4_narrowed_34 : decode cX4_narrowed 34 = .ok (.i2b, 1) := by decide +kernel
theorem dX4_narrowed_35 : decode cX4_narrowed 35 = .ok (.i2l, 1) := by decide +kernel
theorem dX4_narrowed_36 : decode cX4_narrowed 36 = .ok (.lreturn, 1) := by decide +kernel
theorem dX4_narrowed_37 : decode cX4_narrowed 37 = .ok (.lload_n 1, 1) := by decide +kernel
theorem dX4_narrowed_38 : decode cX4_narrowed 38 = .ok (.l2i, 1) := by decide +kernel
theorem dX4_narrowed_39 : decode cX4_narrowed 39 = .ok (.i2s, 1) := by decide +kernel
theorem dX4_narrowed_40 : decode cX4_narrowed 40 = .ok (.i2l, 1) := by decide +kernel
theorem dX4_narrowed_41 : decode cX4_narrowed 41 = .ok (.lreturn, 1) := by decide +kernel
theorem dX4_narrowed_42 : decode cX4_narrowed 42 = .ok (.lload_n 1, 1) := by decide +kernel
theorem dX4_narrowed_43 : decode cX4_narrowed 43 = .ok (.l2i, 1) := by decide +kernel
theorem dX4_narrowed_44 : decode cX4_narrowed 44 = .ok (.i2l, 1) := by decide +kernel
theorem dX4_narrowed_45 : decode cX4_narrowed 45 = .ok (.lreturn, 1) := by decide +kernel
theorem dX4_narrowed_46 : decode cX4_narrowed 46 = .ok (.lload_n 1, 1) := by decide +kernel
theorem dX4_narrowed_47 : decode cX4_narrowed 47 = .ok (.lreturn, 1) := by decide +kernel
theorem dX5_init_0 : decode cX5_init 0 = .ok (.aload_n 0, 1) := by decide +kernel
theorem dX5_init_1 : decode cX5_init 1 = .ok (.invokespecial 3, 3) := by decide +kernel
theorem dX5_init_4 : decode cX5_init 4 = .ok (.aload_n 0, 1) := by decide +kernel
theorem dX5_init_5 : decode cX5_init 5 = .ok (.sipush 130, 3) := by decide +kernel
theorem dX5_init_8 : decode cX5_init 8 = .ok (.newarray .int, 2) := by decide +kernel
theorem dX5_init_10 : decode cX5_init 10 = .ok (.putfield 9, 3) := by decide +kernel
theorem dX5_init_13 : decode cX5_init 13 = .ok (.aload_n 0, 1) := by decide +kernel
theorem dX5_init_14 : decode cX5_init 14 = .ok (.iconst 0, 1) := by decide +kernel
theorem dX5_init_15 : decode cX5_init 15 = .ok (.putfield 15, 3) := by decide +kernel
theorem dX5_init_18 : decode cX5_init 18 = .ok (.aload_n 0, 1) := by decide +kernel
theorem dX5_init_19 : decode cX5_init 19 = .ok (.iconst 0, 1) := by decide +kernel
theorem dX5_init_20 : decode cX5_init 20 = .ok (.putfield 19, 3) := by decide +kernel
theorem dX5_init_23 : decode cX5_init 23 = .ok (.return_, 1) := by decide +kernel
theorem dX5_add_0 : decode cX5_add 0 = .ok (.aload_n 0, 1) := by decide +kernel
theorem dX5_add_1 : decode cX5_add 1 = .ok (.getfield 15, 3) := by decide +kernel
theorem dX5_add_4 : decode cX5_add 4 = .ok (.sipush 130, 3) := by decide +kernel
theorem dX5_add_7 : decode cX5_add 7 = .ok (.if_icmp .lt 5, 3) := by decide +kernel
theorem dX5_add_10 : decode cX5_add 10 = .ok (.iconst 0, 1) := by decide +kernel
theorem dX5_add_11 : decode cX5_add 11 = .ok (.ireturn, 1) := by decide +kernel
theorem dX5_add_12 : decode cX5_add 12 = .ok (.aload_n 0, 1) := by decide +kernel
theorem dX5_add_13 : decode cX5_add 13 = .ok (.getfield 9, 3) := by decide +kernel
theorem dX5_add_16 : decode cX5_add 16 = .ok (.aload_n 0, 1) := by decide +kernel
theorem dX5_add_17 : decode cX5_add 17 = .ok (.getfield 15, 3) := by decide +kernel
theorem dX5_add_20 : decode cX5_add 20 = .ok (.iload_n 1, 1) := by decide +kernel
theorem dX5_add_21 : decode cX5_add 21 = .ok (.iastore, 1) := by decide +kernel
theorem dX5_add_22 : decode cX5_add 22 = .ok (.aload_n 0, 1) := by decide +kernel
theorem dX5_add_23 : decode cX5_add 23 = .ok (.dup, 1) := by decide +kernel
theorem dX5_add_24 : decode cX5_add 24 = .ok (.getfield 15, 3) := by decide +kernel
theorem dX5_add_27 : decode cX5_add 27 = .ok (.iconst 1, 1) := by decide +kernel
theorem dX5_add_28 : decode cX5_add 28 = .ok (.iadd, 1) := by decide +kernel
theorem dX5_add_29 : decode cX5_add 29 = .ok (.putfield 15, 3) := by decide +kernel
theorem dX5_add_32 : decode cX5_add 32 = .ok (.iconst 1, 1) := by decide +kernel
theorem dX5_add_33 : decode cX5_add 33 = .ok (.ireturn, 1) := by decide +kernel
theorem dX5_readFleet_0 : decode cX5_readFleet 0 = .ok (.aload_n 0, 1) := by decide +kernel
theorem dX5_readFleet_1 : decode cX5_readFleet 1 = .ok (.iconst 0, 1) := by decide +kernel
theorem dX5_readFleet_2 : decode cX5_readFleet 2 = .ok (.putfield 19, 3) := by decide +kernel
theorem dX5_readFleet_5 : decode cX5_readFleet 5 = .ok (.aload_n 1, 1) := by decide +kernel
theorem dX5_readFleet_6 : decode cX5_readFleet 6 = .ok (.invokevirtual 22, 3) := by decide +kernel
theorem dX5_readFleet_9 : decode cX5_readFleet 9 = .ok (.aload_n 0, 1) := by decide +kernel
theorem dX5_readFleet_10 : decode cX5_readFleet 10 = .ok (.bipush 102, 2) := by decide +kernel
theorem dX5_readFleet_12 : decode cX5_readFleet 12 = .ok (.invokevirtual 27, 3) := by decide +kernel
theorem dX5_readFleet_15 : decode cX5_readFleet 15 = .ok (.ifCond .eq 45, 3) := by decide +kernel
theorem dX5_readFleet_18 : decode cX5_readFleet 18 = .ok (.aload_n 0, 1) := by decide +kernel
theorem dX5_readFleet_19 : decode cX5_readFleet 19 = .ok (.aload_n 1, 1) := by decide +kernel
theorem dX5_readFleet_20 : decode cX5_readFleet 20 = .ok (.getfield 31, 3) := by decide +kernel
theorem dX5_readFleet_23 : decode cX5_readFleet 23 = .ok (.invokevirtual 35, 3) := by decide +kernel
theorem dX5_readFleet_26 : decode cX5_readFleet 26 = .ok (.ifCond .eq 34, 3) := by decide +kernel
theorem dX5_readFleet_29 : decode cX5_readFleet 29 = .ok (.aload_n 0, 1) := by decide +kernel
theorem dX5_readFleet_30 : decode cX5_readFleet 30 = .ok (.aload_n 1, 1) := by decide +kernel
theorem dX5_readFleet_31 : decode cX5_readFleet 31 = .ok (.invokevirtual 39, 3) := by decide +kernel
theorem dX5_readFleet_34 : decode cX5_readFleet 34 = .ok (.ifCond .eq 26, 3) := by decide +kernel
theorem dX5_readFleet_37 : decode cX5_readFleet 37 = .ok (.aload_n 0, 1) := by decide +kernel
theorem dX5_readFleet_38 : decode cX5_readFleet 38 = .ok (.aload_n 1, 1) := by decide +kernel
theorem dX5_readFleet_39 : decode cX5_readFleet 39 = .ok (.invokevirtual 43, 3) := by decide +kernel
theorem dX5_readFleet_42 : decode cX5_readFleet 42 = .ok (.ifCond .eq 18, 3) := by decide +kernel
theorem dX5_readFleet_45 : decode cX5_readFleet 45 = .ok (.aload_n 0, 1) := by decide +kernel
theorem dX5_readFleet_46 : decode cX5_readFleet 46 = .ok (.getfield 19, 3) := by decide +kernel
theorem dX5_readFleet_49 : decode cX5_readFleet 49 = .ok (.aload_n 0, 1) := by decide +kernel
theorem dX5_readFleet_50 : decode cX5_readFleet 50 = .ok (.getfield 15, 3) := by decide +kernel
theorem dX5_readFleet_53 : decode cX5_readFleet 53 = .ok (.if_icmp .ne 7, 3) := by decide +kernel
theorem dX5_readFleet_56 : decode cX5_readFleet 56 = .ok (.iconst 1, 1) := by decide +kernel
theorem dX5_readFleet_57 : decode cX5_readFleet 57 = .ok (.goto 4, 3) := by decide +kernel
theorem dX5_readFleet_60 : decode cX5_readFleet 60 = .ok (.iconst 0, 1) := by decide +kernel
theorem dX5_readFleet_61 : decode cX5_readFleet 61 = .ok (.ireturn, 1) := by decide +kernel
theorem dX5_here_0 : decode cX5_here 0 = .ok (.aload_n 0, 1) := by decide +kernel
theorem dX5_here_1 : decode cX5_here 1 = .ok (.getfield 19, 3) := by decide +kernel
theorem dX5_here_4 : decode cX5_here 4 = .ok (.ifCond .lt 36, 3) := by decide +kernel
theorem dX5_here_7 : decode cX5_here 7 = .ok (.aload_n 0, 1) := by decide +kernel
theorem dX5_here_8 : decode cX5_here 8 = .ok (.getfield 19, 3) := by decide +kernel
theorem dX5_here_11 : decode cX5_here 11 = .ok (.aload_n 0, 1) := by decide +kernel
theorem dX5_here_12 : decode cX5_here 12 = .ok (.getfield 15, 3) := by decide +kernel
theorem dX5_here_15 : decode cX5_here 15 = .ok (.if_icmp .ge 25, 3) := by decide +kernel
theorem dX5_here_18 : decode cX5_here 18 = .ok (.aload_n 0, 1) := by decide +kernel
theorem dX5_here_19 : decode cX5_here 19 = .ok (.getfield 19, 3) := by decide +kernel
theorem dX5_here_22 : decode cX5_here 22 = .ok (.sipush 130, 3) := by decide +kernel
theorem dX5_here_25 : decode cX5_here 25 = .ok (.if_icmp .ge 15, 3) := by decide +kernel
theorem dX5_here_28 : decode cX5_here 28 = .ok (.aload_n 0, 1) := by decide +kernel
theorem dX5_here_29 : decode cX5_here 29 = .ok (.getfield 9, 3) := by decide +kernel
theorem dX5_here_32 : decode cX5_here 32 = .ok (.aload_n 0, 1) := by decide +kernel
theorem dX5_here_33 : decode cX5_here 33 = .ok (.getfield 19, 3) := by decide +kernel
theorem dX5_here_36 : decode cX5_here 36 = .ok (.iaload, 1) := by decide +kernel
theorem dX5_here_37 : decode cX5_here 37 = .ok (.goto 4, 3) := by decide +kernel
theorem dX5_here_40 : decode cX5_here 40 = .ok (.iconst (-1), 1) := by decide +kernel
theorem dX5_here_41 : decode cX5_here 41 = .ok (.ireturn, 1) := by decide +kernel
theorem dX5_takes_0 : decode cX5_takes 0 = .ok (.aload_n 0, 1) := by decide +kernel
theorem dX5_takes_1 : decode cX5_takes 1 = .ok (.invokevirtual 46, 3) := by decide +kernel
theorem dX5_takes_4 : decode cX5_takes 4 = .ok (.iload_n 1, 1) := by decide +kernel
theorem dX5_takes_5 : decode cX5_takes 5 = .ok (.if_icmp .eq 5, 3) := by decide +kernel
theorem dX5_takes_8 : decode cX5_takes 8 = .ok (.iconst 0, 1) := by decide +kernel
theorem dX5_takes_9 : decode cX5_takes 9 = .ok (.ireturn, 1) := by decide +kernel
theorem dX5_takes_10 : decode cX5_takes 10 = .ok (.aload_n 0, 1) := by decide +kernel
theorem dX5_takes_11 : decode cX5_takes 11 = .ok (.dup, 1) := by decide +kernel
theorem dX5_takes_12 : decode cX5_takes 12 = .ok (.getfield 19, 3) := by decide +kernel
theorem dX5_takes_15 : decode cX5_takes 15 = .ok (.iconst 1, 1) := by decide +kernel
theorem dX5_takes_16 : decode cX5_takes 16 = .ok (.iadd, 1) := by decide +kernel
theorem dX5_takes_17 : decode cX5_takes 17 = .ok (.putfield 19, 3) := by decide +kernel
theorem dX5_takes_20 : decode cX5_takes 20 = .ok (.iconst 1, 1) := by decide +kernel
theorem dX5_takes_21 : decode cX5_takes 21 = .ok (.ireturn, 1) := by decide +kernel
theorem dX5_oneOf_0 : decode cX5_oneOf 0 = .ok (.aload_n 0, 1) := by decide +kernel
theorem dX5_oneOf_1 : decode cX5_oneOf 1 = .ok (.invokevirtual 46, 3) := by decide +kernel
theorem dX5_oneOf_4 : decode cX5_oneOf 4 = .ok (.istore_n 2, 1) := by decide +kernel
theorem dX5_oneOf_5 : decode cX5_oneOf 5 = .ok (.iload_n 2, 1) := by decide +kernel
theorem dX5_oneOf_6 : decode cX5_oneOf 6 = .ok (.ifCond .ge 7, 3) := by decide +kernel
theorem dX5_oneOf_9 : decode cX5_oneOf 9 = .ok (.iconst (-1), 1) := by decide +kernel
theorem dX5_oneOf_10 : decode cX5_oneOf 10 = .ok (.goto 9, 3) := by decide +kernel
theorem dX5_oneOf_13 : decode cX5_oneOf 13 = .ok (.aload_n 1, 1) := by decide +kernel
theorem dX5_oneOf_14 : decode cX5_oneOf 14 = .ok (.iload_n 2, 1) := by decide +kernel
theorem dX5_oneOf_15 : decode cX5_oneOf 15 = .ok (.i2c, 1) := by decide +kernel
theorem dX5_oneOf_16 : decode cX5_oneOf 16 = .ok (.invokevirtual 50, 3) := by decide +kernel
theorem dX5_oneOf_19 : decode cX5_oneOf 19 = .ok (.ireturn, 1) := by decide +kernel
theorem dX5_figureBelow_0 : decode cX5_figureBelow 0 = .ok (.aload_n 0, 1) := by decide +kernel
theorem dX5_figureBelow_1 : decode cX5_figureBelow 1 = .ok (.invokevirtual 46, 3) := by decide +kernel
theorem dX5_figureBelow_4 : decode cX5_figureBelow 4 = .ok (.bipush 48, 2) := by decide +kernel
theorem dX5_figureBelow_6 : decode cX5_figureBelow 6 = .ok (.isub, 1) := by decide +kernel
theorem dX5_figureBelow_7 : decode cX5_figureBelow 7 = .ok (.istore_n 2, 1) := by decide +kernel
theorem dX5_figureBelow_8 : decode cX5_figureBelow 8 = .ok (.iload_n 2, 1) := by decide +kernel
theorem dX5_figureBelow_9 : decode cX5_figureBelow 9 = .ok (.ifCond .lt 12, 3) := by decide +kernel
theorem dX5_figureBelow_12 : decode cX5_figureBelow 12 = .ok (.iload_n 2, 1) := by decide +kernel
theorem dX5_figureBelow_13 : decode cX5_figureBelow 13 = .ok (.iload_n 1, 1) := by decide +kernel
theorem dX5_figureBelow_14 : decode cX5_figureBelow 14 = .ok (.if_icmp .ge 7, 3) := by decide +kernel
theorem dX5_figureBelow_17 : decode cX5_figureBelow 17 = .ok (.iload_n 2, 1) := by decide +kernel
theorem dX5_figureBelow_18 : decode cX5_figureBelow 18 = .ok (.goto 4, 3) := by decide +kernel
theorem dX5_figureBelow_21 : decode cX5_figureBelow 21 = .ok (.iconst (-1), 1) := by decide +kernel
theorem dX5_figureBelow_22 : decode cX5_figureBelow 22 = .ok (.ireturn, 1) := by decide +kernel
theorem dX5_readSea_0 : decode cX5_readSea 0 = .ok (.iconst 0, 1) := by decide +kernel
theorem dX5_readSea_1 : decode cX5_readSea 1 = .ok (.istore_n 2, 1) := by decide +kernel
theorem dX5_readSea_2 : decode cX5_readSea 2 = .ok (.iload_n 2, 1) := by decide +kernel
theorem dX5_readSea_3 : decode cX5_readSea 3 = .ok (.bipush 6, 2) := by decide +kernel
theorem dX5_readSea_5 : decode cX5_readSea 5 = .ok (.if_icmp .ge 57, 3) := by decide +kernel
theorem dX5_readSea_8 : decode cX5_readSea 8 = .ok (.aload_n 0, 1) := by decide +kernel
theorem dX5_readSea_9 : decode cX5_readSea 9 = .ok (.aload_n 1, 1) := by decide +kernel
theorem dX5_readSea_10 : decode cX5_readSea 10 = .ok (.iload_n 2, 1) := by decide +kernel
theorem dX5_readSea_11 : decode cX5_readSea 11 = .ok (.invokevirtual 56, 3) := by decide +kernel
theorem dX5_readSea_14 : decode cX5_readSea 14 = .ok (.ifCond .ne 5, 3) := by decide +kernel
theorem dX5_readSea_17 : decode cX5_readSea 17 = .ok (.iconst 0, 1) := by decide +kernel
theorem dX5_readSea_18 : decode cX5_readSea 18 = .ok (.ireturn, 1) := by decide +kernel
theorem dX5_readSea_19 : decode cX5_readSea 19 = .ok (.aload_n 1, 1) := by decide +kernel
theorem dX5_readSea_20 : decode cX5_readSea 20 = .ok (.iload_n 2, 1) := by decide +kernel
theorem dX5_readSea_21 : decode cX5_readSea 21 = .ok (.iconst 1, 1) := by decide +kernel
theorem dX5_readSea_22 : decode cX5_readSea 22 = .ok (.iadd, 1) := by decide +kernel
theorem dX5_readSea_23 : decode cX5_readSea 23 = .ok (.putfield 60, 3) := by decide +kernel
theorem dX5_readSea_26 : decode cX5_readSea 26 = .ok (.aload_n 0, 1) := by decide +kernel
theorem dX5_readSea_27 : decode cX5_readSea 27 = .ok (.bipush 59, 2) := by decide +kernel
theorem dX5_readSea_29 : decode cX5_readSea 29 = .ok (.invokevirtual 27, 3) := by decide +kernel
theorem dX5_readSea_32 : decode cX5_readSea 32 = .ok (.ifCond .eq 5, 3) := by decide +kernel
theorem dX5_readSea_35 : decode cX5_readSea 35 = .ok (.iconst 1, 1) := by decide +kernel
theorem dX5_readSea_36 : decode cX5_readSea 36 = .ok (.ireturn, 1) := by decide +kernel
theorem dX5_readSea_37 : decode cX5_readSea 37 = .ok (.iload_n 2, 1) := by decide +kernel
theorem dX5_readSea_38 : decode cX5_readSea 38 = .ok (.iconst 1, 1) := by decide +kernel
theorem dX5_readSea_39 : decode cX5_readSea 39 = .ok (.iadd, 1) := by decide +kernel
theorem dX5_readSea_40 : decode cX5_readSea 40 = .ok (.bipush 6, 2) := by decide +kernel
theorem dX5_readSea_42 : decode cX5_readSea 42 = .ok (.if_icmp .ge 12, 3) := by decide +kernel
theorem dX5_readSea_45 : decode cX5_readSea 45 = .ok (.aload_n 0, 1) := by decide +kernel
theorem dX5_readSea_46 : decode cX5_readSea 46 = .ok (.bipush 47, 2) := by decide +kernel
theorem dX5_readSea_48 : decode cX5_readSea 48 = .ok (.invokevirtual 27, 3) := by decide +kernel
theorem dX5_readSea_51 : decode cX5_readSea 51 = .ok (.ifCond .ne 5, 3) := by decide +kernel
theorem dX5_readSea_54 : decode cX5_readSea 54 = .ok (.iconst 0, 1) := by decide +kernel
theorem dX5_readSea_55 : decode cX5_readSea 55 = .ok (.ireturn, 1) := by decide +kernel
theorem dX5_readSea_56 : decode cX5_readSea 56 = .ok (.iinc 2 1, 3) := by decide +kernel
theorem dX5_readSea_59 : decode cX5_readSea 59 = .ok (.goto (-57), 3) := by decide +kernel
theorem dX5_readSea_62 : decode cX5_readSea 62 = .ok (.iconst 0, 1) := by decide +kernel
theorem dX5_readSea_63 : decode cX5_readSea 63 = .ok (.ireturn, 1) := by decide +kernel
theorem dX5_readRow_0 : decode cX5_readRow 0 = .ok (.iload_n 2, 1) := by decide +kernel
theorem dX5_readRow_1 : decode cX5_readRow 1 = .ok (.ifCond .ne 8, 3) := by decide +kernel
theorem dX5_readRow_4 : decode cX5_readRow 4 = .ok (.bipush 8, 2) := by decide +kernel
theorem dX5_readRow_6 : decode cX5_readRow 6 = .ok (.goto 7, 3) := by decide +kernel
theorem dX5_readRow_9 : decode cX5_readRow 9 = .ok (.aload_n 1, 1) := by decide +kernel
theorem dX5_readRow_10 : decode cX5_readRow 10 = .ok (.getfield 65, 3) := by decide +kernel
theorem dX5_readRow_13 : decode cX5_readRow 13 = .ok (.istore_n 3, 1) := by decide +kernel
theorem dX5_readRow_14 : decode cX5_readRow 14 = .ok (.iconst 0, 1) := by decide +kernel
theorem dX5_readRow_15 : decode cX5_readRow 15 = .ok (.istore 4, 2) := by decide +kernel
theorem dX5_readRow_17 : decode cX5_readRow 17 = .ok (.iload 4, 2) := by decide +kernel
theorem dX5_readRow_19 : decode cX5_readRow 19 = .ok (.iload_n 3, 1) := by decide +kernel
theorem dX5_readRow_20 : decode cX5_readRow 20 = .ok (.if_icmp .ge 45, 3) := by decide +kernel
theorem dX5_readRow_23 : decode cX5_readRow 23 = .ok (.aload_n 0, 1) := by decide +kernel
theorem dX5_readRow_24 : decode cX5_readRow 24 = .ok (.ldc 68, 2) := by decide +kernel
theorem dX5_readRow_26 : decode cX5_readRow 26 = .ok (.invokevirtual 70, 3) := by decide +kernel
theorem dX5_readRow_29 : decode cX5_readRow 29 = .ok (.ifCond .lt 36, 3) := by decide +kernel
theorem dX5_readRow_32 : decode cX5_readRow 32 = .ok (.aload_n 1, 1) := by decide +kernel
theorem dX5_readRow_33 : decode cX5_readRow 33 = .ok (.getfield 74, 3) := by decide +kernel
theorem dX5_readRow_36 : decode cX5_readRow 36 = .ok (.iload_n 2, 1) := by decide +kernel
theorem dX5_readRow_37 : decode cX5_readRow 37 = .ok (.iload 4, 2) := by decide +kernel
theorem dX5_readRow_39 : decode cX5_readRow 39 = .ok (.invokestatic 77, 3) := by decide +kernel
theorem dX5_readRow_42 : decode cX5_readRow 42 = .ok (.aload_n 0, 1) := by decide +kernel
theorem dX5_readRow_43 : decode cX5_readRow 43 = .ok (.ldc 68, 2) := by decide +kernel
theorem dX5_readRow_45 : decode cX5_readRow 45 = .ok (.invokevirtual 70, 3) := by decide +kernel
theorem dX5_readRow_48 : decode cX5_readRow 48 = .ok (.iastore, 1) := by decide +kernel
theorem dX5_readRow_49 : decode cX5_readRow 49 = .ok (.iinc 4 1, 3) := by decide +kernel
theorem dX5_readRow_52 : decode cX5_readRow 52 = .ok (.aload_n 0, 1) := by decide +kernel
theorem dX5_readRow_53 : decode cX5_readRow 53 = .ok (.dup, 1) := by decide +kernel
theorem dX5_readRow_54 : decode cX5_readRow 54 = .ok (.getfield 19, 3) := by decide +kernel
theorem dX5_readRow_57 : decode cX5_readRow 57 = .ok (.iconst 1, 1) := by decide +kernel
theorem dX5_readRow_58 : decode cX5_readRow 58 = .ok (.iadd, 1) := by decide +kernel
theorem dX5_readRow_59 : decode cX5_readRow 59 = .ok (.putfield 19, 3) := by decide +kernel
theorem dX5_readRow_62 : decode cX5_readRow 62 = .ok (.goto (-45), 3) := by decide +kernel
theorem dX5_readRow_65 : decode cX5_readRow 65 = .ok (.iload_n 2, 1) := by decide +kernel
theorem dX5_readRow_66 : decode cX5_readRow 66 = .ok (.ifCond .ne 9, 3) := by decide +kernel
theorem dX5_readRow_69 : decode cX5_readRow 69 = .ok (.aload_n 1, 1) := by decide +kernel
theorem dX5_readRow_70 : decode cX5_readRow 70 = .ok (.iload 4, 2) := by decide +kernel
theorem dX5_readRow_72 : decode cX5_readRow 72 = .ok (.putfield 65, 3) := by decide +kernel
theorem dX5_readRow_75 : decode cX5_readRow 75 = .ok (.iload 4, 2) := by decide +kernel
theorem dX5_readRow_77 : decode cX5_readRow 77 = .ok (.ifCond .le 16, 3) := by decide +kernel
theorem dX5_readRow_80 : decode cX5_readRow 80 = .ok (.iload 4, 2) := by decide +kernel
theorem dX5_readRow_82 : decode cX5_readRow 82 = .ok (.aload_n 1, 1) := by decide +kernel
theorem dX5_readRow_83 : decode cX5_readRow 83 = .ok (.getfield 65, 3) := by decide +kernel
theorem dX5_readRow_86 : decode cX5_readRow 86 = .ok (.if_icmp .ne 7, 3) := by decide +kernel
theorem dX5_readRow_89 : decode cX5_readRow 89 = .ok (.iconst 1, 1) := by decide +kernel
theorem dX5_readRow_90 : decode cX5_readRow 90 = .ok (.goto 4, 3) := by decide +kernel
theorem dX5_readRow_93 : decode cX5_readRow 93 = .ok (.iconst 0, 1) := by decide +kernel
theorem dX5_readRow_94 : decode cX5_readRow 94 = .ok (.ireturn, 1) := by decide +kernel
theorem dX5_readShips_0 : decode cX5_readShips 0 = .ok (.iconst 0, 1) := by decide +kernel
theorem dX5_readShips_1 : decode cX5_readShips 1 = .ok (.istore_n 2, 1) := by decide +kernel
theorem dX5_readShips_2 : decode cX5_readShips 2 = .ok (.iload_n 2, 1) := by decide +kernel
theorem dX5_readShips_3 : decode cX5_readShips 3 = .ok (.bipush 6, 2) := by decide +kernel
theorem dX5_readShips_5 : decode cX5_readShips 5 = .ok (.if_icmp .ge 57, 3) := by decide +kernel
theorem dX5_readShips_8 : decode cX5_readShips 8 = .ok (.aload_n 0, 1) := by decide +kernel
theorem dX5_readShips_9 : decode cX5_readShips 9 = .ok (.aload_n 1, 1) := by decide +kernel
theorem dX5_readShips_10 : decode cX5_readShips 10 = .ok (.iload_n 2, 1) := by decide +kernel
theorem dX5_readShips_11 : decode cX5_readShips 11 = .ok (.invokevirtual 81, 3) := by decide +kernel
theorem dX5_readShips_14 : decode cX5_readShips 14 = .ok (.ifCond .ne 5, 3) := by decide +kernel
theorem dX5_readShips_17 : decode cX5_readShips 17 = .ok (.iconst 0, 1) := by decide +kernel
theorem dX5_readShips_18 : decode cX5_readShips 18 = .ok (.ireturn, 1) := by decide +kernel
theorem dX5_readShips_19 : decode cX5_readShips 19 = .ok (.aload_n 1, 1) := by decide +kernel
theorem dX5_readShips_20 : decode cX5_readShips 20 = .ok (.iload_n 2, 1) := by decide +kernel
theorem dX5_readShips_21 : decode cX5_readShips 21 = .ok (.iconst 1, 1) := by decide +kernel
theorem dX5_readShips_22 : decode cX5_readShips 22 = .ok (.iadd, 1) := by decide +kernel
theorem dX5_readShips_23 : decode cX5_readShips 23 = .ok (.putfield 85, 3) := by decide +kernel
theorem dX5_readShips_26 : decode cX5_readShips 26 = .ok (.aload_n 0, 1) := by decide +kernel
theorem dX5_readShips_27 : decode cX5_readShips 27 = .ok (.bipush 59, 2) := by decide +kernel
theorem dX5_readShips_29 : decode cX5_readShips 29 = .ok (.invokevirtual 27, 3) := by decide +kernel
theorem dX5_readShips_32 : decode cX5_readShips 32 = .ok (.ifCond .eq 5, 3) := by decide +kernel
theorem dX5_readShips_35 : decode cX5_readShips 35 = .ok (.iconst 1, 1) := by decide +kernel
theorem dX5_readShips_36 : decode cX5_readShips 36 = .ok (.ireturn, 1) := by decide +kernel
theorem dX5_readShips_37 : decode cX5_readShips 37 = .ok (.iload_n 2, 1) := by decide +kernel
theorem dX5_readShips_38 : decode cX5_readShips 38 = .ok (.iconst 1, 1) := by decide +kernel
theorem dX5_readShips_39 : decode cX5_readShips 39 = .ok (.iadd, 1) := by decide +kernel
theorem dX5_readShips_40 : decode cX5_readShips 40 = .ok (.bipush 6, 2) := by decide +kernel
theorem dX5_readShips_42 : decode cX5_readShips 42 = .ok (.if_icmp .ge 12, 3) := by decide +kernel
theorem dX5_readShips_45 : decode cX5_readShips 45 = .ok (.aload_n 0, 1) := by decide +kernel
theorem dX5_readShips_46 : decode cX5_readShips 46 = .ok (.bipush 44, 2) := by decide +kernel
theorem dX5_readShips_48 : decode cX5_readShips 48 = .ok (.invokevirtual 27, 3) := by decide +kernel
theorem dX5_readShips_51 : decode cX5_readShips 51 = .ok (.ifCond .ne 5, 3) := by decide +kernel
theorem dX5_readShips_54 : decode cX5_readShips 54 = .ok (.iconst 0, 1) := by decide +kernel
theorem dX5_readShips_55 : decode cX5_readShips 55 = .ok (.ireturn, 1) := by decide +kernel
theorem dX5_readShips_56 : decode cX5_readShips 56 = .ok (.iinc 2 1, 3) := by decide +kernel
theorem dX5_readShips_59 : decode cX5_readShips 59 = .ok (.goto (-57), 3) := by decide +kernel
theorem dX5_readShips_62 : decode cX5_readShips 62 = .ok (.iconst 0, 1) := by decide +kernel
theorem dX5_readShips_63 : decode cX5_readShips 63 = .ok (.ireturn, 1) := by decide +kernel
theorem dX5_readShip_0 : decode cX5_readShip 0 = .ok (.aload_n 0, 1) := by decide +kernel
theorem dX5_readShip_1 : decode cX5_readShip 1 = .ok (.ldc 88, 2) := by decide +kernel
theorem dX5_readShip_3 : decode cX5_readShip 3 = .ok (.invokevirtual 70, 3) := by decide +kernel
theorem dX5_readShip_6 : decode cX5_readShip 6 = .ok (.istore_n 3, 1) := by decide +kernel
theorem dX5_readShip_7 : decode cX5_readShip 7 = .ok (.iload_n 3, 1) := by decide +kernel
theorem dX5_readShip_8 : decode cX5_readShip 8 = .ok (.ifCond .ge 5, 3) := by decide +kernel
theorem dX5_readShip_11 : decode cX5_readShip 11 = .ok (.iconst 0, 1) := by decide +kernel
theorem dX5_readShip_12 : decode cX5_readShip 12 = .ok (.ireturn, 1) := by decide +kernel
theorem dX5_readShip_13 : decode cX5_readShip 13 = .ok (.aload_n 0, 1) := by decide +kernel
theorem dX5_readShip_14 : decode cX5_readShip 14 = .ok (.dup, 1) := by decide +kernel
theorem dX5_readShip_15 : decode cX5_readShip 15 = .ok (.getfield 19, 3) := by decide +kernel
theorem dX5_readShip_18 : decode cX5_readShip 18 = .ok (.iconst 1, 1) := by decide +kernel
theorem dX5_readShip_19 : decode cX5_readShip 19 = .ok (.iadd, 1) := by decide +kernel
theorem dX5_readShip_20 : decode cX5_readShip 20 = .ok (.putfield 19, 3) := by decide +kernel
theorem dX5_readShip_23 : decode cX5_readShip 23 = .ok (.aload_n 1, 1) := by decide +kernel
theorem dX5_readShip_24 : decode cX5_readShip 24 = .ok (.getfield 90, 3) := by decide +kernel
theorem dX5_readShip_27 : decode cX5_readShip 27 = .ok (.iload_n 2, 1) := by decide +kernel
theorem dX5_readShip_28 : decode cX5_readShip 28 = .ok (.iconst 1, 1) := by decide +kernel
theorem dX5_readShip_29 : decode cX5_readShip 29 = .ok (.iload_n 3, 1) := by decide +kernel
theorem dX5_readShip_30 : decode cX5_readShip 30 = .ok (.iadd, 1) := by decide +kernel
theorem dX5_readShip_31 : decode cX5_readShip 31 = .ok (.iastore, 1) := by decide +kernel
theorem dX5_readShip_32 : decode cX5_readShip 32 = .ok (.aload_n 0, 1) := by decide +kernel
theorem dX5_readShip_33 : decode cX5_readShip 33 = .ok (.aload_n 1, 1) := by decide +kernel
theorem dX5_readShip_34 : decode cX5_readShip 34 = .ok (.iload_n 2, 1) := by decide +kernel
theorem dX5_readShip_35 : decode cX5_readShip 35 = .ok (.invokevirtual 93, 3) := by decide +kernel
theorem dX5_readShip_38 : decode cX5_readShip 38 = .ok (.ifCond .ne 5, 3) := by decide +kernel
theorem dX5_readShip_41 : decode cX5_readShip 41 = .ok (.iconst 0, 1) := by decide +kernel
theorem dX5_readShip_42 : decode cX5_readShip 42 = .ok (.ireturn, 1) := by decide +kernel
theorem dX5_readShip_43 : decode cX5_readShip 43 = .ok (.aload_n 0, 1) := by decide +kernel
theorem dX5_readShip_44 : decode cX5_readShip 44 = .ok (.ldc 96, 2) := by decide +kernel
theorem dX5_readShip_46 : decode cX5_readShip 46 = .ok (.invokevirtual 70, 3) := by decide +kernel
theorem dX5_readShip_49 : decode cX5_readShip 49 = .ok (.istore 4, 2) := by decide +kernel
theorem dX5_readShip_51 : decode cX5_readShip 51 = .ok (.iload 4, 2) := by decide +kernel
theorem dX5_readShip_53 : decode cX5_readShip 53 = .ok (.ifCond .ge 5, 3) := by decide +kernel
theorem dX5_readShip_56 : decode cX5_readShip 56 = .ok (.iconst 0, 1) := by decide +kernel
theorem dX5_readShip_57 : decode cX5_readShip 57 = .ok (.ireturn, 1) := by decide +kernel
theorem dX5_readShip_58 : decode cX5_readShip 58 = .ok (.aload_n 0, 1) := by decide +kernel
theorem dX5_readShip_59 : decode cX5_readShip 59 = .ok (.dup, 1) := by decide +kernel
theorem dX5_readShip_60 : decode cX5_readShip 60 = .ok (.getfield 19, 3) := by decide +kernel
theorem dX5_readShip_63 : decode cX5_readShip 63 = .ok (.iconst 1, 1) := by decide +kernel
theorem dX5_readShip_64 : decode cX5_readShip 64 = .ok (.iadd, 1) := by decide +kernel
theorem dX5_readShip_65 : decode cX5_readShip 65 = .ok (.putfield 19, 3) := by decide +kernel
theorem dX5_readShip_68 : decode cX5_readShip 68 = .ok (.aload_n 1, 1) := by decide +kernel
theorem dX5_readShip_69 : decode cX5_readShip 69 = .ok (.getfield 98, 3) := by decide +kernel
theorem dX5_readShip_72 : decode cX5_readShip 72 = .ok (.iload_n 2, 1) := by decide +kernel
theorem dX5_readShip_73 : decode cX5_readShip 73 = .ok (.iload 4, 2) := by decide +kernel
theorem dX5_readShip_75 : decode cX5_readShip 75 = .ok (.iastore, 1) := by decide +kernel
theorem dX5_readShip_76 : decode cX5_readShip 76 = .ok (.aload_n 0, 1) := by decide +kernel
theorem dX5_readShip_77 : decode cX5_readShip 77 = .ok (.bipush 6, 2) := by decide +kernel
theorem dX5_readShip_79 : decode cX5_readShip 79 = .ok (.invokevirtual 101, 3) := by decide +kernel
theorem dX5_readShip_82 : decode cX5_readShip 82 = .ok (.istore 5, 2) := by decide +kernel
theorem dX5_readShip_84 : decode cX5_readShip 84 = .ok (.iload 5, 2) := by decide +kernel
theorem dX5_readShip_86 : decode cX5_readShip 86 = .ok (.ifCond .ge 5, 3) := by decide +kernel
theorem dX5_readShip_89 : decode cX5_readShip 89 = .ok (.iconst 0, 1) := by decide +kernel
theorem dX5_readShip_90 : decode cX5_readShip 90 = .ok (.ireturn, 1) := by decide +kernel
theorem dX5_readShip_91 : decode cX5_readShip 91 = .ok (.aload_n 0, 1) := by decide +kernel
theorem dX5_readShip_92 : decode cX5_readShip 92 = .ok (.dup, 1) := by decide +kernel
theorem dX5_readShip_93 : decode cX5_readShip 93 = .ok (.getfield 19, 3) := by decide +kernel
theorem dX5_readShip_96 : decode cX5_readShip 96 = .ok (.iconst 1, 1) := by decide +kernel
theorem dX5_readShip_97 : decode cX5_readShip 97 = .ok (.iadd, 1) := by decide +kernel
theorem dX5_readShip_98 : decode cX5_readShip 98 = .ok (.putfield 19, 3) := by decide +kernel
theorem dX5_readShip_101 : decode cX5_readShip 101 = .ok (.aload_n 1, 1) := by decide +kernel
theorem dX5_readShip_102 : decode cX5_readShip 102 = .ok (.getfield 104, 3) := by decide +kernel
theorem dX5_readShip_105 : decode cX5_readShip 105 = .ok (.iload_n 2, 1) := by decide +kernel
theorem dX5_readShip_106 : decode cX5_readShip 106 = .ok (.iload 5, 2) := by decide +kernel
theorem dX5_readShip_108 : decode cX5_readShip 108 = .ok (.iastore, 1) := by decide +kernel
theorem dX5_readShip_109 : decode cX5_readShip 109 = .ok (.iconst 1, 1) := by decide +kernel
theorem dX5_readShip_110 : decode cX5_readShip 110 = .ok (.ireturn, 1) := by decide +kernel
theorem dX5_readCell_0 : decode cX5_readCell 0 = .ok (.aload_n 0, 1) := by decide +kernel
theorem dX5_readCell_1 : decode cX5_readCell 1 = .ok (.aload_n 1, 1) := by decide +kernel
theorem dX5_readCell_2 : decode cX5_readCell 2 = .ok (.getfield 31, 3) := by decide +kernel
theorem dX5_readCell_5 : decode cX5_readCell 5 = .ok (.getfield 60, 3) := by decide +kernel
theorem dX5_readCell_8 : decode cX5_readCell 8 = .ok (.invokevirtual 101, 3) := by decide +kernel
theorem dX5_readCell_11 : decode cX5_readCell 11 = .ok (.istore_n 3, 1) := by decide +kernel
theorem dX5_readCell_12 : decode cX5_readCell 12 = .ok (.iload_n 3, 1) := by decide +kernel
theorem dX5_readCell_13 : decode cX5_readCell 13 = .ok (.ifCond .ge 5, 3) := by decide +kernel
theorem dX5_readCell_16 : decode cX5_readCell 16 = .ok (.iconst 0, 1) := by decide +kernel
theorem dX5_readCell_17 : decode cX5_readCell 17 = .ok (.ireturn, 1) := by decide +kernel
theorem dX5_readCell_18 : decode cX5_readCell 18 = .ok (.aload_n 0, 1) := by decide +kernel
theorem dX5_readCell_19 : decode cX5_readCell 19 = .ok (.dup, 1) := by decide +kernel
theorem dX5_readCell_20 : decode cX5_readCell 20 = .ok (.getfield 19, 3) := by decide +kernel
theorem dX5_readCell_23 : decode cX5_readCell 23 = .ok (.iconst 1, 1) := by decide +kernel
theorem dX5_readCell_24 : decode cX5_readCell 24 = .ok (.iadd, 1) := by decide +kernel
theorem dX5_readCell_25 : decode cX5_readCell 25 = .ok (.putfield 19, 3) := by decide +kernel
theorem dX5_readCell_28 : decode cX5_readCell 28 = .ok (.aload_n 0, 1) := by decide +kernel
theorem dX5_readCell_29 : decode cX5_readCell 29 = .ok (.aload_n 1, 1) := by decide +kernel
theorem dX5_readCell_30 : decode cX5_readCell 30 = .ok (.getfield 31, 3) := by decide +kernel
theorem dX5_readCell_33 : decode cX5_readCell 33 = .ok (.getfield 65, 3) := by decide +kernel
theorem dX5_readCell_36 : decode cX5_readCell 36 = .ok (.invokevirtual 101, 3) := by decide +kernel
theorem dX5_readCell_39 : decode cX5_readCell 39 = .ok (.istore 4, 2) := by decide +kernel
theorem dX5_readCell_41 : decode cX5_readCell 41 = .ok (.iload 4, 2) := by decide +kernel
theorem dX5_readCell_43 : decode cX5_readCell 43 = .ok (.ifCond .lt 20, 3) := by decide +kernel
theorem dX5_readCell_46 : decode cX5_readCell 46 = .ok (.aload_n 1, 1) := by decide +kernel
theorem dX5_readCell_47 : decode cX5_readCell 47 = .ok (.getfield 31, 3) := by decide +kernel
theorem dX5_readCell_50 : decode cX5_readCell 50 = .ok (.iload_n 3, 1) := by decide +kernel
theorem dX5_readCell_51 : decode cX5_readCell 51 = .ok (.iload 4, 2) := by decide +kernel
theorem dX5_readCell_53 : decode cX5_readCell 53 = .ok (.invokestatic 77, 3) := by decide +kernel
theorem dX5_readCell_56 : decode cX5_readCell 56 = .ok (.invokevirtual 107, 3) := by decide +kernel
theorem dX5_readCell_59 : decode cX5_readCell 59 = .ok (.iconst 1, 1) := by decide +kernel
theorem dX5_readCell_60 : decode cX5_readCell 60 = .ok (.if_icmp .ne 5, 3) := by decide +kernel
theorem dX5_readCell_63 : decode cX5_readCell 63 = .ok (.iconst 0, 1) := by decide +kernel
theorem dX5_readCell_64 : decode cX5_readCell 64 = .ok (.ireturn, 1) := by decide +kernel
theorem dX5_readCell_65 : decode cX5_readCell 65 = .ok (.aload_n 0, 1) := by decide +kernel
theorem dX5_readCell_66 : decode cX5_readCell 66 = .ok (.dup, 1) := by decide +kernel
theorem dX5_readCell_67 : decode cX5_readCell 67 = .ok (.getfield 19, 3) := by decide +kernel
theorem dX5_readCell_70 : decode cX5_readCell 70 = .ok (.iconst 1, 1) := by decide +kernel
theorem dX5_readCell_71 : decode cX5_readCell 71 = .ok (.iadd, 1) := by decide +kernel
theorem dX5_readCell_72 : decode cX5_readCell 72 = .ok (.putfield 19, 3) := by decide +kernel
theorem dX5_readCell_75 : decode cX5_readCell 75 = .ok (.aload_n 1, 1) := by decide +kernel
theorem dX5_readCell_76 : decode cX5_readCell 76 = .ok (.getfield 110, 3) := by decide +kernel
theorem dX5_readCell_79 : decode cX5_readCell 79 = .ok (.iload_n 2, 1) := by decide +kernel
theorem dX5_readCell_80 : decode cX5_readCell 80 = .ok (.iload_n 3, 1) := by decide +kernel
theorem dX5_readCell_81 : decode cX5_readCell 81 = .ok (.iload 4, 2) := by decide +kernel
theorem dX5_readCell_83 : decode cX5_readCell 83 = .ok (.invokestatic 77, 3) := by decide +kernel
theorem dX5_readCell_86 : decode cX5_readCell 86 = .ok (.iastore, 1) := by decide +kernel
theorem dX5_readCell_87 : decode cX5_readCell 87 = .ok (.iconst 1, 1) := by decide +kernel
theorem dX5_readCell_88 : decode cX5_readCell 88 = .ok (.ireturn, 1) := by decide +kernel
theorem dX5_readCredit_0 : decode cX5_readCredit 0 = .ok (.iconst 0, 1) := by decide +kernel
theorem dX5_readCredit_1 : decode cX5_readCredit 1 = .ok (.istore_n 2, 1) := by decide +kernel
theorem dX5_readCredit_2 : decode cX5_readCredit 2 = .ok (.iload_n 2, 1) := by decide +kernel
theorem dX5_readCredit_3 : decode cX5_readCredit 3 = .ok (.iconst 4, 1) := by decide +kernel
theorem dX5_readCredit_4 : decode cX5_readCredit 4 = .ok (.if_icmp .ge 39, 3) := by decide +kernel
theorem dX5_readCredit_7 : decode cX5_readCredit 7 = .ok (.aload_n 0, 1) := by decide +kernel
theorem dX5_readCredit_8 : decode cX5_readCredit 8 = .ok (.bipush 10, 2) := by decide +kernel
theorem dX5_readCredit_10 : decode cX5_readCredit 10 = .ok (.invokevirtual 101, 3) := by decide +kernel
theorem dX5_readCredit_13 : decode cX5_readCredit 13 = .ok (.istore_n 3, 1) := by decide +kernel
theorem dX5_readCredit_14 : decode cX5_readCredit 14 = .ok (.iload_n 3, 1) := by decide +kernel
theorem dX5_readCredit_15 : decode cX5_readCredit 15 = .ok (.ifCond .ge 5, 3) := by decide +kernel
theorem dX5_readCredit_18 : decode cX5_readCredit 18 = .ok (.iconst 0, 1) := by decide +kernel
theorem dX5_readCredit_19 : decode cX5_readCredit 19 = .ok (.ireturn, 1) := by decide +kernel
theorem dX5_readCredit_20 : decode cX5_readCredit 20 = .ok (.aload_n 0, 1) := by decide +kernel
theorem dX5_readCredit_21 : decode cX5_readCredit 21 = .ok (.dup, 1) := by decide +kernel
theorem dX5_readCredit_22 : decode cX5_readCredit 22 = .ok (.getfield 19, 3) := by decide +kernel
theorem dX5_readCredit_25 : decode cX5_readCredit 25 = .ok (.iconst 1, 1) := by decide +kernel
theorem dX5_readCredit_26 : decode cX5_readCredit 26 = .ok (.iadd, 1) := by decide +kernel
theorem dX5_readCredit_27 : decode cX5_readCredit 27 = .ok (.putfield 19, 3) := by decide +kernel
theorem dX5_readCredit_30 : decode cX5_readCredit 30 = .ok (.aload_n 1, 1) := by decide +kernel
theorem dX5_readCredit_31 : decode cX5_readCredit 31 = .ok (.getfield 113, 3) := by decide +kernel
theorem dX5_readCredit_34 : decode cX5_readCredit 34 = .ok (.iload_n 2, 1) := by decide +kernel
theorem dX5_readCredit_35 : decode cX5_readCredit 35 = .ok (.iload_n 3, 1) := by decide +kernel
theorem dX5_readCredit_36 : decode cX5_readCredit 36 = .ok (.iastore, 1) := by decide +kernel
theorem dX5_readCredit_37 : decode cX5_readCredit 37 = .ok (.iinc 2 1, 3) := by decide +kernel
theorem dX5_readCredit_40 : decode cX5_readCredit 40 = .ok (.goto (-38), 3) := by decide +kernel
theorem dX5_readCredit_43 : decode cX5_readCredit 43 = .ok (.iconst 1, 1) := by decide +kernel
theorem dX5_readCredit_44 : decode cX5_readCredit 44 = .ok (.ireturn, 1) := by decide +kernel
theorem dX6_init_0 : decode cX6_init 0 = .ok (.aload_n 0, 1) := by decide +kernel
theorem dX6_init_1 : decode cX6_init 1 = .ok (.invokespecial 3, 3) := by decide +kernel
theorem dX6_init_4 : decode cX6_init 4 = .ok (.aload_n 0, 1) := by decide +kernel
theorem dX6_init_5 : decode cX6_init 5 = .ok (.iconst 4, 1) := by decide +kernel
theorem dX6_init_6 : decode cX6_init 6 = .ok (.newarray .int, 2) := by decide +kernel
theorem dX6_init_8 : decode cX6_init 8 = .ok (.putfield 9, 3) := by decide +kernel
theorem dX6_init_11 : decode cX6_init 11 = .ok (.aload_n 0, 1) := by decide +kernel
theorem dX6_init_12 : decode cX6_init 12 = .ok (.iconst 0, 1) := by decide +kernel
theorem dX6_init_13 : decode cX6_init 13 = .ok (.putfield 15, 3) := by decide +kernel
theorem dX6_init_16 : decode cX6_init 16 = .ok (.aload_n 0, 1) := by decide +kernel
theorem dX6_init_17 : decode cX6_init 17 = .ok (.iconst 0, 1) := by decide +kernel
theorem dX6_init_18 : decode cX6_init 18 = .ok (.putfield 19, 3) := by decide +kernel
theorem dX6_init_21 : decode cX6_init 21 = .ok (.aload_n 0, 1) := by decide +kernel
theorem dX6_init_22 : decode cX6_init 22 = .ok (.iconst 0, 1) := by decide +kernel
theorem dX6_init_23 : decode cX6_init 23 = .ok (.putfield 22, 3) := by decide +kernel
theorem dX6_init_26 : decode cX6_init 26 = .ok (.aload_n 0, 1) := by decide +kernel
theorem dX6_init_27 : decode cX6_init 27 = .ok (.iconst 0, 1) := by decide +kernel
theorem dX6_init_28 : decode cX6_init 28 = .ok (.putfield 25, 3) := by decide +kernel
theorem dX6_init_31 : decode cX6_init 31 = .ok (.aload_n 0, 1) := by decide +kernel
theorem dX6_init_32 : decode cX6_init 32 = .ok (.aload_n 1, 1) := by decide +kernel
theorem dX6_init_33 : decode cX6_init 33 = .ok (.putfield 28, 3) := by decide +kernel
theorem dX6_init_36 : decode cX6_init 36 = .ok (.return_, 1) := by decide +kernel
theorem dX6_board_0 : decode cX6_board 0 = .ok (.aload_n 0, 1) := by decide +kernel
theorem dX6_board_1 : decode cX6_board 1 = .ok (.aload_n 1, 1) := by decide +kernel
theorem dX6_board_2 : decode cX6_board 2 = .ok (.getfield 32, 3) := by decide +kernel
theorem dX6_board_5 : decode cX6_board 5 = .ok (.iload_n 2, 1) := by decide +kernel
theorem dX6_board_6 : decode cX6_board 6 = .ok (.iaload, 1) := by decide +kernel
theorem dX6_board_7 : decode cX6_board 7 = .ok (.putfield 15, 3) := by decide +kernel
theorem dX6_board_10 : decode cX6_board 10 = .ok (.aload_n 0, 1) := by decide +kernel
theorem dX6_board_11 : decode cX6_board 11 = .ok (.aload_n 1, 1) := by decide +kernel
theorem dX6_board_12 : decode cX6_board 12 = .ok (.getfield 36, 3) := by decide +kernel
theorem dX6_board_15 : decode cX6_board 15 = .ok (.iload_n 2, 1) := by decide +kernel
theorem dX6_board_16 : decode cX6_board 16 = .ok (.iaload, 1) := by decide +kernel
theorem dX6_board_17 : decode cX6_board 17 = .ok (.putfield 19, 3) := by decide +kernel
theorem dX6_board_20 : decode cX6_board 20 = .ok (.aload_n 0, 1) := by decide +kernel
theorem dX6_board_21 : decode cX6_board 21 = .ok (.aload_n 1, 1) := by decide +kernel
theorem dX6_board_22 : decode cX6_board 22 = .ok (.getfield 38, 3) := by decide +kernel
theorem dX6_board_25 : decode cX6_board 25 = .ok (.iload_n 2, 1) := by decide +kernel
theorem dX6_board_26 : decode cX6_board 26 = .ok (.iaload, 1) := by decide +kernel
theorem dX6_board_27 : decode cX6_board 27 = .ok (.putfield 22, 3) := by decide +kernel
theorem dX6_board_30 : decode cX6_board 30 = .ok (.aload_n 0, 1) := by decide +kernel
theorem dX6_board_31 : decode cX6_board 31 = .ok (.aload_n 1, 1) := by decide +kernel
theorem dX6_board_32 : decode cX6_board 32 = .ok (.getfield 40, 3) := by decide +kernel
theorem dX6_board_35 : decode cX6_board 35 = .ok (.iload_n 2, 1) := by decide +kernel
theorem dX6_board_36 : decode cX6_board 36 = .ok (.iaload, 1) := by decide +kernel
theorem dX6_board_37 : decode cX6_board 37 = .ok (.putfield 25, 3) := by decide +kernel
theorem dX6_board_40 : decode cX6_board 40 = .ok (.aload_n 1, 1) := by decide +kernel
theorem dX6_board_41 : decode cX6_board 41 = .ok (.getfield 42, 3) := by decide +kernel
theorem dX6_board_44 : decode cX6_board 44 = .ok (.iconst 0, 1) := by decide +kernel
theorem dX6_board_45 : decode cX6_board 45 = .ok (.aload_n 0, 1) := by decide +kernel
theorem dX6_board_46 : decode cX6_board 46 = .ok (.getfield 9, 3) := by decide +kernel
theorem dX6_board_49 : decode cX6_board 49 = .ok (.iconst 0, 1) := by decide +kernel
theorem dX6_board_50 : decode cX6_board 50 = .ok (.iconst 4, 1) := by decide +kernel
theorem dX6_board_51 : decode cX6_board 51 = .ok (.invokestatic 43, 3) := by decide +kernel
theorem dX6_board_54 : decode cX6_board 54 = .ok (.return_, 1) := by decide +kernel
theorem dX6_land_0 : decode cX6_land 0 = .ok (.aload_n 1, 1) := by decide +kernel
theorem dX6_land_1 : decode cX6_land 1 = .ok (.getfield 32, 3) := by decide +kernel
theorem dX6_land_4 : decode cX6_land 4 = .ok (.iload_n 2, 1) := by decide +kernel
theorem dX6_land_5 : decode cX6_land 5 = .ok (.aload_n 0, 1) := by decide +kernel
theorem dX6_land_6 : decode cX6_land 6 = .ok (.getfield 15, 3) := by decide +kernel
theorem dX6_land_9 : decode cX6_land 9 = .ok (.iastore, 1) := by decide +kernel
theorem dX6_land_10 : decode cX6_land 10 = .ok (.aload_n 1, 1) := by decide +kernel
theorem dX6_land_11 : decode cX6_land 11 = .ok (.getfield 36, 3) := by decide +kernel
theorem dX6_land_14 : decode cX6_land 14 = .ok (.iload_n 2, 1) := by decide +kernel
theorem dX6_land_15 : decode cX6_land 15 = .ok (.aload_n 0, 1) := by decide +kernel
theorem dX6_land_16 : decode cX6_land 16 = .ok (.getfield 19, 3) := by decide +kernel
theorem dX6_land_19 : decode cX6_land 19 = .ok (.iastore, 1) := by decide +kernel
theorem dX6_land_20 : decode cX6_land 20 = .ok (.aload_n 1, 1) := by decide +kernel
theorem dX6_land_21 : decode cX6_land 21 = .ok (.getfield 38, 3) := by decide +kernel
theorem dX6_land_24 : decode cX6_land 24 = .ok (.iload_n 2, 1) := by decide +kernel
theorem dX6_land_25 : decode cX6_land 25 = .ok (.aload_n 0, 1) := by decide +kernel
theorem dX6_land_26 : decode cX6_land 26 = .ok (.getfield 22, 3) := by decide +kernel
theorem dX6_land_29 : decode cX6_land 29 = .ok (.iastore, 1) := by decide +kernel
theorem dX6_land_30 : decode cX6_land 30 = .ok (.aload_n 1, 1) := by decide +kernel
theorem dX6_land_31 : decode cX6_land 31 = .ok (.getfield 40, 3) := by decide +kernel
theorem dX6_land_34 : decode cX6_land 34 = .ok (.iload_n 2, 1) := by decide +kernel
theorem dX6_land_35 : decode cX6_land 35 = .ok (.aload_n 0, 1) := by decide +kernel
theorem dX6_land_36 : decode cX6_land 36 = .ok (.getfield 25, 3) := by decide +kernel
theorem dX6_land_39 : decode cX6_land 39 = .ok (.iastore, 1) := by decide +kernel
theorem dX6_land_40 : decode cX6_land 40 = .ok (.aload_n 0, 1) := by decide +kernel
theorem dX6_land_41 : decode cX6_land 41 = .ok (.getfield 9, 3) := by decide +kernel
theorem dX6_land_44 : decode cX6_land 44 = .ok (.iconst 0, 1) := by decide +kernel
theorem dX6_land_45 : decode cX6_land 45 = .ok (.aload_n 1, 1) := by decide +kernel
theorem dX6_land_46 : decode cX6_land 46 = .ok (.getfield 42, 3) := by decide +kernel
theorem dX6_land_49 : decode cX6_land 49 = .ok (.iconst 0, 1) := by decide +kernel
theorem dX6_land_50 : decode cX6_land 50 = .ok (.iconst 4, 1) := by decide +kernel
theorem dX6_land_51 : decode cX6_land 51 = .ok (.invokestatic 43, 3) := by decide +kernel
theorem dX6_land_54 : decode cX6_land 54 = .ok (.return_, 1) := by decide +kernel
theorem dX6_follow_0 : decode cX6_follow 0 = .ok (.aload_n 0, 1) := by decide +kernel
theorem dX6_follow_1 : decode cX6_follow 1 = .ok (.aload_n 1, 1) := by decide +kernel
theorem dX6_follow_2 : decode cX6_follow 2 = .ok (.getfield 15, 3) := by decide +kernel
theorem dX6_follow_5 : decode cX6_follow 5 = .ok (.putfield 15, 3) := by decide +kernel
theorem dX6_follow_8 : decode cX6_follow 8 = .ok (.aload_n 0, 1) := by decide +kernel
theorem dX6_follow_9 : decode cX6_follow 9 = .ok (.aload_n 1, 1) := by decide +kernel
theorem dX6_follow_10 : decode cX6_follow 10 = .ok (.getfield 19, 3) := by decide +kernel
theorem dX6_follow_13 : decode cX6_follow 13 = .ok (.putfield 19, 3) := by decide +kernel
theorem dX6_follow_16 : decode cX6_follow 16 = .ok (.aload_n 0, 1) := by decide +kernel
theorem dX6_follow_17 : decode cX6_follow 17 = .ok (.aload_n 1, 1) := by decide +kernel
theorem dX6_follow_18 : decode cX6_follow 18 = .ok (.getfield 22, 3) := by decide +kernel
theorem dX6_follow_21 : decode cX6_follow 21 = .ok (.putfield 22, 3) := by decide +kernel
theorem dX6_follow_24 : decode cX6_follow 24 = .ok (.aload_n 0, 1) := by decide +kernel
theorem dX6_follow_25 : decode cX6_follow 25 = .ok (.aload_n 1, 1) := by decide +kernel
theorem dX6_follow_26 : decode cX6_follow 26 = .ok (.getfield 25, 3) := by decide +kernel
theorem dX6_follow_29 : decode cX6_follow 29 = .ok (.putfield 25, 3) := by decide +kernel
theorem dX6_follow_32 : decode cX6_follow 32 = .ok (.aload_n 1, 1) := by decide +kernel
theorem dX6_follow_33 : decode cX6_follow 33 = .ok (.getfield 9, 3) := by decide +kernel
theorem dX6_follow_36 : decode cX6_follow 36 = .ok (.iconst 0, 1) := by decide +kernel
theorem dX6_follow_37 : decode cX6_follow 37 = .ok (.aload_n 0, 1) := by decide +kernel
theorem dX6_follow_38 : decode cX6_follow 38 = .ok (.getfield 9, 3) := by decide +kernel
theorem dX6_follow_41 : decode cX6_follow 41 = .ok (.iconst 0, 1) := by decide +kernel
theorem dX6_follow_42 : decode cX6_follow 42 = .ok (.iconst 4, 1) := by decide +kernel
theorem dX6_follow_43 : decode cX6_follow 43 = .ok (.invokestatic 43, 3) := by decide +kernel
theorem dX6_follow_46 : decode cX6_follow 46 = .ok (.return_, 1) := by decide +kernel
theorem dX6_trusts_0 : decode cX6_trusts 0 = .ok (.aload_n 0, 1) := by decide +kernel
theorem dX6_trusts_1 : decode cX6_trusts 1 = .ok (.getfield 9, 3) := by decide +kernel
theorem dX6_trusts_4 : decode cX6_trusts 4 = .ok (.iload_n 1, 1) := by decide +kernel
theorem dX6_trusts_5 : decode cX6_trusts 5 = .ok (.iaload, 1) := by decide +kernel
theorem dX6_trusts_6 : decode cX6_trusts 6 = .ok (.aload_n 0, 1) := by decide +kernel
theorem dX6_trusts_7 : decode cX6_trusts 7 = .ok (.getfield 15, 3) := by decide +kernel
theorem dX6_trusts_10 : decode cX6_trusts 10 = .ok (.aload_n 0, 1) := by decide +kernel
theorem dX6_trusts_11 : decode cX6_trusts 11 = .ok (.getfield 25, 3) := by decide +kernel
theorem dX6_trusts_14 : decode cX6_trusts 14 = .ok (.iload_n 1, 1) := by decide +kernel
theorem dX6_trusts_15 : decode cX6_trusts 15 = .ok (.invokestatic 49, 3) := by decide +kernel
theorem dX6_trusts_18 : decode cX6_trusts 18 = .ok (.if_icmp .lt 7, 3) := by decide +kernel
theorem dX6_trusts_21 : decode cX6_trusts 21 = .ok (.iconst 1, 1) := by decide +kernel
theorem dX6_trusts_22 : decode cX6_trusts 22 = .ok (.goto 4, 3) := by decide +kernel
theorem dX6_trusts_25 : decode cX6_trusts 25 = .ok (.iconst 0, 1) := by decide +kernel
theorem dX6_trusts_26 : decode cX6_trusts 26 = .ok (.ireturn, 1) := by decide +kernel
theorem dX6_hear_0 : decode cX6_hear 0 = .ok (.aload_n 0, 1) := by decide +kernel
theorem dX6_hear_1 : decode cX6_hear 1 = .ok (.iload_n 1, 1) := by decide +kernel
theorem dX6_hear_2 : decode cX6_hear 2 = .ok (.invokevirtual 53, 3) := by decide +kernel
theorem dX6_hear_5 : decode cX6_hear 5 = .ok (.istore_n 3, 1) := by decide +kernel
theorem dX6_hear_6 : decode cX6_hear 6 = .ok (.iload_n 3, 1) := by decide +kernel
theorem dX6_hear_7 : decode cX6_hear 7 = .ok (.ifCond .eq 19, 3) := by decide +kernel
theorem dX6_hear_10 : decode cX6_hear 10 = .ok (.aload_n 0, 1) := by decide +kernel
theorem dX6_hear_11 : decode cX6_hear 11 = .ok (.aload_n 0, 1) := by decide +kernel
theorem dX6_hear_12 : decode cX6_hear 12 = .ok (.getfield 15, 3) := by decide +kernel
theorem dX6_hear_15 : decode cX6_hear 15 = .ok (.aload_n 0, 1) := by decide +kernel
theorem dX6_hear_16 : decode cX6_hear 16 = .ok (.getfield 22, 3) := by decide +kernel
theorem dX6_hear_19 : decode cX6_hear 19 = .ok (.iload_n 2, 1) := by decide +kernel
theorem dX6_hear_20 : decode cX6_hear 20 = .ok (.invokestatic 57, 3) := by decide +kernel
theorem dX6_hear_23 : decode cX6_hear 23 = .ok (.putfield 22, 3) := by decide +kernel
theorem dX6_hear_26 : decode cX6_hear 26 = .ok (.aload_n 0, 1) := by decide +kernel
theorem dX6_hear_27 : decode cX6_hear 27 = .ok (.invokevirtual 60, 3) := by decide +kernel
theorem dX6_hear_30 : decode cX6_hear 30 = .ok (.istore 4, 2) := by decide +kernel
theorem dX6_hear_32 : decode cX6_hear 32 = .ok (.iload_n 3, 1) := by decide +kernel
theorem dX6_hear_33 : decode cX6_hear 33 = .ok (.ifCond .eq 10, 3) := by decide +kernel
theorem dX6_hear_36 : decode cX6_hear 36 = .ok (.aload_n 0, 1) := by decide +kernel
theorem dX6_hear_37 : decode cX6_hear 37 = .ok (.iload_n 1, 1) := by decide +kernel
theorem dX6_hear_38 : decode cX6_hear 38 = .ok (.iload 4, 2) := by decide +kernel
theorem dX6_hear_40 : decode cX6_hear 40 = .ok (.invokevirtual 64, 3) := by decide +kernel
theorem dX6_hear_43 : decode cX6_hear 43 = .ok (.return_, 1) := by decide +kernel
theorem dX6_hearTwo_0 : decode cX6_hearTwo 0 = .ok (.aload_n 0, 1) := by decide +kernel
theorem dX6_hearTwo_1 : decode cX6_hearTwo 1 = .ok (.iload_n 1, 1) := by decide +kernel
theorem dX6_hearTwo_2 : decode cX6_hearTwo 2 = .ok (.invokevirtual 53, 3) := by decide +kernel
theorem dX6_hearTwo_5 : decode cX6_hearTwo 5 = .ok (.istore 5, 2) := by decide +kernel
theorem dX6_hearTwo_7 : decode cX6_hearTwo 7 = .ok (.aload_n 0, 1) := by decide +kernel
theorem dX6_hearTwo_8 : decode cX6_hearTwo 8 = .ok (.iload_n 3, 1) := by decide +kernel
theorem dX6_hearTwo_9 : decode cX6_hearTwo 9 = .ok (.invokevirtual 53, 3) := by decide +kernel
theorem dX6_hearTwo_12 : decode cX6_hearTwo 12 = .ok (.istore 6, 2) := by decide +kernel
theorem dX6_hearTwo_14 : decode cX6_hearTwo 14 = .ok (.iload 5, 2) := by decide +kernel
theorem dX6_hearTwo_16 : decode cX6_hearTwo 16 = .ok (.ifCond .eq 21, 3) := by decide +kernel
theorem dX6_hearTwo_19 : decode cX6_hearTwo 19 = .ok (.iload 6, 2) := by decide +kernel
theorem dX6_hearTwo_21 : decode cX6_hearTwo 21 = .ok (.ifCond .eq 16, 3) := by decide +kernel
theorem dX6_hearTwo_24 : decode cX6_hearTwo 24 = .ok (.iload_n 2, 1) := by decide +kernel
theorem dX6_hearTwo_25 : decode cX6_hearTwo 25 = .ok (.iload 4, 2) := by decide +kernel
theorem dX6_hearTwo_27 : decode cX6_hearTwo 27 = .ok (.if_icmp .eq 10, 3) := by decide +kernel
theorem dX6_hearTwo_30 : decode cX6_hearTwo 30 = .ok (.aload_n 0, 1) := by decide +kernel
theorem dX6_hearTwo_31 : decode cX6_hearTwo 31 = .ok (.iload_n 1, 1) := by decide +kernel
theorem dX6_hearTwo_32 : decode cX6_hearTwo 32 = .ok (.iload_n 3, 1) := by decide +kernel
theorem dX6_hearTwo_33 : decode cX6_hearTwo 33 = .ok (.invokevirtual 68, 3) := by decide +kernel
theorem dX6_hearTwo_36 : decode cX6_hearTwo 36 = .ok (.return_, 1) := by decide +kernel
theorem dX6_hearTwo_37 : decode cX6_hearTwo 37 = .ok (.iload 5, 2) := by decide +kernel
theorem dX6_hearTwo_39 : decode cX6_hearTwo 39 = .ok (.ifCond .ne 8, 3) := by decide +kernel
theorem dX6_hearTwo_42 : decode cX6_hearTwo 42 = .ok (.iload 6, 2) := by decide +kernel
theorem dX6_hearTwo_44 : decode cX6_hearTwo 44 = .ok (.ifCond .eq 29, 3) := by decide +kernel
theorem dX6_hearTwo_47 : decode cX6_hearTwo 47 = .ok (.aload_n 0, 1) := by decide +kernel
theorem dX6_hearTwo_48 : decode cX6_hearTwo 48 = .ok (.aload_n 0, 1) := by decide +kernel
theorem dX6_hearTwo_49 : decode cX6_hearTwo 49 = .ok (.getfield 15, 3) := by decide +kernel
theorem dX6_hearTwo_52 : decode cX6_hearTwo 52 = .ok (.aload_n 0, 1) := by decide +kernel
theorem dX6_hearTwo_53 : decode cX6_hearTwo 53 = .ok (.getfield 22, 3) := by decide +kernel
theorem dX6_hearTwo_56 : decode cX6_hearTwo 56 = .ok (.iload 5, 2) := by decide +kernel
theorem dX6_hearTwo_58 : decode cX6_hearTwo 58 = .ok (.ifCond .eq 7, 3) := by decide +kernel
theorem dX6_hearTwo_61 : decode cX6_hearTwo 61 = .ok (.iload_n 2, 1) := by decide +kernel
theorem dX6_hearTwo_62 : decode cX6_hearTwo 62 = .ok (.goto 5, 3) := by decide +kernel
theorem dX6_hearTwo_65 : decode cX6_hearTwo 65 = .ok (.iload 4, 2) := by decide +kernel
theorem dX6_hearTwo_67 : decode cX6_hearTwo 67 = .ok (.invokestatic 57, 3) := by decide +kernel
theorem dX6_hearTwo_70 : decode cX6_hearTwo 70 = .ok (.putfield 22, 3) := by decide +kernel
theorem dX6_hearTwo_73 : decode cX6_hearTwo 73 = .ok (.aload_n 0, 1) := by decide +kernel
theorem dX6_hearTwo_74 : decode cX6_hearTwo 74 = .ok (.invokevirtual 60, 3) := by decide +kernel
theorem dX6_hearTwo_77 : decode cX6_hearTwo 77 = .ok (.istore 7, 2) := by decide +kernel
theorem dX6_hearTwo_79 : decode cX6_hearTwo 79 = .ok (.iload 5, 2) := by decide +kernel
theorem dX6_hearTwo_81 : decode cX6_hearTwo 81 = .ok (.ifCond .eq 10, 3) := by decide +kernel
theorem dX6_hearTwo_84 : decode cX6_hearTwo 84 = .ok (.aload_n 0, 1) := by decide +kernel
theorem dX6_hearTwo_85 : decode cX6_hearTwo 85 = .ok (.iload_n 1, 1) := by decide +kernel
theorem dX6_hearTwo_86 : decode cX6_hearTwo 86 = .ok (.iload 7, 2) := by decide +kernel
theorem dX6_hearTwo_88 : decode cX6_hearTwo 88 = .ok (.invokevirtual 64, 3) := by decide +kernel
theorem dX6_hearTwo_91 : decode cX6_hearTwo 91 = .ok (.iload 6, 2) := by decide +kernel
theorem dX6_hearTwo_93 : decode cX6_hearTwo 93 = .ok (.ifCond .eq 10, 3) := by decide +kernel
theorem dX6_hearTwo_96 : decode cX6_hearTwo 96 = .ok (.aload_n 0, 1) := by decide +kernel
theorem dX6_hearTwo_97 : decode cX6_hearTwo 97 = .ok (.iload_n 3, 1) := by decide +kernel
theorem dX6_hearTwo_98 : decode cX6_hearTwo 98 = .ok (.iload 7, 2) := by decide +kernel
theorem dX6_hearTwo_100 : decode cX6_hearTwo 100 = .ok (.invokevirtual 64, 3) := by decide +kernel
theorem dX6_hearTwo_103 : decode cX6_hearTwo 103 = .ok (.return_, 1) := by decide +kernel
theorem dX6_beTorn_0 : decode cX6_beTorn 0 = .ok (.aload_n 0, 1) := by decide +kernel
theorem dX6_beTorn_1 : decode cX6_beTorn 1 = .ok (.invokevirtual 72, 3) := by decide +kernel
theorem dX6_beTorn_4 : decode cX6_beTorn 4 = .ok (.aload_n 0, 1) := by decide +kernel
theorem dX6_beTorn_5 : decode cX6_beTorn 5 = .ok (.getfield 9, 3) := by decide +kernel
theorem dX6_beTorn_8 : decode cX6_beTorn 8 = .ok (.iload_n 1, 1) := by decide +kernel
theorem dX6_beTorn_9 : decode cX6_beTorn 9 = .ok (.iconst 0, 1) := by decide +kernel
theorem dX6_beTorn_10 : decode cX6_beTorn 10 = .ok (.aload_n 0, 1) := by decide +kernel
theorem dX6_beTorn_11 : decode cX6_beTorn 11 = .ok (.getfield 9, 3) := by decide +kernel
theorem dX6_beTorn_14 : decode cX6_beTorn 14 = .ok (.iload_n 1, 1) := by decide +kernel
theorem dX6_beTorn_15 : decode cX6_beTorn 15 = .ok (.iaload, 1) := by decide +kernel
theorem dX6_beTorn_16 : decode cX6_beTorn 16 = .ok (.iconst 1, 1) := by decide +kernel
theorem dX6_beTorn_17 : decode cX6_beTorn 17 = .ok (.isub, 1) := by decide +kernel
theorem dX6_beTorn_18 : decode cX6_beTorn 18 = .ok (.invokestatic 75, 3) := by decide +kernel
theorem dX6_beTorn_21 : decode cX6_beTorn 21 = .ok (.iastore, 1) := by decide +kernel
theorem dX6_beTorn_22 : decode cX6_beTorn 22 = .ok (.aload_n 0, 1) := by decide +kernel
theorem dX6_beTorn_23 : decode cX6_beTorn 23 = .ok (.getfield 9, 3) := by decide +kernel
theorem dX6_beTorn_26 : decode cX6_beTorn 26 = .ok (.iload_n 2, 1) := by decide +kernel
theorem dX6_beTorn_27 : decode cX6_beTorn 27 = .ok (.iconst 0, 1) := by decide +kernel
theorem dX6_beTorn_28 : decode cX6_beTorn 28 = .ok (.aload_n 0, 1) := by decide +kernel
theorem dX6_beTorn_29 : decode cX6_beTorn 29 = .ok (.getfield 9, 3) := by decide +kernel
theorem dX6_beTorn_32 : decode cX6_beTorn 32 = .ok (.iload_n 2, 1) := by decide +kernel
theorem dX6_beTorn_33 : decode cX6_beTorn 33 = .ok (.iaload, 1) := by decide +kernel
theorem dX6_beTorn_34 : decode cX6_beTorn 34 = .ok (.iconst 1, 1) := by decide +kernel
theorem dX6_beTorn_35 : decode cX6_beTorn 35 = .ok (.isub, 1) := by decide +kernel
theorem dX6_beTorn_36 : decode cX6_beTorn 36 = .ok (.invokestatic 75, 3) := by decide +kernel
theorem dX6_beTorn_39 : decode cX6_beTorn 39 = .ok (.iastore, 1) := by decide +kernel
theorem dX6_beTorn_40 : decode cX6_beTorn 40 = .ok (.return_, 1) := by decide +kernel
theorem dX6_goOn_0 : decode cX6_goOn 0 = .ok (.aload_n 0, 1) := by decide +kernel
theorem dX6_goOn_1 : decode cX6_goOn 1 = .ok (.getfield 28, 3) := by decide +kernel
theorem dX6_goOn_4 : decode cX6_goOn 4 = .ok (.aload_n 0, 1) := by decide +kernel
theorem dX6_goOn_5 : decode cX6_goOn 5 = .ok (.getfield 19, 3) := by decide +kernel
theorem dX6_goOn_8 : decode cX6_goOn 8 = .ok (.aload_n 0, 1) := by decide +kernel
theorem dX6_goOn_9 : decode cX6_goOn 9 = .ok (.getfield 22, 3) := by decide +kernel
theorem dX6_goOn_12 : decode cX6_goOn 12 = .ok (.invokevirtual 81, 3) := by decide +kernel
theorem dX6_goOn_15 : decode cX6_goOn 15 = .ok (.istore_n 1, 1) := by decide +kernel
theorem dX6_goOn_16 : decode cX6_goOn 16 = .ok (.iload_n 1, 1) := by decide +kernel
theorem dX6_goOn_17 : decode cX6_goOn 17 = .ok (.ifCond .ge 9, 3) := by decide +kernel
theorem dX6_goOn_20 : decode cX6_goOn 20 = .ok (.aload_n 0, 1) := by decide +kernel
theorem dX6_goOn_21 : decode cX6_goOn 21 = .ok (.invokevirtual 72, 3) := by decide +kernel
theorem dX6_goOn_24 : decode cX6_goOn 24 = .ok (.iconst 1, 1) := by decide +kernel
theorem dX6_goOn_25 : decode cX6_goOn 25 = .ok (.ireturn, 1) := by decide +kernel
theorem dX6_goOn_26 : decode cX6_goOn 26 = .ok (.aload_n 0, 1) := by decide +kernel
theorem dX6_goOn_27 : decode cX6_goOn 27 = .ok (.iload_n 1, 1) := by decide +kernel
theorem dX6_goOn_28 : decode cX6_goOn 28 = .ok (.putfield 19, 3) := by decide +kernel
theorem dX6_goOn_31 : decode cX6_goOn 31 = .ok (.iconst 0, 1) := by decide +kernel
theorem dX6_goOn_32 : decode cX6_goOn 32 = .ok (.ireturn, 1) := by decide +kernel
theorem dX6_beWormed_0 : decode cX6_beWormed 0 = .ok (.aload_n 0, 1) := by decide +kernel
theorem dX6_beWormed_1 : decode cX6_beWormed 1 = .ok (.iconst 5, 1) := by decide +kernel
theorem dX6_beWormed_2 : decode cX6_beWormed 2 = .ok (.aload_n 0, 1) := by decide +kernel
theorem dX6_beWormed_3 : decode cX6_beWormed 3 = .ok (.getfield 25, 3) := by decide +kernel
theorem dX6_beWormed_6 : decode cX6_beWormed 6 = .ok (.iconst 1, 1) := by decide +kernel
theorem dX6_beWormed_7 : decode cX6_beWormed 7 = .ok (.iadd, 1) := by decide +kernel
theorem dX6_beWormed_8 : decode cX6_beWormed 8 = .ok (.invokestatic 86, 3) := by decide +kernel
theorem dX6_beWormed_11 : decode cX6_beWormed 11 = .ok (.putfield 25, 3) := by decide +kernel
theorem dX6_beWormed_14 : decode cX6_beWormed 14 = .ok (.return_, 1) := by decide +kernel
theorem dX6_settle_0 : decode cX6_settle 0 = .ok (.aload_n 0, 1) := by decide +kernel
theorem dX6_settle_1 : decode cX6_settle 1 = .ok (.getfield 9, 3) := by decide +kernel
theorem dX6_settle_4 : decode cX6_settle 4 = .ok (.iload_n 1, 1) := by decide +kernel
theorem dX6_settle_5 : decode cX6_settle 5 = .ok (.iload_n 2, 1) := by decide +kernel
theorem dX6_settle_6 : decode cX6_settle 6 = .ok (.ifCond .eq 18, 3) := by decide +kernel
theorem dX6_settle_9 : decode cX6_settle 9 = .ok (.iconst 0, 1) := by decide +kernel
theorem dX6_settle_10 : decode cX6_settle 10 = .ok (.aload_n 0, 1) := by decide +kernel
theorem dX6_settle_11 : decode cX6_settle 11 = .ok (.getfield 9, 3) := by decide +kernel
theorem dX6_settle_14 : decode cX6_settle 14 = .ok (.iload_n 1, 1) := by decide +kernel
theorem dX6_settle_15 : decode cX6_settle 15 = .ok (.iaload, 1) := by decide +kernel
theorem dX6_settle_16 : decode cX6_settle 16 = .ok (.iconst 2, 1) := by decide +kernel
theorem dX6_settle_17 : decode cX6_settle 17 = .ok (.isub, 1) := by decide +kernel
theorem dX6_settle_18 : decode cX6_settle 18 = .ok (.invokestatic 75, 3) := by decide +kernel
theorem dX6_settle_21 : decode cX6_settle 21 = .ok (.goto 16, 3) := by decide +kernel
theorem dX6_settle_24 : decode cX6_settle 24 = .ok (.bipush 9, 2) := by decide +kernel
theorem dX6_settle_26 : decode cX6_settle 26 = .ok (.aload_n 0, 1) := by decide +kernel
theorem dX6_settle_27 : decode cX6_settle 27 = .ok (.getfield 9, 3) := by decide +kernel
theorem dX6_settle_30 : decode cX6_settle 30 = .ok (.iload_n 1, 1) := by decide +kernel
theorem dX6_settle_31 : decode cX6_settle 31 = .ok (.iaload, 1) := by decide +kernel
theorem dX6_settle_32 : decode cX6_settle 32 = .ok (.iconst 1, 1) := by decide +kernel
theorem dX6_settle_33 : decode cX6_settle 33 = .ok (.iadd, 1) := by decide +kernel
theorem dX6_settle_34 : decode cX6_settle 34 = .ok (.invokestatic 86, 3) := by decide +kernel
theorem dX6_settle_37 : decode cX6_settle 37 = .ok (.iastore, 1) := by decide +kernel
theorem dX6_settle_38 : decode cX6_settle 38 = .ok (.return_, 1) := by decide +kernel
theorem dX6_keepsTo_0 : decode cX6_keepsTo 0 = .ok (.iconst 0, 1) := by decide +kernel
theorem dX6_keepsTo_1 : decode cX6_keepsTo 1 = .ok (.istore 5, 2) := by decide +kernel
theorem dX6_keepsTo_3 : decode cX6_keepsTo 3 = .ok (.iload 5, 2) := by decide +kernel
theorem dX6_keepsTo_5 : decode cX6_keepsTo 5 = .ok (.iload 4, 2) := by decide +kernel
theorem dX6_keepsTo_7 : decode cX6_keepsTo 7 = .ok (.if_icmp .ge 50, 3) := by decide +kernel
theorem dX6_keepsTo_10 : decode cX6_keepsTo 10 = .ok (.aload_n 0, 1) := by decide +kernel
theorem dX6_keepsTo_11 : decode cX6_keepsTo 11 = .ok (.iload_n 1, 1) := by decide +kernel
theorem dX6_keepsTo_12 : decode cX6_keepsTo 12 = .ok (.aload_n 2, 1) := by decide +kernel
theorem dX6_keepsTo_13 : decode cX6_keepsTo 13 = .ok (.getfield 89, 3) := by decide +kernel
theorem dX6_keepsTo_16 : decode cX6_keepsTo 16 = .ok (.iload_n 3, 1) := by decide +kernel
theorem dX6_keepsTo_17 : decode cX6_keepsTo 17 = .ok (.iconst 2, 1) := by decide +kernel
theorem dX6_keepsTo_18 : decode cX6_keepsTo 18 = .ok (.iload 5, 2) := by decide +kernel
theorem dX6_keepsTo_20 : decode cX6_keepsTo 20 = .ok (.imul, 1) := by decide +kernel
theorem dX6_keepsTo_21 : decode cX6_keepsTo 21 = .ok (.iadd, 1) := by decide +kernel
theorem dX6_keepsTo_22 : decode cX6_keepsTo 22 = .ok (.laload, 1) := by decide +kernel
theorem dX6_keepsTo_23 : decode cX6_keepsTo 23 = .ok (.l2i, 1) := by decide +kernel
theorem dX6_keepsTo_24 : decode cX6_keepsTo 24 = .ok (.invokevirtual 95, 3) := by decide +kernel
theorem dX6_keepsTo_27 : decode cX6_keepsTo 27 = .ok (.aload_n 0, 1) := by decide +kernel
theorem dX6_keepsTo_28 : decode cX6_keepsTo 28 = .ok (.getfield 19, 3) := by decide +kernel
theorem dX6_keepsTo_31 : decode cX6_keepsTo 31 = .ok (.i2l, 1) := by decide +kernel
theorem dX6_keepsTo_32 : decode cX6_keepsTo 32 = .ok (.aload_n 2, 1) := by decide +kernel
theorem dX6_keepsTo_33 : decode cX6_keepsTo 33 = .ok (.getfield 89, 3) := by decide +kernel
theorem dX6_keepsTo_36 : decode cX6_keepsTo 36 = .ok (.iload_n 3, 1) := by decide +kernel
theorem dX6_keepsTo_37 : decode cX6_keepsTo 37 = .ok (.iconst 2, 1) := by decide +kernel
theorem dX6_keepsTo_38 : decode cX6_keepsTo 38 = .ok (.iload 5, 2) := by decide +kernel
theorem dX6_keepsTo_40 : decode cX6_keepsTo 40 = .ok (.imul, 1) := by decide +kernel
theorem dX6_keepsTo_41 : decode cX6_keepsTo 41 = .ok (.iadd, 1) := by decide +kernel
theorem dX6_keepsTo_42 : decode cX6_keepsTo 42 = .ok (.iconst 1, 1) := by decide +kernel
theorem dX6_keepsTo_43 : decode cX6_keepsTo 43 = .ok (.iadd, 1) := by decide +kernel
theorem dX6_keepsTo_44 : decode cX6_keepsTo 44 = .ok (.laload, 1) := by decide +kernel
theorem dX6_keepsTo_45 : decode cX6_keepsTo 45 = .ok (.lcmp, 1) := by decide +kernel
theorem dX6_keepsTo_46 : decode cX6_keepsTo 46 = .ok (.ifCond .eq 5, 3) := by decide +kernel
theorem dX6_keepsTo_49 : decode cX6_keepsTo 49 = .ok (.iconst 0, 1) := by decide +kernel
theorem dX6_keepsTo_50 : decode cX6_keepsTo 50 = .ok (.ireturn, 1) := by decide +kernel
theorem dX6_keepsTo_51 : decode cX6_keepsTo 51 = .ok (.iinc 5 1, 3) := by decide +kernel
theorem dX6_keepsTo_54 : decode cX6_keepsTo 54 = .ok (.goto (-51), 3) := by decide +kernel
theorem dX6_keepsTo_57 : decode cX6_keepsTo 57 = .ok (.iconst 1, 1) := by decide +kernel
theorem dX6_keepsTo_58 : decode cX6_keepsTo 58 = .ok (.ireturn, 1) := by decide +kernel
