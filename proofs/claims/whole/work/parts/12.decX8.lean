theorem dX8_init_0 : decode cX8_init 0 = .ok (.aload_n 0, 1) := by decide +kernel
theorem dX8_init_1 : decode cX8_init 1 = .ok (.invokespecial 1, 3) := by decide +kernel
theorem dX8_init_4 : decode cX8_init 4 = .ok (.aload_n 0, 1) := by decide +kernel
theorem dX8_init_5 : decode cX8_init 5 = .ok (.sipush 952, 3) := by decide +kernel
theorem dX8_init_8 : decode cX8_init 8 = .ok (.newarray .int, 2) := by decide +kernel
theorem dX8_init_10 : decode cX8_init 10 = .ok (.putfield 7, 3) := by decide +kernel
theorem dX8_init_13 : decode cX8_init 13 = .ok (.aload_n 0, 1) := by decide +kernel
theorem dX8_init_14 : decode cX8_init 14 = .ok (.sipush 130, 3) := by decide +kernel
theorem dX8_init_17 : decode cX8_init 17 = .ok (.newarray .int, 2) := by decide +kernel
theorem dX8_init_19 : decode cX8_init 19 = .ok (.putfield 13, 3) := by decide +kernel
theorem dX8_init_22 : decode cX8_init 22 = .ok (.aload_n 0, 1) := by decide +kernel
theorem dX8_init_23 : decode cX8_init 23 = .ok (.bipush 96, 2) := by decide +kernel
theorem dX8_init_25 : decode cX8_init 25 = .ok (.newarray .long, 2) := by decide +kernel
theorem dX8_init_27 : decode cX8_init 27 = .ok (.putfield 16, 3) := by decide +kernel
theorem dX8_init_30 : decode cX8_init 30 = .ok (.aload_n 0, 1) := by decide +kernel
theorem dX8_init_31 : decode cX8_init 31 = .ok (.iconst 4, 1) := by decide +kernel
theorem dX8_init_32 : decode cX8_init 32 = .ok (.newarray .int, 2) := by decide +kernel
theorem dX8_init_34 : decode cX8_init 34 = .ok (.putfield 20, 3) := by decide +kernel
theorem dX8_init_37 : decode cX8_init 37 = .ok (.aload_n 0, 1) := by decide +kernel
theorem dX8_init_38 : decode cX8_init 38 = .ok (.iconst 4, 1) := by decide +kernel
theorem dX8_init_39 : decode cX8_init 39 = .ok (.newarray .int, 2) := by decide +kernel
theorem dX8_init_41 : decode cX8_init 41 = .ok (.putfield 23, 3) := by decide +kernel
theorem dX8_init_44 : decode cX8_init 44 = .ok (.aload_n 0, 1) := by decide +kernel
theorem dX8_init_45 : decode cX8_init 45 = .ok (.sipush 192, 3) := by decide +kernel
theorem dX8_init_48 : decode cX8_init 48 = .ok (.newarray .int, 2) := by decide +kernel
theorem dX8_init_50 : decode cX8_init 50 = .ok (.putfield 26, 3) := by decide +kernel
theorem dX8_init_53 : decode cX8_init 53 = .ok (.aload_n 0, 1) := by decide +kernel
theorem dX8_init_54 : decode cX8_init 54 = .ok (.bipush 7, 2) := by decide +kernel
theorem dX8_init_56 : decode cX8_init 56 = .ok (.newarray .int, 2) := by decide +kernel
theorem dX8_init_58 : decode cX8_init 58 = .ok (.putfield 29, 3) := by decide +kernel
theorem dX8_init_61 : decode cX8_init 61 = .ok (.aload_n 0, 1) := by decide +kernel
theorem dX8_init_62 : decode cX8_init 62 = .ok (.bipush 6, 2) := by decide +kernel
theorem dX8_init_64 : decode cX8_init 64 = .ok (.newarray .int, 2) := by decide +kernel
theorem dX8_init_66 : decode cX8_init 66 = .ok (.putfield 32, 3) := by decide +kernel
theorem dX8_init_69 : decode cX8_init 69 = .ok (.aload_n 0, 1) := by decide +kernel
theorem dX8_init_70 : decode cX8_init 70 = .ok (.sipush 729, 3) := by decide +kernel
theorem dX8_init_73 : decode cX8_init 73 = .ok (.newarray .int, 2) := by decide +kernel
theorem dX8_init_75 : decode cX8_init 75 = .ok (.putfield 35, 3) := by decide +kernel
theorem dX8_init_78 : decode cX8_init 78 = .ok (.aload_n 0, 1) := by decide +kernel
theorem dX8_init_79 : decode cX8_init 79 = .ok (.bipush 24, 2) := by decide +kernel
theorem dX8_init_81 : decode cX8_init 81 = .ok (.newarray .long, 2) := by decide +kernel
theorem dX8_init_83 : decode cX8_init 83 = .ok (.putfield 38, 3) := by decide +kernel
theorem dX8_init_86 : decode cX8_init 86 = .ok (.aload_n 0, 1) := by decide +kernel
theorem dX8_init_87 : decode cX8_init 87 = .ok (.bipush 6, 2) := by decide +kernel
theorem dX8_init_89 : decode cX8_init 89 = .ok (.newarray .int, 2) := by decide +kernel
theorem dX8_init_91 : decode cX8_init 91 = .ok (.putfield 41, 3) := by decide +kernel
theorem dX8_init_94 : decode cX8_init 94 = .ok (.iconst 0, 1) := by decide +kernel
theorem dX8_init_95 : decode cX8_init 95 = .ok (.istore_n 1, 1) := by decide +kernel
theorem dX8_init_96 : decode cX8_init 96 = .ok (.iload_n 1, 1) := by decide +kernel
theorem dX8_init_97 : decode cX8_init 97 = .ok (.iconst 4, 1) := by decide +kernel
theorem dX8_init_98 : decode cX8_init 98 = .ok (.if_icmp .ge 16, 3) := by decide +kernel
theorem dX8_init_101 : decode cX8_init 101 = .ok (.aload_n 0, 1) := by decide +kernel
theorem dX8_init_102 : decode cX8_init 102 = .ok (.getfield 20, 3) := by decide +kernel
theorem dX8_init_105 : decode cX8_init 105 = .ok (.iload_n 1, 1) := by decide +kernel
theorem dX8_init_106 : decode cX8_init 106 = .ok (.iconst (-1), 1) := by decide +kernel
theorem dX8_init_107 : decode cX8_init 107 = .ok (.iastore, 1) := by decide +kernel
theorem dX8_init_108 : decode cX8_init 108 = .ok (.iinc 1 1, 3) := by decide +kernel
theorem dX8_init_111 : decode cX8_init 111 = .ok (.goto (-15), 3) := by decide +kernel
theorem dX8_init_114 : decode cX8_init 114 = .ok (.return_, 1) := by decide +kernel
theorem dX8_in_0 : decode cX8_in 0 = .ok (.lload_n 0, 1) := by decide +kernel
theorem dX8_in_1 : decode cX8_in 1 = .ok (.lload_n 2, 1) := by decide +kernel
theorem dX8_in_2 : decode cX8_in 2 = .ok (.lcmp, 1) := by decide +kernel
theorem dX8_in_3 : decode cX8_in 3 = .ok (.ifCond .lt 14, 3) := by decide +kernel
theorem dX8_in_6 : decode cX8_in 6 = .ok (.lload_n 0, 1) := by decide +kernel
theorem dX8_in_7 : decode cX8_in 7 = .ok (.lload 4, 2) := by decide +kernel
theorem dX8_in_9 : decode cX8_in 9 = .ok (.lcmp, 1) := by decide +kernel
theorem dX8_in_10 : decode cX8_in 10 = .ok (.ifCond .gt 7, 3) := by decide +kernel
theorem dX8_in_13 : decode cX8_in 13 = .ok (.iconst 1, 1) := by decide +kernel
theorem dX8_in_14 : decode cX8_in 14 = .ok (.goto 4, 3) := by decide +kernel
theorem dX8_in_17 : decode cX8_in 17 = .ok (.iconst 0, 1) := by decide +kernel
theorem dX8_in_18 : decode cX8_in 18 = .ok (.ireturn, 1) := by decide +kernel
theorem dX8_has_0 : decode cX8_has 0 = .ok (.iload_n 0, 1) := by decide +kernel
theorem dX8_has_1 : decode cX8_has 1 = .ok (.iload_n 1, 1) := by decide +kernel
theorem dX8_has_2 : decode cX8_has 2 = .ok (.ishr, 1) := by decide +kernel
theorem dX8_has_3 : decode cX8_has 3 = .ok (.iconst 1, 1) := by decide +kernel
theorem dX8_has_4 : decode cX8_has 4 = .ok (.iand, 1) := by decide +kernel
theorem dX8_has_5 : decode cX8_has 5 = .ok (.iconst 1, 1) := by decide +kernel
theorem dX8_has_6 : decode cX8_has 6 = .ok (.if_icmp .ne 7, 3) := by decide +kernel
theorem dX8_has_9 : decode cX8_has 9 = .ok (.iconst 1, 1) := by decide +kernel
theorem dX8_has_10 : decode cX8_has 10 = .ok (.goto 4, 3) := by decide +kernel
theorem dX8_has_13 : decode cX8_has 13 = .ok (.iconst 0, 1) := by decide +kernel
theorem dX8_has_14 : decode cX8_has 14 = .ok (.ireturn, 1) := by decide +kernel
theorem dX8_bring_0 : decode cX8_bring 0 = .ok (.iconst 0, 1) := by decide +kernel
theorem dX8_bring_1 : decode cX8_bring 1 = .ok (.istore 4, 2) := by decide +kernel
theorem dX8_bring_3 : decode cX8_bring 3 = .ok (.iload 4, 2) := by decide +kernel
theorem dX8_bring_5 : decode cX8_bring 5 = .ok (.iload_n 3, 1) := by decide +kernel
theorem dX8_bring_6 : decode cX8_bring 6 = .ok (.if_icmp .ge 27, 3) := by decide +kernel
theorem dX8_bring_9 : decode cX8_bring 9 = .ok (.aload_n 0, 1) := by decide +kernel
theorem dX8_bring_10 : decode cX8_bring 10 = .ok (.getfield 7, 3) := by decide +kernel
theorem dX8_bring_13 : decode cX8_bring 13 = .ok (.iload_n 2, 1) := by decide +kernel
theorem dX8_bring_14 : decode cX8_bring 14 = .ok (.iload 4, 2) := by decide +kernel
theorem dX8_bring_16 : decode cX8_bring 16 = .ok (.iadd, 1) := by decide +kernel
theorem dX8_bring_17 : decode cX8_bring 17 = .ok (.aload_n 0, 1) := by decide +kernel
theorem dX8_bring_18 : decode cX8_bring 18 = .ok (.getfield 7, 3) := by decide +kernel
theorem dX8_bring_21 : decode cX8_bring 21 = .ok (.iload_n 1, 1) := by decide +kernel
theorem dX8_bring_22 : decode cX8_bring 22 = .ok (.iload 4, 2) := by decide +kernel
theorem dX8_bring_24 : decode cX8_bring 24 = .ok (.iadd, 1) := by decide +kernel
theorem dX8_bring_25 : decode cX8_bring 25 = .ok (.iaload, 1) := by decide +kernel
theorem dX8_bring_26 : decode cX8_bring 26 = .ok (.iastore, 1) := by decide +kernel
theorem dX8_bring_27 : decode cX8_bring 27 = .ok (.iinc 4 1, 3) := by decide +kernel
theorem dX8_bring_30 : decode cX8_bring 30 = .ok (.goto (-27), 3) := by decide +kernel
theorem dX8_bring_33 : decode cX8_bring 33 = .ok (.return_, 1) := by decide +kernel
theorem dX8_isFleet_0 : decode cX8_isFleet 0 = .ok (.aload_n 0, 1) := by decide +kernel
theorem dX8_isFleet_1 : decode cX8_isFleet 1 = .ok (.getfield 7, 3) := by decide +kernel
theorem dX8_isFleet_4 : decode cX8_isFleet 4 = .ok (.iconst 0, 1) := by decide +kernel
theorem dX8_isFleet_5 : decode cX8_isFleet 5 = .ok (.iaload, 1) := by decide +kernel
theorem dX8_isFleet_6 : decode cX8_isFleet 6 = .ok (.ifCond .le 7, 3) := by decide +kernel
theorem dX8_isFleet_9 : decode cX8_isFleet 9 = .ok (.iconst 1, 1) := by decide +kernel
theorem dX8_isFleet_10 : decode cX8_isFleet 10 = .ok (.goto 4, 3) := by decide +kernel
theorem dX8_isFleet_13 : decode cX8_isFleet 13 = .ok (.iconst 0, 1) := by decide +kernel
theorem dX8_isFleet_14 : decode cX8_isFleet 14 = .ok (.ireturn, 1) := by decide +kernel
theorem dX8_isShip_0 : decode cX8_isShip 0 = .ok (.iload_n 1, 1) := by decide +kernel
theorem dX8_isShip_1 : decode cX8_isShip 1 = .ok (.i2l, 1) := by decide +kernel
theorem dX8_isShip_2 : decode cX8_isShip 2 = .ok (.lconst 0, 1) := by decide +kernel
theorem dX8_isShip_3 : decode cX8_isShip 3 = .ok (.aload_n 0, 1) := by decide +kernel
theorem dX8_isShip_4 : decode cX8_isShip 4 = .ok (.getfield 7, 3) := by decide +kernel
theorem dX8_isShip_7 : decode cX8_isShip 7 = .ok (.iconst 0, 1) := by decide +kernel
theorem dX8_isShip_8 : decode cX8_isShip 8 = .ok (.iaload, 1) := by decide +kernel
theorem dX8_isShip_9 : decode cX8_isShip 9 = .ok (.iconst 1, 1) := by decide +kernel
theorem dX8_isShip_10 : decode cX8_isShip 10 = .ok (.isub, 1) := by decide +kernel
theorem dX8_isShip_11 : decode cX8_isShip 11 = .ok (.i2l, 1) := by decide +kernel
theorem dX8_isShip_12 : decode cX8_isShip 12 = .ok (.invokestatic 44, 3) := by decide +kernel
theorem dX8_isShip_15 : decode cX8_isShip 15 = .ok (.ireturn, 1) := by decide +kernel
theorem dX8_isTeller_0 : decode cX8_isTeller 0 = .ok (.iload_n 0, 1) := by decide +kernel
theorem dX8_isTeller_1 : decode cX8_isTeller 1 = .ok (.i2l, 1) := by decide +kernel
theorem dX8_isTeller_2 : decode cX8_isTeller 2 = .ok (.lconst 0, 1) := by decide +kernel
theorem dX8_isTeller_3 : decode cX8_isTeller 3 = .ok (.ldc2_w 48, 3) := by decide +kernel
theorem dX8_isTeller_6 : decode cX8_isTeller 6 = .ok (.invokestatic 44, 3) := by decide +kernel
theorem dX8_isTeller_9 : decode cX8_isTeller 9 = .ok (.ireturn, 1) := by decide +kernel
theorem dX8_isCellIn_0 : decode cX8_isCellIn 0 = .ok (.iload_n 2, 1) := by decide +kernel
theorem dX8_isCellIn_1 : decode cX8_isCellIn 1 = .ok (.i2l, 1) := by decide +kernel
theorem dX8_isCellIn_2 : decode cX8_isCellIn 2 = .ok (.lconst 0, 1) := by decide +kernel
theorem dX8_isCellIn_3 : decode cX8_isCellIn 3 = .ok (.aload_n 0, 1) := by decide +kernel
theorem dX8_isCellIn_4 : decode cX8_isCellIn 4 = .ok (.getfield 7, 3) := by decide +kernel
theorem dX8_isCellIn_7 : decode cX8_isCellIn 7 = .ok (.iload_n 1, 1) := by decide +kernel
theorem dX8_isCellIn_8 : decode cX8_isCellIn 8 = .ok (.iconst 1, 1) := by decide +kernel
theorem dX8_isCellIn_9 : decode cX8_isCellIn 9 = .ok (.iadd, 1) := by decide +kernel
theorem dX8_isCellIn_10 : decode cX8_isCellIn 10 = .ok (.iaload, 1) := by decide +kernel
theorem dX8_isCellIn_11 : decode cX8_isCellIn 11 = .ok (.iconst 1, 1) := by decide +kernel
theorem dX8_isCellIn_12 : decode cX8_isCellIn 12 = .ok (.isub, 1) := by decide +kernel
theorem dX8_isCellIn_13 : decode cX8_isCellIn 13 = .ok (.i2l, 1) := by decide +kernel
theorem dX8_isCellIn_14 : decode cX8_isCellIn 14 = .ok (.invokestatic 44, 3) := by decide +kernel
theorem dX8_isCellIn_17 : decode cX8_isCellIn 17 = .ok (.ifCond .eq 27, 3) := by decide +kernel
theorem dX8_isCellIn_20 : decode cX8_isCellIn 20 = .ok (.iload_n 3, 1) := by decide +kernel
theorem dX8_isCellIn_21 : decode cX8_isCellIn 21 = .ok (.i2l, 1) := by decide +kernel
theorem dX8_isCellIn_22 : decode cX8_isCellIn 22 = .ok (.lconst 0, 1) := by decide +kernel
theorem dX8_isCellIn_23 : decode cX8_isCellIn 23 = .ok (.aload_n 0, 1) := by decide +kernel
theorem dX8_isCellIn_24 : decode cX8_isCellIn 24 = .ok (.getfield 7, 3) := by decide +kernel
theorem dX8_isCellIn_27 : decode cX8_isCellIn 27 = .ok (.iload_n 1, 1) := by decide +kernel
theorem dX8_isCellIn_28 : decode cX8_isCellIn 28 = .ok (.iconst 2, 1) := by decide +kernel
theorem dX8_isCellIn_29 : decode cX8_isCellIn 29 = .ok (.iadd, 1) := by decide +kernel
theorem dX8_isCellIn_30 : decode cX8_isCellIn 30 = .ok (.iaload, 1) := by decide +kernel
theorem dX8_isCellIn_31 : decode cX8_isCellIn 31 = .ok (.iconst 1, 1) := by decide +kernel
theorem dX8_isCellIn_32 : decode cX8_isCellIn 32 = .ok (.isub, 1) := by decide +kernel
theorem dX8_isCellIn_33 : decode cX8_isCellIn 33 = .ok (.i2l, 1) := by decide +kernel
theorem dX8_isCellIn_34 : decode cX8_isCellIn 34 = .ok (.invokestatic 44, 3) := by decide +kernel
theorem dX8_isCellIn_37 : decode cX8_isCellIn 37 = .ok (.ifCond .eq 7, 3) := by decide +kernel
theorem dX8_isCellIn_40 : decode cX8_isCellIn 40 = .ok (.iconst 1, 1) := by decide +kernel
theorem dX8_isCellIn_41 : decode cX8_isCellIn 41 = .ok (.goto 4, 3) := by decide +kernel
theorem dX8_isCellIn_44 : decode cX8_isCellIn 44 = .ok (.iconst 0, 1) := by decide +kernel
theorem dX8_isCellIn_45 : decode cX8_isCellIn 45 = .ok (.ireturn, 1) := by decide +kernel
theorem dX8_isCell_0 : decode cX8_isCell 0 = .ok (.iload_n 1, 1) := by decide +kernel
theorem dX8_isCell_1 : decode cX8_isCell 1 = .ok (.ifCond .lt 23, 3) := by decide +kernel
theorem dX8_isCell_4 : decode cX8_isCell 4 = .ok (.aload_n 0, 1) := by decide +kernel
theorem dX8_isCell_5 : decode cX8_isCell 5 = .ok (.iconst 0, 1) := by decide +kernel
theorem dX8_isCell_6 : decode cX8_isCell 6 = .ok (.iload_n 1, 1) := by decide +kernel
theorem dX8_isCell_7 : decode cX8_isCell 7 = .ok (.bipush 8, 2) := by decide +kernel
theorem dX8_isCell_9 : decode cX8_isCell 9 = .ok (.idiv, 1) := by decide +kernel
theorem dX8_isCell_10 : decode cX8_isCell 10 = .ok (.iload_n 1, 1) := by decide +kernel
theorem dX8_isCell_11 : decode cX8_isCell 11 = .ok (.bipush 8, 2) := by decide +kernel
theorem dX8_isCell_13 : decode cX8_isCell 13 = .ok (.irem, 1) := by decide +kernel
theorem dX8_isCell_14 : decode cX8_isCell 14 = .ok (.invokevirtual 50, 3) := by decide +kernel
theorem dX8_isCell_17 : decode cX8_isCell 17 = .ok (.ifCond .eq 7, 3) := by decide +kernel
theorem dX8_isCell_20 : decode cX8_isCell 20 = .ok (.iconst 1, 1) := by decide +kernel
theorem dX8_isCell_21 : decode cX8_isCell 21 = .ok (.goto 4, 3) := by decide +kernel
theorem dX8_isCell_24 : decode cX8_isCell 24 = .ok (.iconst 0, 1) := by decide +kernel
theorem dX8_isCell_25 : decode cX8_isCell 25 = .ok (.ireturn, 1) := by decide +kernel
theorem dX8_feed_0 : decode cX8_feed 0 = .ok (.iload_n 1, 1) := by decide +kernel
theorem dX8_feed_1 : decode cX8_feed 1 = .ok (.i2l, 1) := by decide +kernel
theorem dX8_feed_2 : decode cX8_feed 2 = .ok (.lconst 0, 1) := by decide +kernel
theorem dX8_feed_3 : decode cX8_feed 3 = .ok (.ldc2_w 54, 3) := by decide +kernel
theorem dX8_feed_6 : decode cX8_feed 6 = .ok (.invokestatic 44, 3) := by decide +kernel
theorem dX8_feed_9 : decode cX8_feed 9 = .ok (.ifCond .ne 5, 3) := by decide +kernel
theorem dX8_feed_12 : decode cX8_feed 12 = .ok (.iconst (-1), 1) := by decide +kernel
theorem dX8_feed_13 : decode cX8_feed 13 = .ok (.ireturn, 1) := by decide +kernel
theorem dX8_feed_14 : decode cX8_feed 14 = .ok (.aload_n 0, 1) := by decide +kernel
theorem dX8_feed_15 : decode cX8_feed 15 = .ok (.getfield 56, 3) := by decide +kernel
theorem dX8_feed_18 : decode cX8_feed 18 = .ok (.sipush 130, 3) := by decide +kernel
theorem dX8_feed_21 : decode cX8_feed 21 = .ok (.if_icmp .ne 6, 3) := by decide +kernel
theorem dX8_feed_24 : decode cX8_feed 24 = .ok (.bipush (-3), 2) := by decide +kernel
theorem dX8_feed_26 : decode cX8_feed 26 = .ok (.ireturn, 1) := by decide +kernel
theorem dX8_feed_27 : decode cX8_feed 27 = .ok (.aload_n 0, 1) := by decide +kernel
theorem dX8_feed_28 : decode cX8_feed 28 = .ok (.getfield 13, 3) := by decide +kernel
theorem dX8_feed_31 : decode cX8_feed 31 = .ok (.aload_n 0, 1) := by decide +kernel
theorem dX8_feed_32 : decode cX8_feed 32 = .ok (.getfield 56, 3) := by decide +kernel
theorem dX8_feed_35 : decode cX8_feed 35 = .ok (.iload_n 1, 1) := by decide +kernel
theorem dX8_feed_36 : decode cX8_feed 36 = .ok (.iastore, 1) := by decide +kernel
theorem dX8_feed_37 : decode cX8_feed 37 = .ok (.aload_n 0, 1) := by decide +kernel
theorem dX8_feed_38 : decode cX8_feed 38 = .ok (.dup, 1) := by decide +kernel
theorem dX8_feed_39 : decode cX8_feed 39 = .ok (.getfield 56, 3) := by decide +kernel
theorem dX8_feed_42 : decode cX8_feed 42 = .ok (.iconst 1, 1) := by decide +kernel
theorem dX8_feed_43 : decode cX8_feed 43 = .ok (.iadd, 1) := by decide +kernel
theorem dX8_feed_44 : decode cX8_feed 44 = .ok (.putfield 56, 3) := by decide +kernel
theorem dX8_feed_47 : decode cX8_feed 47 = .ok (.aload_n 0, 1) := by decide +kernel
theorem dX8_feed_48 : decode cX8_feed 48 = .ok (.getfield 56, 3) := by decide +kernel
theorem dX8_feed_51 : decode cX8_feed 51 = .ok (.ireturn, 1) := by decide +kernel
theorem dX8_here_0 : decode cX8_here 0 = .ok (.aload_n 0, 1) := by decide +kernel
theorem dX8_here_1 : decode cX8_here 1 = .ok (.getfield 60, 3) := by decide +kernel
theorem dX8_here_4 : decode cX8_here 4 = .ok (.aload_n 0, 1) := by decide +kernel
theorem dX8_here_5 : decode cX8_here 5 = .ok (.getfield 56, 3) := by decide +kernel
theorem dX8_here_8 : decode cX8_here 8 = .ok (.if_icmp .ge 15, 3) := by decide +kernel
theorem dX8_here_11 : decode cX8_here 11 = .ok (.aload_n 0, 1) := by decide +kernel
theorem dX8_here_12 : decode cX8_here 12 = .ok (.getfield 13, 3) := by decide +kernel
theorem dX8_here_15 : decode cX8_here 15 = .ok (.aload_n 0, 1) := by decide +kernel
theorem dX8_here_16 : decode cX8_here 16 = .ok (.getfield 60, 3) := by decide +kernel
theorem dX8_here_19 : decode cX8_here 19 = .ok (.iaload, 1) := by decide +kernel
theorem dX8_here_20 : decode cX8_here 20 = .ok (.goto 4, 3) := by decide +kernel
theorem dX8_here_23 : decode cX8_here 23 = .ok (.iconst (-1), 1) := by decide +kernel
theorem dX8_here_24 : decode cX8_here 24 = .ok (.ireturn, 1) := by decide +kernel
theorem dX8_takes_0 : decode cX8_takes 0 = .ok (.aload_n 0, 1) := by decide +kernel
theorem dX8_takes_1 : decode cX8_takes 1 = .ok (.invokevirtual 63, 3) := by decide +kernel
theorem dX8_takes_4 : decode cX8_takes 4 = .ok (.iload_n 1, 1) := by decide +kernel
theorem dX8_takes_5 : decode cX8_takes 5 = .ok (.if_icmp .eq 5, 3) := by decide +kernel
theorem dX8_takes_8 : decode cX8_takes 8 = .ok (.iconst 0, 1) := by decide +kernel
theorem dX8_takes_9 : decode cX8_takes 9 = .ok (.ireturn, 1) := by decide +kernel
theorem dX8_takes_10 : decode cX8_takes 10 = .ok (.aload_n 0, 1) := by decide +kernel
theorem dX8_takes_11 : decode cX8_takes 11 = .ok (.dup, 1) := by decide +kernel
theorem dX8_takes_12 : decode cX8_takes 12 = .ok (.getfield 60, 3) := by decide +kernel
theorem dX8_takes_15 : decode cX8_takes 15 = .ok (.iconst 1, 1) := by decide +kernel
theorem dX8_takes_16 : decode cX8_takes 16 = .ok (.iadd, 1) := by decide +kernel
theorem dX8_takes_17 : decode cX8_takes 17 = .ok (.putfield 60, 3) := by decide +kernel
theorem dX8_takes_20 : decode cX8_takes 20 = .ok (.iconst 1, 1) := by decide +kernel
theorem dX8_takes_21 : decode cX8_takes 21 = .ok (.ireturn, 1) := by decide +kernel
theorem dX8_seaOf_0 : decode cX8_seaOf 0 = .ok (.iload_n 0, 1) := by decide +kernel
theorem dX8_seaOf_1 : decode cX8_seaOf 1 = .ok (.bipush 46, 2) := by decide +kernel
theorem dX8_seaOf_3 : decode cX8_seaOf 3 = .ok (.if_icmp .ne 7, 3) := by decide +kernel
theorem dX8_seaOf_6 : decode cX8_seaOf 6 = .ok (.iconst 0, 1) := by decide +kernel
theorem dX8_seaOf_7 : decode cX8_seaOf 7 = .ok (.goto 24, 3) := by decide +kernel
theorem dX8_seaOf_10 : decode cX8_seaOf 10 = .ok (.iload_n 0, 1) := by decide +kernel
theorem dX8_seaOf_11 : decode cX8_seaOf 11 = .ok (.bipush 35, 2) := by decide +kernel
theorem dX8_seaOf_13 : decode cX8_seaOf 13 = .ok (.if_icmp .ne 7, 3) := by decide +kernel
theorem dX8_seaOf_16 : decode cX8_seaOf 16 = .ok (.iconst 1, 1) := by decide +kernel
theorem dX8_seaOf_17 : decode cX8_seaOf 17 = .ok (.goto 14, 3) := by decide +kernel
theorem dX8_seaOf_20 : decode cX8_seaOf 20 = .ok (.iload_n 0, 1) := by decide +kernel
theorem dX8_seaOf_21 : decode cX8_seaOf 21 = .ok (.bipush 111, 2) := by decide +kernel
theorem dX8_seaOf_23 : decode cX8_seaOf 23 = .ok (.if_icmp .ne 7, 3) := by decide +kernel
theorem dX8_seaOf_26 : decode cX8_seaOf 26 = .ok (.iconst 2, 1) := by decide +kernel
theorem dX8_seaOf_27 : decode cX8_seaOf 27 = .ok (.goto 4, 3) := by decide +kernel
theorem dX8_seaOf_30 : decode cX8_seaOf 30 = .ok (.iconst (-1), 1) := by decide +kernel
theorem dX8_seaOf_31 : decode cX8_seaOf 31 = .ok (.ireturn, 1) := by decide +kernel
theorem dX8_kindOf_0 : decode cX8_kindOf 0 = .ok (.iload_n 0, 1) := by decide +kernel
theorem dX8_kindOf_1 : decode cX8_kindOf 1 = .ok (.bipush 111, 2) := by decide +kernel
theorem dX8_kindOf_3 : decode cX8_kindOf 3 = .ok (.if_icmp .ne 7, 3) := by decide +kernel
theorem dX8_kindOf_6 : decode cX8_kindOf 6 = .ok (.iconst 1, 1) := by decide +kernel
theorem dX8_kindOf_7 : decode cX8_kindOf 7 = .ok (.goto 44, 3) := by decide +kernel
theorem dX8_kindOf_10 : decode cX8_kindOf 10 = .ok (.iload_n 0, 1) := by decide +kernel
theorem dX8_kindOf_11 : decode cX8_kindOf 11 = .ok (.bipush 103, 2) := by decide +kernel
theorem dX8_kindOf_13 : decode cX8_kindOf 13 = .ok (.if_icmp .ne 7, 3) := by decide +kernel
theorem dX8_kindOf_16 : decode cX8_kindOf 16 = .ok (.iconst 2, 1) := by decide +kernel
theorem dX8_kindOf_17 : decode cX8_kindOf 17 = .ok (.goto 34, 3) := by decide +kernel
theorem dX8_kindOf_20 : decode cX8_kindOf 20 = .ok (.iload_n 0, 1) := by decide +kernel
theorem dX8_kindOf_21 : decode cX8_kindOf 21 = .ok (.bipush 100, 2) := by decide +kernel
theorem dX8_kindOf_23 : decode cX8_kindOf 23 = .ok (.if_icmp .ne 7, 3) := by decide +kernel
theorem dX8_kindOf_26 : decode cX8_kindOf 26 = .ok (.iconst 3, 1) := by decide +kernel
theorem dX8_kindOf_27 : decode cX8_kindOf 27 = .ok (.goto 24, 3) := by decide +kernel
theorem dX8_kindOf_30 : decode cX8_kindOf 30 = .ok (.iload_n 0, 1) := by decide +kernel
theorem dX8_kindOf_31 : decode cX8_kindOf 31 = .ok (.bipush 116, 2) := by decide +kernel
theorem dX8_kindOf_33 : decode cX8_kindOf 33 = .ok (.if_icmp .ne 7, 3) := by decide +kernel
theorem dX8_kindOf_36 : decode cX8_kindOf 36 = .ok (.iconst 4, 1) := by decide +kernel
theorem dX8_kindOf_37 : decode cX8_kindOf 37 = .ok (.goto 14, 3) := by decide +kernel
theorem dX8_kindOf_40 : decode cX8_kindOf 40 = .ok (.iload_n 0, 1) := by decide +kernel
theorem dX8_kindOf_41 : decode cX8_kindOf 41 = .ok (.bipush 109, 2) := by decide +kernel
theorem dX8_kindOf_43 : decode cX8_kindOf 43 = .ok (.if_icmp .ne 7, 3) := by decide +kernel
theorem dX8_kindOf_46 : decode cX8_kindOf 46 = .ok (.iconst 5, 1) := by decide +kernel
theorem dX8_kindOf_47 : decode cX8_kindOf 47 = .ok (.goto 4, 3) := by decide +kernel
theorem dX8_kindOf_50 : decode cX8_kindOf 50 = .ok (.iconst 0, 1) := by decide +kernel
theorem dX8_kindOf_51 : decode cX8_kindOf 51 = .ok (.ireturn, 1) := by decide +kernel
theorem dX8_lookOf_0 : decode cX8_lookOf 0 = .ok (.iload_n 0, 1) := by decide +kernel
theorem dX8_lookOf_1 : decode cX8_lookOf 1 = .ok (.bipush 110, 2) := by decide +kernel
theorem dX8_lookOf_3 : decode cX8_lookOf 3 = .ok (.if_icmp .ne 7, 3) := by decide +kernel
theorem dX8_lookOf_6 : decode cX8_lookOf 6 = .ok (.iconst 0, 1) := by decide +kernel
theorem dX8_lookOf_7 : decode cX8_lookOf 7 = .ok (.goto 34, 3) := by decide +kernel
theorem dX8_lookOf_10 : decode cX8_lookOf 10 = .ok (.iload_n 0, 1) := by decide +kernel
theorem dX8_lookOf_11 : decode cX8_lookOf 11 = .ok (.bipush 101, 2) := by decide +kernel
theorem dX8_lookOf_13 : decode cX8_lookOf 13 = .ok (.if_icmp .ne 7, 3) := by decide +kernel
theorem dX8_lookOf_16 : decode cX8_lookOf 16 = .ok (.iconst 1, 1) := by decide +kernel
theorem dX8_lookOf_17 : decode cX8_lookOf 17 = .ok (.goto 24, 3) := by decide +kernel
theorem dX8_lookOf_20 : decode cX8_lookOf 20 = .ok (.iload_n 0, 1) := by decide +kernel
theorem dX8_lookOf_21 : decode cX8_lookOf 21 = .ok (.bipush 115, 2) := by decide +kernel
theorem dX8_lookOf_23 : decode cX8_lookOf 23 = .ok (.if_icmp .ne 7, 3) := by decide +kernel
theorem dX8_lookOf_26 : decode cX8_lookOf 26 = .ok (.iconst 2, 1) := by decide +kernel
theorem dX8_lookOf_27 : decode cX8_lookOf 27 = .ok (.goto 14, 3) := by decide +kernel
theorem dX8_lookOf_30 : decode cX8_lookOf 30 = .ok (.iload_n 0, 1) := by decide +kernel
theorem dX8_lookOf_31 : decode cX8_lookOf 31 = .ok (.bipush 119, 2) := by decide +kernel
theorem dX8_lookOf_33 : decode cX8_lookOf 33 = .ok (.if_icmp .ne 7, 3) := by decide +kernel
theorem dX8_lookOf_36 : decode cX8_lookOf 36 = .ok (.iconst 3, 1) := by decide +kernel
theorem dX8_lookOf_37 : decode cX8_lookOf 37 = .ok (.goto 4, 3) := by decide +kernel
theorem dX8_lookOf_40 : decode cX8_lookOf 40 = .ok (.iconst (-1), 1) := by decide +kernel
theorem dX8_lookOf_41 : decode cX8_lookOf 41 = .ok (.ireturn, 1) := by decide +kernel
theorem dX8_figure_0 : decode cX8_figure 0 = .ok (.aload_n 0, 1) := by decide +kernel
theorem dX8_figure_1 : decode cX8_figure 1 = .ok (.invokevirtual 63, 3) := by decide +kernel
theorem dX8_figure_4 : decode cX8_figure 4 = .ok (.bipush 48, 2) := by decide +kernel
theorem dX8_figure_6 : decode cX8_figure 6 = .ok (.isub, 1) := by decide +kernel
theorem dX8_figure_7 : decode cX8_figure 7 = .ok (.istore_n 2, 1) := by decide +kernel
theorem dX8_figure_8 : decode cX8_figure 8 = .ok (.iload_n 2, 1) := by decide +kernel
theorem dX8_figure_9 : decode cX8_figure 9 = .ok (.i2l, 1) := by decide +kernel
theorem dX8_figure_10 : decode cX8_figure 10 = .ok (.lconst 0, 1) := by decide +kernel
theorem dX8_figure_11 : decode cX8_figure 11 = .ok (.iload_n 1, 1) := by decide +kernel
theorem dX8_figure_12 : decode cX8_figure 12 = .ok (.i2l, 1) := by decide +kernel
theorem dX8_figure_13 : decode cX8_figure 13 = .ok (.invokestatic 44, 3) := by decide +kernel
theorem dX8_figure_16 : decode cX8_figure 16 = .ok (.ifCond .ne 5, 3) := by decide +kernel
theorem dX8_figure_19 : decode cX8_figure 19 = .ok (.iconst (-1), 1) := by decide +kernel
theorem dX8_figure_20 : decode cX8_figure 20 = .ok (.ireturn, 1) := by decide +kernel
theorem dX8_figure_21 : decode cX8_figure 21 = .ok (.aload_n 0, 1) := by decide +kernel
theorem dX8_figure_22 : decode cX8_figure 22 = .ok (.dup, 1) := by decide +kernel
theorem dX8_figure_23 : decode cX8_figure 23 = .ok (.getfield 60, 3) := by decide +kernel
theorem dX8_figure_26 : decode cX8_figure 26 = .ok (.iconst 1, 1) := by decide +kernel
theorem dX8_figure_27 : decode cX8_figure 27 = .ok (.iadd, 1) := by decide +kernel
theorem dX8_figure_28 : decode cX8_figure 28 = .ok (.putfield 60, 3) := by decide +kernel
theorem dX8_figure_31 : decode cX8_figure 31 = .ok (.iload_n 2, 1) := by decide +kernel
theorem dX8_figure_32 : decode cX8_figure 32 = .ok (.ireturn, 1) := by decide +kernel
theorem dX8_takesRow_0 : decode cX8_takesRow 0 = .ok (.aload_n 0, 1) := by decide +kernel
theorem dX8_takesRow_1 : decode cX8_takesRow 1 = .ok (.getfield 7, 3) := by decide +kernel
theorem dX8_takesRow_4 : decode cX8_takesRow 4 = .ok (.sipush 241, 3) := by decide +kernel
theorem dX8_takesRow_7 : decode cX8_takesRow 7 = .ok (.iaload, 1) := by decide +kernel
theorem dX8_takesRow_8 : decode cX8_takesRow 8 = .ok (.istore_n 1, 1) := by decide +kernel
theorem dX8_takesRow_9 : decode cX8_takesRow 9 = .ok (.iload_n 1, 1) := by decide +kernel
theorem dX8_takesRow_10 : decode cX8_takesRow 10 = .ok (.ifCond .ne 8, 3) := by decide +kernel
theorem dX8_takesRow_13 : decode cX8_takesRow 13 = .ok (.bipush 8, 2) := by decide +kernel
theorem dX8_takesRow_15 : decode cX8_takesRow 15 = .ok (.goto 11, 3) := by decide +kernel
theorem dX8_takesRow_18 : decode cX8_takesRow 18 = .ok (.aload_n 0, 1) := by decide +kernel
theorem dX8_takesRow_19 : decode cX8_takesRow 19 = .ok (.getfield 7, 3) := by decide +kernel
theorem dX8_takesRow_22 : decode cX8_takesRow 22 = .ok (.sipush 242, 3) := by decide +kernel
theorem dX8_takesRow_25 : decode cX8_takesRow 25 = .ok (.iaload, 1) := by decide +kernel
theorem dX8_takesRow_26 : decode cX8_takesRow 26 = .ok (.istore_n 2, 1) := by decide +kernel
theorem dX8_takesRow_27 : decode cX8_takesRow 27 = .ok (.iconst 0, 1) := by decide +kernel
theorem dX8_takesRow_28 : decode cX8_takesRow 28 = .ok (.istore_n 3, 1) := by decide +kernel
theorem dX8_takesRow_29 : decode cX8_takesRow 29 = .ok (.iload_n 3, 1) := by decide +kernel
theorem dX8_takesRow_30 : decode cX8_takesRow 30 = .ok (.iload_n 2, 1) := by decide +kernel
theorem dX8_takesRow_31 : decode cX8_takesRow 31 = .ok (.if_icmp .ge 51, 3) := by decide +kernel
theorem dX8_takesRow_34 : decode cX8_takesRow 34 = .ok (.aload_n 0, 1) := by decide +kernel
theorem dX8_takesRow_35 : decode cX8_takesRow 35 = .ok (.invokevirtual 63, 3) := by decide +kernel
theorem dX8_takesRow_38 : decode cX8_takesRow 38 = .ok (.invokestatic 67, 3) := by decide +kernel
theorem dX8_takesRow_41 : decode cX8_takesRow 41 = .ok (.ifCond .lt 41, 3) := by decide +kernel
theorem dX8_takesRow_44 : decode cX8_takesRow 44 = .ok (.aload_n 0, 1) := by decide +kernel
theorem dX8_takesRow_45 : decode cX8_takesRow 45 = .ok (.getfield 7, 3) := by decide +kernel
theorem dX8_takesRow_48 : decode cX8_takesRow 48 = .ok (.sipush 243, 3) := by decide +kernel
theorem dX8_takesRow_51 : decode cX8_takesRow 51 = .ok (.bipush 8, 2) := by decide +kernel
theorem dX8_takesRow_53 : decode cX8_takesRow 53 = .ok (.iload_n 1, 1) := by decide +kernel
theorem dX8_takesRow_54 : decode cX8_takesRow 54 = .ok (.imul, 1) := by decide +kernel
theorem dX8_takesRow_55 : decode cX8_takesRow 55 = .ok (.iadd, 1) := by decide +kernel
theorem dX8_takesRow_56 : decode cX8_takesRow 56 = .ok (.iload_n 3, 1) := by decide +kernel
theorem dX8_takesRow_57 : decode cX8_takesRow 57 = .ok (.iadd, 1) := by decide +kernel
theorem dX8_takesRow_58 : decode cX8_takesRow 58 = .ok (.aload_n 0, 1) := by decide +kernel
theorem dX8_takesRow_59 : decode cX8_takesRow 59 = .ok (.invokevirtual 63, 3) := by decide +kernel
theorem dX8_takesRow_62 : decode cX8_takesRow 62 = .ok (.invokestatic 67, 3) := by decide +kernel
theorem dX8_takesRow_65 : decode cX8_takesRow 65 = .ok (.iastore, 1) := by decide +kernel
theorem dX8_takesRow_66 : decode cX8_takesRow 66 = .ok (.iinc 3 1, 3) := by decide +kernel
theorem dX8_takesRow_69 : decode cX8_takesRow 69 = .ok (.aload_n 0, 1) := by decide +kernel
theorem dX8_takesRow_70 : decode cX8_takesRow 70 = .ok (.dup, 1) := by decide +kernel
theorem dX8_takesRow_71 : decode cX8_takesRow 71 = .ok (.getfield 60, 3) := by decide +kernel
theorem dX8_takesRow_74 : decode cX8_takesRow 74 = .ok (.iconst 1, 1) := by decide +kernel
theorem dX8_takesRow_75 : decode cX8_takesRow 75 = .ok (.iadd, 1) := by decide +kernel
theorem dX8_takesRow_76 : decode cX8_takesRow 76 = .ok (.putfield 60, 3) := by decide +kernel
theorem dX8_takesRow_79 : decode cX8_takesRow 79 = .ok (.goto (-50), 3) := by decide +kernel
theorem dX8_takesRow_82 : decode cX8_takesRow 82 = .ok (.iload_n 3, 1) := by decide +kernel
theorem dX8_takesRow_83 : decode cX8_takesRow 83 = .ok (.ifCond .eq 12, 3) := by decide +kernel
theorem dX8_takesRow_86 : decode cX8_takesRow 86 = .ok (.iload_n 1, 1) := by decide +kernel
theorem dX8_takesRow_87 : decode cX8_takesRow 87 = .ok (.ifCond .le 10, 3) := by decide +kernel
theorem dX8_takesRow_90 : decode cX8_takesRow 90 = .ok (.iload_n 3, 1) := by decide +kernel
theorem dX8_takesRow_91 : decode cX8_takesRow 91 = .ok (.iload_n 2, 1) := by decide +kernel
theorem dX8_takesRow_92 : decode cX8_takesRow 92 = .ok (.if_icmp .ge 5, 3) := by decide +kernel
theorem dX8_takesRow_95 : decode cX8_takesRow 95 = .ok (.iconst 0, 1) := by decide +kernel
theorem dX8_takesRow_96 : decode cX8_takesRow 96 = .ok (.ireturn, 1) := by decide +kernel
theorem dX8_takesRow_97 : decode cX8_takesRow 97 = .ok (.aload_n 0, 1) := by decide +kernel
theorem dX8_takesRow_98 : decode cX8_takesRow 98 = .ok (.getfield 7, 3) := by decide +kernel
theorem dX8_takesRow_101 : decode cX8_takesRow 101 = .ok (.sipush 242, 3) := by decide +kernel
theorem dX8_takesRow_104 : decode cX8_takesRow 104 = .ok (.iload_n 3, 1) := by decide +kernel
theorem dX8_takesRow_105 : decode cX8_takesRow 105 = .ok (.iastore, 1) := by decide +kernel
theorem dX8_takesRow_106 : decode cX8_takesRow 106 = .ok (.aload_n 0, 1) := by decide +kernel
theorem dX8_takesRow_107 : decode cX8_takesRow 107 = .ok (.getfield 7, 3) := by decide +kernel
theorem dX8_takesRow_110 : decode cX8_takesRow 110 = .ok (.sipush 241, 3) := by decide +kernel
theorem dX8_takesRow_113 : decode cX8_takesRow 113 = .ok (.dup2, 1) := by decide +kernel
theorem dX8_takesRow_114 : decode cX8_takesRow 114 = .ok (.iaload, 1) := by decide +kernel
theorem dX8_takesRow_115 : decode cX8_takesRow 115 = .ok (.iconst 1, 1) := by decide +kernel
theorem dX8_takesRow_116 : decode cX8_takesRow 116 = .ok (.iadd, 1) := by decide +kernel
theorem dX8_takesRow_117 : decode cX8_takesRow 117 = .ok (.iastore, 1) := by decide +kernel
theorem dX8_takesRow_118 : decode cX8_takesRow 118 = .ok (.iconst 1, 1) := by decide +kernel
theorem dX8_takesRow_119 : decode cX8_takesRow 119 = .ok (.ireturn, 1) := by decide +kernel
theorem dX8_takesShip_0 : decode cX8_takesShip 0 = .ok (.aload_n 0, 1) := by decide +kernel
theorem dX8_takesShip_1 : decode cX8_takesShip 1 = .ok (.getfield 7, 3) := by decide +kernel
theorem dX8_takesShip_4 : decode cX8_takesShip 4 = .ok (.sipush 240, 3) := by decide +kernel
theorem dX8_takesShip_7 : decode cX8_takesShip 7 = .ok (.iaload, 1) := by decide +kernel
theorem dX8_takesShip_8 : decode cX8_takesShip 8 = .ok (.istore_n 1, 1) := by decide +kernel
theorem dX8_takesShip_9 : decode cX8_takesShip 9 = .ok (.aload_n 0, 1) := by decide +kernel
theorem dX8_takesShip_10 : decode cX8_takesShip 10 = .ok (.invokevirtual 63, 3) := by decide +kernel
theorem dX8_takesShip_13 : decode cX8_takesShip 13 = .ok (.invokestatic 71, 3) := by decide +kernel
theorem dX8_takesShip_16 : decode cX8_takesShip 16 = .ok (.istore_n 2, 1) := by decide +kernel
theorem dX8_takesShip_17 : decode cX8_takesShip 17 = .ok (.iload_n 2, 1) := by decide +kernel
theorem dX8_takesShip_18 : decode cX8_takesShip 18 = .ok (.ifCond .ne 5, 3) := by decide +kernel
theorem dX8_takesShip_21 : decode cX8_takesShip 21 = .ok (.iconst 0, 1) := by decide +kernel
theorem dX8_takesShip_22 : decode cX8_takesShip 22 = .ok (.ireturn, 1) := by decide +kernel
theorem dX8_takesShip_23 : decode cX8_takesShip 23 = .ok (.aload_n 0, 1) := by decide +kernel
theorem dX8_takesShip_24 : decode cX8_takesShip 24 = .ok (.dup, 1) := by decide +kernel
theorem dX8_takesShip_25 : decode cX8_takesShip 25 = .ok (.getfield 60, 3) := by decide +kernel
theorem dX8_takesShip_28 : decode cX8_takesShip 28 = .ok (.iconst 1, 1) := by decide +kernel
theorem dX8_takesShip_29 : decode cX8_takesShip 29 = .ok (.iadd, 1) := by decide +kernel
theorem dX8_takesShip_30 : decode cX8_takesShip 30 = .ok (.putfield 60, 3) := by decide +kernel
theorem dX8_takesShip_33 : decode cX8_takesShip 33 = .ok (.aload_n 0, 1) := by decide +kernel
theorem dX8_takesShip_34 : decode cX8_takesShip 34 = .ok (.aload_n 0, 1) := by decide +kernel
theorem dX8_takesShip_35 : decode cX8_takesShip 35 = .ok (.getfield 7, 3) := by decide +kernel
theorem dX8_takesShip_38 : decode cX8_takesShip 38 = .ok (.sipush 241, 3) := by decide +kernel
theorem dX8_takesShip_41 : decode cX8_takesShip 41 = .ok (.iaload, 1) := by decide +kernel
theorem dX8_takesShip_42 : decode cX8_takesShip 42 = .ok (.iconst 1, 1) := by decide +kernel
theorem dX8_takesShip_43 : decode cX8_takesShip 43 = .ok (.isub, 1) := by decide +kernel
theorem dX8_takesShip_44 : decode cX8_takesShip 44 = .ok (.invokevirtual 74, 3) := by decide +kernel
theorem dX8_takesShip_47 : decode cX8_takesShip 47 = .ok (.istore_n 3, 1) := by decide +kernel
theorem dX8_takesShip_48 : decode cX8_takesShip 48 = .ok (.iload_n 3, 1) := by decide +kernel
theorem dX8_takesShip_49 : decode cX8_takesShip 49 = .ok (.ifCond .ge 5, 3) := by decide +kernel
theorem dX8_takesShip_52 : decode cX8_takesShip 52 = .ok (.iconst 0, 1) := by decide +kernel
theorem dX8_takesShip_53 : decode cX8_takesShip 53 = .ok (.ireturn, 1) := by decide +kernel
theorem dX8_takesShip_54 : decode cX8_takesShip 54 = .ok (.aload_n 0, 1) := by decide +kernel
theorem dX8_takesShip_55 : decode cX8_takesShip 55 = .ok (.invokevirtual 63, 3) := by decide +kernel
theorem dX8_takesShip_58 : decode cX8_takesShip 58 = .ok (.bipush 48, 2) := by decide +kernel
theorem dX8_takesShip_60 : decode cX8_takesShip 60 = .ok (.isub, 1) := by decide +kernel
theorem dX8_takesShip_61 : decode cX8_takesShip 61 = .ok (.istore 4, 2) := by decide +kernel
theorem dX8_takesShip_63 : decode cX8_takesShip 63 = .ok (.iload 4, 2) := by decide +kernel
theorem dX8_takesShip_65 : decode cX8_takesShip 65 = .ok (.i2l, 1) := by decide +kernel
theorem dX8_takesShip_66 : decode cX8_takesShip 66 = .ok (.lconst 0, 1) := by decide +kernel
theorem dX8_takesShip_67 : decode cX8_takesShip 67 = .ok (.ldc2_w 77, 3) := by decide +kernel
theorem dX8_takesShip_70 : decode cX8_takesShip 70 = .ok (.invokestatic 44, 3) := by decide +kernel
theorem dX8_takesShip_73 : decode cX8_takesShip 73 = .ok (.ifCond .eq 36, 3) := by decide +kernel
theorem dX8_takesShip_76 : decode cX8_takesShip 76 = .ok (.aload_n 0, 1) := by decide +kernel
theorem dX8_takesShip_77 : decode cX8_takesShip 77 = .ok (.sipush 240, 3) := by decide +kernel
theorem dX8_takesShip_80 : decode cX8_takesShip 80 = .ok (.iload_n 3, 1) := by decide +kernel
theorem dX8_takesShip_81 : decode cX8_takesShip 81 = .ok (.iload 4, 2) := by decide +kernel
theorem dX8_takesShip_83 : decode cX8_takesShip 83 = .ok (.invokevirtual 50, 3) := by decide +kernel
theorem dX8_takesShip_86 : decode cX8_takesShip 86 = .ok (.ifCond .eq 23, 3) := by decide +kernel
theorem dX8_takesShip_89 : decode cX8_takesShip 89 = .ok (.aload_n 0, 1) := by decide +kernel
theorem dX8_takesShip_90 : decode cX8_takesShip 90 = .ok (.getfield 7, 3) := by decide +kernel
theorem dX8_takesShip_93 : decode cX8_takesShip 93 = .ok (.sipush 243, 3) := by decide +kernel
theorem dX8_takesShip_96 : decode cX8_takesShip 96 = .ok (.bipush 8, 2) := by decide +kernel
theorem dX8_takesShip_98 : decode cX8_takesShip 98 = .ok (.iload_n 3, 1) := by decide +kernel
theorem dX8_takesShip_99 : decode cX8_takesShip 99 = .ok (.imul, 1) := by decide +kernel
theorem dX8_takesShip_100 : decode cX8_takesShip 100 = .ok (.iadd, 1) := by decide +kernel
theorem dX8_takesShip_101 : decode cX8_takesShip 101 = .ok (.iload 4, 2) := by decide +kernel
theorem dX8_takesShip_103 : decode cX8_takesShip 103 = .ok (.iadd, 1) := by decide +kernel
theorem dX8_takesShip_104 : decode cX8_takesShip 104 = .ok (.iaload, 1) := by decide +kernel
theorem dX8_takesShip_105 : decode cX8_takesShip 105 = .ok (.iconst 1, 1) := by decide +kernel
theorem dX8_takesShip_106 : decode cX8_takesShip 106 = .ok (.if_icmp .ne 5, 3) := by decide +kernel
theorem dX8_takesShip_109 : decode cX8_takesShip 109 = .ok (.iconst 0, 1) := by decide +kernel
theorem dX8_takesShip_110 : decode cX8_takesShip 110 = .ok (.ireturn, 1) := by decide +kernel
theorem dX8_takesShip_111 : decode cX8_takesShip 111 = .ok (.aload_n 0, 1) := by decide +kernel
theorem dX8_takesShip_112 : decode cX8_takesShip 112 = .ok (.dup, 1) := by decide +kernel
theorem dX8_takesShip_113 : decode cX8_takesShip 113 = .ok (.getfield 60, 3) := by decide +kernel
theorem dX8_takesShip_116 : decode cX8_takesShip 116 = .ok (.iconst 1, 1) := by decide +kernel
theorem dX8_takesShip_117 : decode cX8_takesShip 117 = .ok (.iadd, 1) := by decide +kernel
theorem dX8_takesShip_118 : decode cX8_takesShip 118 = .ok (.putfield 60, 3) := by decide +kernel
theorem dX8_takesShip_121 : decode cX8_takesShip 121 = .ok (.aload_n 0, 1) := by decide +kernel
theorem dX8_takesShip_122 : decode cX8_takesShip 122 = .ok (.invokevirtual 63, 3) := by decide +kernel
theorem dX8_takesShip_125 : decode cX8_takesShip 125 = .ok (.invokestatic 79, 3) := by decide +kernel
theorem dX8_takesShip_128 : decode cX8_takesShip 128 = .ok (.istore 5, 2) := by decide +kernel
theorem dX8_takesShip_130 : decode cX8_takesShip 130 = .ok (.iload 5, 2) := by decide +kernel
theorem dX8_takesShip_132 : decode cX8_takesShip 132 = .ok (.ifCond .ge 5, 3) := by decide +kernel
theorem dX8_takesShip_135 : decode cX8_takesShip 135 = .ok (.iconst 0, 1) := by decide +kernel
theorem dX8_takesShip_136 : decode cX8_takesShip 136 = .ok (.ireturn, 1) := by decide +kernel
theorem dX8_takesShip_137 : decode cX8_takesShip 137 = .ok (.aload_n 0, 1) := by decide +kernel
theorem dX8_takesShip_138 : decode cX8_takesShip 138 = .ok (.dup, 1) := by decide +kernel
theorem dX8_takesShip_139 : decode cX8_takesShip 139 = .ok (.getfield 60, 3) := by decide +kernel
theorem dX8_takesShip_142 : decode cX8_takesShip 142 = .ok (.iconst 1, 1) := by decide +kernel
theorem dX8_takesShip_143 : decode cX8_takesShip 143 = .ok (.iadd, 1) := by decide +kernel
theorem dX8_takesShip_144 : decode cX8_takesShip 144 = .ok (.putfield 60, 3) := by decide +kernel
theorem dX8_takesShip_147 : decode cX8_takesShip 147 = .ok (.aload_n 0, 1) := by decide +kernel
theorem dX8_takesShip_148 : decode cX8_takesShip 148 = .ok (.iconst 5, 1) := by decide +kernel
theorem dX8_takesShip_149 : decode cX8_takesShip 149 = .ok (.invokevirtual 74, 3) := by decide +kernel
theorem dX8_takesShip_152 : decode cX8_takesShip 152 = .ok (.istore 6, 2) := by decide +kernel
theorem dX8_takesShip_154 : decode cX8_takesShip 154 = .ok (.iload 6, 2) := by decide +kernel
theorem dX8_takesShip_156 : decode cX8_takesShip 156 = .ok (.ifCond .ge 5, 3) := by decide +kernel
theorem dX8_takesShip_159 : decode cX8_takesShip 159 = .ok (.iconst 0, 1) := by decide +kernel
theorem dX8_takesShip_160 : decode cX8_takesShip 160 = .ok (.ireturn, 1) := by decide +kernel
theorem dX8_takesShip_161 : decode cX8_takesShip 161 = .ok (.aload_n 0, 1) := by decide +kernel
theorem dX8_takesShip_162 : decode cX8_takesShip 162 = .ok (.getfield 7, 3) := by decide +kernel
theorem dX8_takesShip_165 : decode cX8_takesShip 165 = .ok (.sipush 291, 3) := by decide +kernel
theorem dX8_takesShip_168 : decode cX8_takesShip 168 = .ok (.iload_n 1, 1) := by decide +kernel
theorem dX8_takesShip_169 : decode cX8_takesShip 169 = .ok (.iadd, 1) := by decide +kernel
theorem dX8_takesShip_170 : decode cX8_takesShip 170 = .ok (.iload_n 2, 1) := by decide +kernel
theorem dX8_takesShip_171 : decode cX8_takesShip 171 = .ok (.iastore, 1) := by decide +kernel
theorem dX8_takesShip_172 : decode cX8_takesShip 172 = .ok (.aload_n 0, 1) := by decide +kernel
theorem dX8_takesShip_173 : decode cX8_takesShip 173 = .ok (.getfield 7, 3) := by decide +kernel
theorem dX8_takesShip_176 : decode cX8_takesShip 176 = .ok (.sipush 298, 3) := by decide +kernel
theorem dX8_takesShip_179 : decode cX8_takesShip 179 = .ok (.iload_n 1, 1) := by decide +kernel
theorem dX8_takesShip_180 : decode cX8_takesShip 180 = .ok (.iadd, 1) := by decide +kernel
theorem dX8_takesShip_181 : decode cX8_takesShip 181 = .ok (.bipush 8, 2) := by decide +kernel
theorem dX8_takesShip_183 : decode cX8_takesShip 183 = .ok (.iload_n 3, 1) := by decide +kernel
theorem dX8_takesShip_184 : decode cX8_takesShip 184 = .ok (.imul, 1) := by decide +kernel
theorem dX8_takesShip_185 : decode cX8_takesShip 185 = .ok (.iload 4, 2) := by decide +kernel
theorem dX8_takesShip_187 : decode cX8_takesShip 187 = .ok (.iadd, 1) := by decide +kernel
theorem dX8_takesShip_188 : decode cX8_takesShip 188 = .ok (.iastore, 1) := by decide +kernel
theorem dX8_takesShip_189 : decode cX8_takesShip 189 = .ok (.aload_n 0, 1) := by decide +kernel
theorem dX8_takesShip_190 : decode cX8_takesShip 190 = .ok (.getfield 7, 3) := by decide +kernel
theorem dX8_takesShip_193 : decode cX8_takesShip 193 = .ok (.sipush 304, 3) := by decide +kernel
theorem dX8_takesShip_196 : decode cX8_takesShip 196 = .ok (.iload_n 1, 1) := by decide +kernel
theorem dX8_takesShip_197 : decode cX8_takesShip 197 = .ok (.iadd, 1) := by decide +kernel
theorem dX8_takesShip_198 : decode cX8_takesShip 198 = .ok (.iload 5, 2) := by decide +kernel
theorem dX8_takesShip_200 : decode cX8_takesShip 200 = .ok (.iastore, 1) := by decide +kernel
theorem dX8_takesShip_201 : decode cX8_takesShip 201 = .ok (.aload_n 0, 1) := by decide +kernel
theorem dX8_takesShip_202 : decode cX8_takesShip 202 = .ok (.getfield 7, 3) := by decide +kernel
theorem dX8_takesShip_205 : decode cX8_takesShip 205 = .ok (.sipush 310, 3) := by decide +kernel
theorem dX8_takesShip_208 : decode cX8_takesShip 208 = .ok (.iload_n 1, 1) := by decide +kernel
theorem dX8_takesShip_209 : decode cX8_takesShip 209 = .ok (.iadd, 1) := by decide +kernel
theorem dX8_takesShip_210 : decode cX8_takesShip 210 = .ok (.iload 6, 2) := by decide +kernel
theorem dX8_takesShip_212 : decode cX8_takesShip 212 = .ok (.iastore, 1) := by decide +kernel
theorem dX8_takesShip_213 : decode cX8_takesShip 213 = .ok (.aload_n 0, 1) := by decide +kernel
theorem dX8_takesShip_214 : decode cX8_takesShip 214 = .ok (.getfield 7, 3) := by decide +kernel
theorem dX8_takesShip_217 : decode cX8_takesShip 217 = .ok (.sipush 240, 3) := by decide +kernel
theorem dX8_takesShip_220 : decode cX8_takesShip 220 = .ok (.dup2, 1) := by decide +kernel
theorem dX8_takesShip_221 : decode cX8_takesShip 221 = .ok (.iaload, 1) := by decide +kernel
theorem dX8_takesShip_222 : decode cX8_takesShip 222 = .ok (.iconst 1, 1) := by decide +kernel
theorem dX8_takesShip_223 : decode cX8_takesShip 223 = .ok (.iadd, 1) := by decide +kernel
theorem dX8_takesShip_224 : decode cX8_takesShip 224 = .ok (.iastore, 1) := by decide +kernel
theorem dX8_takesShip_225 : decode cX8_takesShip 225 = .ok (.iconst 1, 1) := by decide +kernel
theorem dX8_takesShip_226 : decode cX8_takesShip 226 = .ok (.ireturn, 1) := by decide +kernel
theorem dX8_takesAll_0 : decode cX8_takesAll 0 = .ok (.aload_n 0, 1) := by decide +kernel
theorem dX8_takesAll_1 : decode cX8_takesAll 1 = .ok (.bipush 102, 2) := by decide +kernel
theorem dX8_takesAll_3 : decode cX8_takesAll 3 = .ok (.invokevirtual 82, 3) := by decide +kernel
theorem dX8_takesAll_6 : decode cX8_takesAll 6 = .ok (.ifCond .ne 5, 3) := by decide +kernel
theorem dX8_takesAll_9 : decode cX8_takesAll 9 = .ok (.iconst 0, 1) := by decide +kernel
theorem dX8_takesAll_10 : decode cX8_takesAll 10 = .ok (.ireturn, 1) := by decide +kernel
theorem dX8_takesAll_11 : decode cX8_takesAll 11 = .ok (.aload_n 0, 1) := by decide +kernel
theorem dX8_takesAll_12 : decode cX8_takesAll 12 = .ok (.invokevirtual 86, 3) := by decide +kernel
theorem dX8_takesAll_15 : decode cX8_takesAll 15 = .ok (.ifCond .ne 5, 3) := by decide +kernel
theorem dX8_takesAll_18 : decode cX8_takesAll 18 = .ok (.iconst 0, 1) := by decide +kernel
theorem dX8_takesAll_19 : decode cX8_takesAll 19 = .ok (.ireturn, 1) := by decide +kernel
theorem dX8_takesAll_20 : decode cX8_takesAll 20 = .ok (.aload_n 0, 1) := by decide +kernel
theorem dX8_takesAll_21 : decode cX8_takesAll 21 = .ok (.getfield 7, 3) := by decide +kernel
theorem dX8_takesAll_24 : decode cX8_takesAll 24 = .ok (.sipush 241, 3) := by decide +kernel
theorem dX8_takesAll_27 : decode cX8_takesAll 27 = .ok (.iaload, 1) := by decide +kernel
theorem dX8_takesAll_28 : decode cX8_takesAll 28 = .ok (.bipush 6, 2) := by decide +kernel
theorem dX8_takesAll_30 : decode cX8_takesAll 30 = .ok (.if_icmp .ge 12, 3) := by decide +kernel
theorem dX8_takesAll_33 : decode cX8_takesAll 33 = .ok (.aload_n 0, 1) := by decide +kernel
theorem dX8_takesAll_34 : decode cX8_takesAll 34 = .ok (.bipush 47, 2) := by decide +kernel
theorem dX8_takesAll_36 : decode cX8_takesAll 36 = .ok (.invokevirtual 82, 3) := by decide +kernel
theorem dX8_takesAll_39 : decode cX8_takesAll 39 = .ok (.ifCond .ne (-28), 3) := by decide +kernel
theorem dX8_takesAll_42 : decode cX8_takesAll 42 = .ok (.aload_n 0, 1) := by decide +kernel
theorem dX8_takesAll_43 : decode cX8_takesAll 43 = .ok (.bipush 59, 2) := by decide +kernel
theorem dX8_takesAll_45 : decode cX8_takesAll 45 = .ok (.invokevirtual 82, 3) := by decide +kernel
theorem dX8_takesAll_48 : decode cX8_takesAll 48 = .ok (.ifCond .ne 5, 3) := by decide +kernel
theorem dX8_takesAll_51 : decode cX8_takesAll 51 = .ok (.iconst 0, 1) := by decide +kernel
theorem dX8_takesAll_52 : decode cX8_takesAll 52 = .ok (.ireturn, 1) := by decide +kernel
theorem dX8_takesAll_53 : decode cX8_takesAll 53 = .ok (.aload_n 0, 1) := by decide +kernel
theorem dX8_takesAll_54 : decode cX8_takesAll 54 = .ok (.invokevirtual 90, 3) := by decide +kernel
theorem dX8_takesAll_57 : decode cX8_takesAll 57 = .ok (.ifCond .ne 5, 3) := by decide +kernel
theorem dX8_takesAll_60 : decode cX8_takesAll 60 = .ok (.iconst 0, 1) := by decide +kernel
theorem dX8_takesAll_61 : decode cX8_takesAll 61 = .ok (.ireturn, 1) := by decide +kernel
theorem dX8_takesAll_62 : decode cX8_takesAll 62 = .ok (.aload_n 0, 1) := by decide +kernel
theorem dX8_takesAll_63 : decode cX8_takesAll 63 = .ok (.getfield 7, 3) := by decide +kernel
theorem dX8_takesAll_66 : decode cX8_takesAll 66 = .ok (.sipush 240, 3) := by decide +kernel
theorem dX8_takesAll_69 : decode cX8_takesAll 69 = .ok (.iaload, 1) := by decide +kernel
theorem dX8_takesAll_70 : decode cX8_takesAll 70 = .ok (.bipush 6, 2) := by decide +kernel
theorem dX8_takesAll_72 : decode cX8_takesAll 72 = .ok (.if_icmp .ge 12, 3) := by decide +kernel
theorem dX8_takesAll_75 : decode cX8_takesAll 75 = .ok (.aload_n 0, 1) := by decide +kernel
theorem dX8_takesAll_76 : decode cX8_takesAll 76 = .ok (.bipush 44, 2) := by decide +kernel
theorem dX8_takesAll_78 : decode cX8_takesAll 78 = .ok (.invokevirtual 82, 3) := by decide +kernel
theorem dX8_takesAll_81 : decode cX8_takesAll 81 = .ok (.ifCond .ne (-28), 3) := by decide +kernel
theorem dX8_takesAll_84 : decode cX8_takesAll 84 = .ok (.aload_n 0, 1) := by decide +kernel
theorem dX8_takesAll_85 : decode cX8_takesAll 85 = .ok (.bipush 59, 2) := by decide +kernel
theorem dX8_takesAll_87 : decode cX8_takesAll 87 = .ok (.invokevirtual 82, 3) := by decide +kernel
theorem dX8_takesAll_90 : decode cX8_takesAll 90 = .ok (.ifCond .ne 5, 3) := by decide +kernel
theorem dX8_takesAll_93 : decode cX8_takesAll 93 = .ok (.iconst 0, 1) := by decide +kernel
theorem dX8_takesAll_94 : decode cX8_takesAll 94 = .ok (.ireturn, 1) := by decide +kernel
theorem dX8_takesAll_95 : decode cX8_takesAll 95 = .ok (.iconst 0, 1) := by decide +kernel
theorem dX8_takesAll_96 : decode cX8_takesAll 96 = .ok (.istore_n 1, 1) := by decide +kernel
theorem dX8_takesAll_97 : decode cX8_takesAll 97 = .ok (.iload_n 1, 1) := by decide +kernel
theorem dX8_takesAll_98 : decode cX8_takesAll 98 = .ok (.iconst 4, 1) := by decide +kernel
theorem dX8_takesAll_99 : decode cX8_takesAll 99 = .ok (.if_icmp .ge 33, 3) := by decide +kernel
theorem dX8_takesAll_102 : decode cX8_takesAll 102 = .ok (.aload_n 0, 1) := by decide +kernel
theorem dX8_takesAll_103 : decode cX8_takesAll 103 = .ok (.bipush 9, 2) := by decide +kernel
theorem dX8_takesAll_105 : decode cX8_takesAll 105 = .ok (.invokevirtual 74, 3) := by decide +kernel
theorem dX8_takesAll_108 : decode cX8_takesAll 108 = .ok (.istore_n 2, 1) := by decide +kernel
theorem dX8_takesAll_109 : decode cX8_takesAll 109 = .ok (.iload_n 2, 1) := by decide +kernel
theorem dX8_takesAll_110 : decode cX8_takesAll 110 = .ok (.ifCond .ge 5, 3) := by decide +kernel
theorem dX8_takesAll_113 : decode cX8_takesAll 113 = .ok (.iconst 0, 1) := by decide +kernel
theorem dX8_takesAll_114 : decode cX8_takesAll 114 = .ok (.ireturn, 1) := by decide +kernel
theorem dX8_takesAll_115 : decode cX8_takesAll 115 = .ok (.aload_n 0, 1) := by decide +kernel
theorem dX8_takesAll_116 : decode cX8_takesAll 116 = .ok (.getfield 7, 3) := by decide +kernel
theorem dX8_takesAll_119 : decode cX8_takesAll 119 = .ok (.sipush 316, 3) := by decide +kernel
theorem dX8_takesAll_122 : decode cX8_takesAll 122 = .ok (.iload_n 1, 1) := by decide +kernel
theorem dX8_takesAll_123 : decode cX8_takesAll 123 = .ok (.iadd, 1) := by decide +kernel
theorem dX8_takesAll_124 : decode cX8_takesAll 124 = .ok (.iload_n 2, 1) := by decide +kernel
theorem dX8_takesAll_125 : decode cX8_takesAll 125 = .ok (.iastore, 1) := by decide +kernel
theorem dX8_takesAll_126 : decode cX8_takesAll 126 = .ok (.iinc 1 1, 3) := by decide +kernel
theorem dX8_takesAll_129 : decode cX8_takesAll 129 = .ok (.goto (-32), 3) := by decide +kernel
theorem dX8_takesAll_132 : decode cX8_takesAll 132 = .ok (.aload_n 0, 1) := by decide +kernel
theorem dX8_takesAll_133 : decode cX8_takesAll 133 = .ok (.getfield 60, 3) := by decide +kernel
theorem dX8_takesAll_136 : decode cX8_takesAll 136 = .ok (.aload_n 0, 1) := by decide +kernel
theorem dX8_takesAll_137 : decode cX8_takesAll 137 = .ok (.getfield 56, 3) := by decide +kernel
theorem dX8_takesAll_140 : decode cX8_takesAll 140 = .ok (.if_icmp .ne 7, 3) := by decide +kernel
theorem dX8_takesAll_143 : decode cX8_takesAll 143 = .ok (.iconst 1, 1) := by decide +kernel
theorem dX8_takesAll_144 : decode cX8_takesAll 144 = .ok (.goto 4, 3) := by decide +kernel
theorem dX8_takesAll_147 : decode cX8_takesAll 147 = .ok (.iconst 0, 1) := by decide +kernel
theorem dX8_takesAll_148 : decode cX8_takesAll 148 = .ok (.ireturn, 1) := by decide +kernel
theorem dX8_fleet_0 : decode cX8_fleet 0 = .ok (.iconst 0, 1) := by decide +kernel
theorem dX8_fleet_1 : decode cX8_fleet 1 = .ok (.istore_n 1, 1) := by decide +kernel
theorem dX8_fleet_2 : decode cX8_fleet 2 = .ok (.iload_n 1, 1) := by decide +kernel
theorem dX8_fleet_3 : decode cX8_fleet 3 = .ok (.bipush 80, 2) := by decide +kernel
theorem dX8_fleet_5 : decode cX8_fleet 5 = .ok (.if_icmp .ge 20, 3) := by decide +kernel
theorem dX8_fleet_8 : decode cX8_fleet 8 = .ok (.aload_n 0, 1) := by decide +kernel
theorem dX8_fleet_9 : decode cX8_fleet 9 = .ok (.getfield 7, 3) := by decide +kernel
theorem dX8_fleet_12 : decode cX8_fleet 12 = .ok (.sipush 240, 3) := by decide +kernel
theorem dX8_fleet_15 : decode cX8_fleet 15 = .ok (.iload_n 1, 1) := by decide +kernel
theorem dX8_fleet_16 : decode cX8_fleet 16 = .ok (.iadd, 1) := by decide +kernel
theorem dX8_fleet_17 : decode cX8_fleet 17 = .ok (.iconst 0, 1) := by decide +kernel
theorem dX8_fleet_18 : decode cX8_fleet 18 = .ok (.iastore, 1) := by decide +kernel
theorem dX8_fleet_19 : decode cX8_fleet 19 = .ok (.iinc 1 1, 3) := by decide +kernel
theorem dX8_fleet_22 : decode cX8_fleet 22 = .ok (.goto (-20), 3) := by decide +kernel
theorem dX8_fleet_25 : decode cX8_fleet 25 = .ok (.aload_n 0, 1) := by decide +kernel
theorem dX8_fleet_26 : decode cX8_fleet 26 = .ok (.iconst 0, 1) := by decide +kernel
theorem dX8_fleet_27 : decode cX8_fleet 27 = .ok (.putfield 60, 3) := by decide +kernel
theorem dX8_fleet_30 : decode cX8_fleet 30 = .ok (.aload_n 0, 1) := by decide +kernel
theorem dX8_fleet_31 : decode cX8_fleet 31 = .ok (.invokevirtual 93, 3) := by decide +kernel
theorem dX8_fleet_34 : decode cX8_fleet 34 = .ok (.istore_n 1, 1) := by decide +kernel
theorem dX8_fleet_35 : decode cX8_fleet 35 = .ok (.aload_n 0, 1) := by decide +kernel
theorem dX8_fleet_36 : decode cX8_fleet 36 = .ok (.iconst 0, 1) := by decide +kernel
theorem dX8_fleet_37 : decode cX8_fleet 37 = .ok (.putfield 56, 3) := by decide +kernel
theorem dX8_fleet_40 : decode cX8_fleet 40 = .ok (.iload_n 1, 1) := by decide +kernel
theorem dX8_fleet_41 : decode cX8_fleet 41 = .ok (.ifCond .ne 11, 3) := by decide +kernel
theorem dX8_fleet_44 : decode cX8_fleet 44 = .ok (.bipush (-100), 2) := by decide +kernel
theorem dX8_fleet_46 : decode cX8_fleet 46 = .ok (.aload_n 0, 1) := by decide +kernel
theorem dX8_fleet_47 : decode cX8_fleet 47 = .ok (.getfield 60, 3) := by decide +kernel
theorem dX8_fleet_50 : decode cX8_fleet 50 = .ok (.isub, 1) := by decide +kernel
theorem dX8_fleet_51 : decode cX8_fleet 51 = .ok (.ireturn, 1) := by decide +kernel
theorem dX8_fleet_52 : decode cX8_fleet 52 = .ok (.aload_n 0, 1) := by decide +kernel
theorem dX8_fleet_53 : decode cX8_fleet 53 = .ok (.sipush 240, 3) := by decide +kernel
theorem dX8_fleet_56 : decode cX8_fleet 56 = .ok (.iconst 0, 1) := by decide +kernel
theorem dX8_fleet_57 : decode cX8_fleet 57 = .ok (.bipush 80, 2) := by decide +kernel
theorem dX8_fleet_59 : decode cX8_fleet 59 = .ok (.invokevirtual 96, 3) := by decide +kernel
theorem dX8_fleet_62 : decode cX8_fleet 62 = .ok (.aload_n 0, 1) := by decide +kernel
theorem dX8_fleet_63 : decode cX8_fleet 63 = .ok (.iconst 0, 1) := by decide +kernel
theorem dX8_fleet_64 : decode cX8_fleet 64 = .ok (.putfield 100, 3) := by decide +kernel
theorem dX8_fleet_67 : decode cX8_fleet 67 = .ok (.aload_n 0, 1) := by decide +kernel
theorem dX8_fleet_68 : decode cX8_fleet 68 = .ok (.getfield 7, 3) := by decide +kernel
theorem dX8_fleet_71 : decode cX8_fleet 71 = .ok (.iconst 0, 1) := by decide +kernel
theorem dX8_fleet_72 : decode cX8_fleet 72 = .ok (.iaload, 1) := by decide +kernel
theorem dX8_fleet_73 : decode cX8_fleet 73 = .ok (.ireturn, 1) := by decide +kernel
theorem dX8_ship_0 : decode cX8_ship 0 = .ok (.aload_n 0, 1) := by decide +kernel
theorem dX8_ship_1 : decode cX8_ship 1 = .ok (.iload_n 1, 1) := by decide +kernel
theorem dX8_ship_2 : decode cX8_ship 2 = .ok (.invokevirtual 103, 3) := by decide +kernel
theorem dX8_ship_5 : decode cX8_ship 5 = .ok (.ifCond .ne 5, 3) := by decide +kernel
theorem dX8_ship_8 : decode cX8_ship 8 = .ok (.iconst (-1), 1) := by decide +kernel
theorem dX8_ship_9 : decode cX8_ship 9 = .ok (.ireturn, 1) := by decide +kernel
theorem dX8_ship_10 : decode cX8_ship 10 = .ok (.iload_n 2, 1) := by decide +kernel
theorem dX8_ship_11 : decode cX8_ship 11 = .ok (.ifCond .ne 15, 3) := by decide +kernel
theorem dX8_ship_14 : decode cX8_ship 14 = .ok (.aload_n 0, 1) := by decide +kernel
theorem dX8_ship_15 : decode cX8_ship 15 = .ok (.getfield 7, 3) := by decide +kernel
theorem dX8_ship_18 : decode cX8_ship 18 = .ok (.bipush 51, 2) := by decide +kernel
theorem dX8_ship_20 : decode cX8_ship 20 = .ok (.iload_n 1, 1) := by decide +kernel
theorem dX8_ship_21 : decode cX8_ship 21 = .ok (.iadd, 1) := by decide +kernel
theorem dX8_ship_22 : decode cX8_ship 22 = .ok (.iaload, 1) := by decide +kernel
theorem dX8_ship_23 : decode cX8_ship 23 = .ok (.goto 55, 3) := by decide +kernel
theorem dX8_ship_26 : decode cX8_ship 26 = .ok (.iload_n 2, 1) := by decide +kernel
theorem dX8_ship_27 : decode cX8_ship 27 = .ok (.iconst 1, 1) := by decide +kernel
theorem dX8_ship_28 : decode cX8_ship 28 = .ok (.if_icmp .ne 15, 3) := by decide +kernel
theorem dX8_ship_31 : decode cX8_ship 31 = .ok (.aload_n 0, 1) := by decide +kernel
theorem dX8_ship_32 : decode cX8_ship 32 = .ok (.getfield 7, 3) := by decide +kernel
theorem dX8_ship_35 : decode cX8_ship 35 = .ok (.bipush 58, 2) := by decide +kernel
theorem dX8_ship_37 : decode cX8_ship 37 = .ok (.iload_n 1, 1) := by decide +kernel
theorem dX8_ship_38 : decode cX8_ship 38 = .ok (.iadd, 1) := by decide +kernel
theorem dX8_ship_39 : decode cX8_ship 39 = .ok (.iaload, 1) := by decide +kernel
theorem dX8_ship_40 : decode cX8_ship 40 = .ok (.goto 38, 3) := by decide +kernel
theorem dX8_ship_43 : decode cX8_ship 43 = .ok (.iload_n 2, 1) := by decide +kernel
theorem dX8_ship_44 : decode cX8_ship 44 = .ok (.iconst 2, 1) := by decide +kernel
theorem dX8_ship_45 : decode cX8_ship 45 = .ok (.if_icmp .ne 15, 3) := by decide +kernel
theorem dX8_ship_48 : decode cX8_ship 48 = .ok (.aload_n 0, 1) := by decide +kernel
theorem dX8_ship_49 : decode cX8_ship 49 = .ok (.getfield 7, 3) := by decide +kernel
theorem dX8_ship_52 : decode cX8_ship 52 = .ok (.bipush 64, 2) := by decide +kernel
theorem dX8_ship_54 : decode cX8_ship 54 = .ok (.iload_n 1, 1) := by decide +kernel
theorem dX8_ship_55 : decode cX8_ship 55 = .ok (.iadd, 1) := by decide +kernel
theorem dX8_ship_56 : decode cX8_ship 56 = .ok (.iaload, 1) := by decide +kernel
theorem dX8_ship_57 : decode cX8_ship 57 = .ok (.goto 21, 3) := by decide +kernel
theorem dX8_ship_60 : decode cX8_ship 60 = .ok (.iload_n 2, 1) := by decide +kernel
theorem dX8_ship_61 : decode cX8_ship 61 = .ok (.iconst 3, 1) := by decide +kernel
theorem dX8_ship_62 : decode cX8_ship 62 = .ok (.if_icmp .ne 15, 3) := by decide +kernel
theorem dX8_ship_65 : decode cX8_ship 65 = .ok (.aload_n 0, 1) := by decide +kernel
theorem dX8_ship_66 : decode cX8_ship 66 = .ok (.getfield 7, 3) := by decide +kernel
theorem dX8_ship_69 : decode cX8_ship 69 = .ok (.bipush 70, 2) := by decide +kernel
theorem dX8_ship_71 : decode cX8_ship 71 = .ok (.iload_n 1, 1) := by decide +kernel
theorem dX8_ship_72 : decode cX8_ship 72 = .ok (.iadd, 1) := by decide +kernel
theorem dX8_ship_73 : decode cX8_ship 73 = .ok (.iaload, 1) := by decide +kernel
theorem dX8_ship_74 : decode cX8_ship 74 = .ok (.goto 4, 3) := by decide +kernel
theorem dX8_ship_77 : decode cX8_ship 77 = .ok (.iconst (-1), 1) := by decide +kernel
theorem dX8_ship_78 : decode cX8_ship 78 = .ok (.ireturn, 1) := by decide +kernel
theorem dX8_isA_0 : decode cX8_isA 0 = .ok (.iload_n 1, 1) := by decide +kernel
theorem dX8_isA_1 : decode cX8_isA 1 = .ok (.ifCond .eq 38, 3) := by decide +kernel
theorem dX8_isA_4 : decode cX8_isA 4 = .ok (.iload_n 1, 1) := by decide +kernel
theorem dX8_isA_5 : decode cX8_isA 5 = .ok (.iload_n 0, 1) := by decide +kernel
theorem dX8_isA_6 : decode cX8_isA 6 = .ok (.if_icmp .eq 33, 3) := by decide +kernel
theorem dX8_isA_9 : decode cX8_isA 9 = .ok (.iload_n 1, 1) := by decide +kernel
theorem dX8_isA_10 : decode cX8_isA 10 = .ok (.iconst 1, 1) := by decide +kernel
theorem dX8_isA_11 : decode cX8_isA 11 = .ok (.if_icmp .ne 18, 3) := by decide +kernel
theorem dX8_isA_14 : decode cX8_isA 14 = .ok (.iload_n 0, 1) := by decide +kernel
theorem dX8_isA_15 : decode cX8_isA 15 = .ok (.iconst 2, 1) := by decide +kernel
theorem dX8_isA_16 : decode cX8_isA 16 = .ok (.if_icmp .eq 23, 3) := by decide +kernel
theorem dX8_isA_19 : decode cX8_isA 19 = .ok (.iload_n 0, 1) := by decide +kernel
theorem dX8_isA_20 : decode cX8_isA 20 = .ok (.iconst 4, 1) := by decide +kernel
theorem dX8_isA_21 : decode cX8_isA 21 = .ok (.if_icmp .eq 18, 3) := by decide +kernel
theorem dX8_isA_24 : decode cX8_isA 24 = .ok (.iload_n 0, 1) := by decide +kernel
theorem dX8_isA_25 : decode cX8_isA 25 = .ok (.iconst 5, 1) := by decide +kernel
theorem dX8_isA_26 : decode cX8_isA 26 = .ok (.if_icmp .eq 13, 3) := by decide +kernel
theorem dX8_isA_29 : decode cX8_isA 29 = .ok (.iload_n 1, 1) := by decide +kernel
theorem dX8_isA_30 : decode cX8_isA 30 = .ok (.iconst 2, 1) := by decide +kernel
theorem dX8_isA_31 : decode cX8_isA 31 = .ok (.if_icmp .ne 12, 3) := by decide +kernel
theorem dX8_isA_34 : decode cX8_isA 34 = .ok (.iload_n 0, 1) := by decide +kernel
theorem dX8_isA_35 : decode cX8_isA 35 = .ok (.iconst 5, 1) := by decide +kernel
theorem dX8_isA_36 : decode cX8_isA 36 = .ok (.if_icmp .ne 7, 3) := by decide +kernel
theorem dX8_isA_39 : decode cX8_isA 39 = .ok (.iconst 1, 1) := by decide +kernel
theorem dX8_isA_40 : decode cX8_isA 40 = .ok (.goto 4, 3) := by decide +kernel
theorem dX8_isA_43 : decode cX8_isA 43 = .ok (.iconst 0, 1) := by decide +kernel
theorem dX8_isA_44 : decode cX8_isA 44 = .ok (.ireturn, 1) := by decide +kernel
theorem dX8_as_0 : decode cX8_as 0 = .ok (.aload_n 0, 1) := by decide +kernel
theorem dX8_as_1 : decode cX8_as 1 = .ok (.iload_n 1, 1) := by decide +kernel
theorem dX8_as_2 : decode cX8_as 2 = .ok (.invokevirtual 103, 3) := by decide +kernel
theorem dX8_as_5 : decode cX8_as 5 = .ok (.ifCond .eq 15, 3) := by decide +kernel
theorem dX8_as_8 : decode cX8_as 8 = .ok (.iload_n 2, 1) := by decide +kernel
theorem dX8_as_9 : decode cX8_as 9 = .ok (.i2l, 1) := by decide +kernel
theorem dX8_as_10 : decode cX8_as 10 = .ok (.lconst 0, 1) := by decide +kernel
theorem dX8_as_11 : decode cX8_as 11 = .ok (.ldc2_w 106, 3) := by decide +kernel
theorem dX8_as_14 : decode cX8_as 14 = .ok (.invokestatic 44, 3) := by decide +kernel
theorem dX8_as_17 : decode cX8_as 17 = .ok (.ifCond .ne 5, 3) := by decide +kernel
theorem dX8_as_20 : decode cX8_as 20 = .ok (.iconst (-1), 1) := by decide +kernel
theorem dX8_as_21 : decode cX8_as 21 = .ok (.ireturn, 1) := by decide +kernel
theorem dX8_as_22 : decode cX8_as 22 = .ok (.aload_n 0, 1) := by decide +kernel
theorem dX8_as_23 : decode cX8_as 23 = .ok (.getfield 7, 3) := by decide +kernel
theorem dX8_as_26 : decode cX8_as 26 = .ok (.bipush 51, 2) := by decide +kernel
theorem dX8_as_28 : decode cX8_as 28 = .ok (.iload_n 1, 1) := by decide +kernel
theorem dX8_as_29 : decode cX8_as 29 = .ok (.iadd, 1) := by decide +kernel
theorem dX8_as_30 : decode cX8_as 30 = .ok (.iaload, 1) := by decide +kernel
theorem dX8_as_31 : decode cX8_as 31 = .ok (.iload_n 2, 1) := by decide +kernel
theorem dX8_as_32 : decode cX8_as 32 = .ok (.invokestatic 108, 3) := by decide +kernel
theorem dX8_as_35 : decode cX8_as 35 = .ok (.ifCond .eq 7, 3) := by decide +kernel
theorem dX8_as_38 : decode cX8_as 38 = .ok (.iload_n 1, 1) := by decide +kernel
theorem dX8_as_39 : decode cX8_as 39 = .ok (.goto 5, 3) := by decide +kernel
theorem dX8_as_42 : decode cX8_as 42 = .ok (.bipush (-12), 2) := by decide +kernel
theorem dX8_as_44 : decode cX8_as 44 = .ok (.ireturn, 1) := by decide +kernel
theorem dX8_sea_0 : decode cX8_sea 0 = .ok (.aload_n 0, 1) := by decide +kernel
theorem dX8_sea_1 : decode cX8_sea 1 = .ok (.iload_n 1, 1) := by decide +kernel
theorem dX8_sea_2 : decode cX8_sea 2 = .ok (.invokevirtual 112, 3) := by decide +kernel
theorem dX8_sea_5 : decode cX8_sea 5 = .ok (.ifCond .eq 14, 3) := by decide +kernel
theorem dX8_sea_8 : decode cX8_sea 8 = .ok (.aload_n 0, 1) := by decide +kernel
theorem dX8_sea_9 : decode cX8_sea 9 = .ok (.getfield 7, 3) := by decide +kernel
theorem dX8_sea_12 : decode cX8_sea 12 = .ok (.iconst 3, 1) := by decide +kernel
theorem dX8_sea_13 : decode cX8_sea 13 = .ok (.iload_n 1, 1) := by decide +kernel
theorem dX8_sea_14 : decode cX8_sea 14 = .ok (.iadd, 1) := by decide +kernel
theorem dX8_sea_15 : decode cX8_sea 15 = .ok (.iaload, 1) := by decide +kernel
theorem dX8_sea_16 : decode cX8_sea 16 = .ok (.goto 4, 3) := by decide +kernel
theorem dX8_sea_19 : decode cX8_sea 19 = .ok (.iconst (-1), 1) := by decide +kernel
theorem dX8_sea_20 : decode cX8_sea 20 = .ok (.ireturn, 1) := by decide +kernel
theorem dX8_credit_0 : decode cX8_credit 0 = .ok (.aload_n 0, 1) := by decide +kernel
theorem dX8_credit_1 : decode cX8_credit 1 = .ok (.invokevirtual 115, 3) := by decide +kernel
theorem dX8_credit_4 : decode cX8_credit 4 = .ok (.ifCond .eq 22, 3) := by decide +kernel
theorem dX8_credit_7 : decode cX8_credit 7 = .ok (.iload_n 1, 1) := by decide +kernel
theorem dX8_credit_8 : decode cX8_credit 8 = .ok (.invokestatic 118, 3) := by decide +kernel
theorem dX8_credit_11 : decode cX8_credit 11 = .ok (.ifCond .eq 15, 3) := by decide +kernel
theorem dX8_credit_14 : decode cX8_credit 14 = .ok (.aload_n 0, 1) := by decide +kernel
theorem dX8_credit_15 : decode cX8_credit 15 = .ok (.getfield 7, 3) := by decide +kernel
theorem dX8_credit_18 : decode cX8_credit 18 = .ok (.bipush 76, 2) := by decide +kernel
theorem dX8_credit_20 : decode cX8_credit 20 = .ok (.iload_n 1, 1) := by decide +kernel
theorem dX8_credit_21 : decode cX8_credit 21 = .ok (.iadd, 1) := by decide +kernel
theorem dX8_credit_22 : decode cX8_credit 22 = .ok (.iaload, 1) := by decide +kernel
theorem dX8_credit_23 : decode cX8_credit 23 = .ok (.goto 4, 3) := by decide +kernel
theorem dX8_credit_26 : decode cX8_credit 26 = .ok (.iconst (-1), 1) := by decide +kernel
theorem dX8_credit_27 : decode cX8_credit 27 = .ok (.ireturn, 1) := by decide +kernel
theorem dX8_oak_0 : decode cX8_oak 0 = .ok (.iconst 3, 1) := by decide +kernel
theorem dX8_oak_1 : decode cX8_oak 1 = .ok (.aload_n 0, 1) := by decide +kernel
theorem dX8_oak_2 : decode cX8_oak 2 = .ok (.getfield 7, 3) := by decide +kernel
theorem dX8_oak_5 : decode cX8_oak 5 = .ok (.iload_n 1, 1) := by decide +kernel
theorem dX8_oak_6 : decode cX8_oak 6 = .ok (.bipush 70, 2) := by decide +kernel
theorem dX8_oak_8 : decode cX8_oak 8 = .ok (.iadd, 1) := by decide +kernel
theorem dX8_oak_9 : decode cX8_oak 9 = .ok (.iload_n 2, 1) := by decide +kernel
theorem dX8_oak_10 : decode cX8_oak 10 = .ok (.iadd, 1) := by decide +kernel
theorem dX8_oak_11 : decode cX8_oak 11 = .ok (.iaload, 1) := by decide +kernel
theorem dX8_oak_12 : decode cX8_oak 12 = .ok (.iadd, 1) := by decide +kernel
theorem dX8_oak_13 : decode cX8_oak 13 = .ok (.ireturn, 1) := by decide +kernel
theorem dX8_doubtIn_0 : decode cX8_doubtIn 0 = .ok (.aload_n 0, 1) := by decide +kernel
theorem dX8_doubtIn_1 : decode cX8_doubtIn 1 = .ok (.getfield 7, 3) := by decide +kernel
theorem dX8_doubtIn_4 : decode cX8_doubtIn 4 = .ok (.iload_n 1, 1) := by decide +kernel
theorem dX8_doubtIn_5 : decode cX8_doubtIn 5 = .ok (.bipush 51, 2) := by decide +kernel
theorem dX8_doubtIn_7 : decode cX8_doubtIn 7 = .ok (.iadd, 1) := by decide +kernel
theorem dX8_doubtIn_8 : decode cX8_doubtIn 8 = .ok (.iload_n 2, 1) := by decide +kernel
theorem dX8_doubtIn_9 : decode cX8_doubtIn 9 = .ok (.iadd, 1) := by decide +kernel
theorem dX8_doubtIn_10 : decode cX8_doubtIn 10 = .ok (.iaload, 1) := by decide +kernel
theorem dX8_doubtIn_11 : decode cX8_doubtIn 11 = .ok (.tableswitch 59 2 5 #[29, 38, 41, 29], 29) := by decide +kernel
theorem dX8_doubtIn_40 : decode cX8_doubtIn 40 = .ok (.aload_n 0, 1) := by decide +kernel
theorem dX8_doubtIn_41 : decode cX8_doubtIn 41 = .ok (.iload_n 1, 1) := by decide +kernel
theorem dX8_doubtIn_42 : decode cX8_doubtIn 42 = .ok (.iload_n 2, 1) := by decide +kernel
theorem dX8_doubtIn_43 : decode cX8_doubtIn 43 = .ok (.invokevirtual 121, 3) := by decide +kernel
theorem dX8_doubtIn_46 : decode cX8_doubtIn 46 = .ok (.iconst 2, 1) := by decide +kernel
theorem dX8_doubtIn_47 : decode cX8_doubtIn 47 = .ok (.isub, 1) := by decide +kernel
theorem dX8_doubtIn_48 : decode cX8_doubtIn 48 = .ok (.ireturn, 1) := by decide +kernel
theorem dX8_doubtIn_49 : decode cX8_doubtIn 49 = .ok (.bipush 10, 2) := by decide +kernel
theorem dX8_doubtIn_51 : decode cX8_doubtIn 51 = .ok (.ireturn, 1) := by decide +kernel
theorem dX8_doubtIn_52 : decode cX8_doubtIn 52 = .ok (.iload_n 3, 1) := by decide +kernel
theorem dX8_doubtIn_53 : decode cX8_doubtIn 53 = .ok (.ifCond .ne 14, 3) := by decide +kernel
theorem dX8_doubtIn_56 : decode cX8_doubtIn 56 = .ok (.aload_n 0, 1) := by decide +kernel
theorem dX8_doubtIn_57 : decode cX8_doubtIn 57 = .ok (.iload_n 1, 1) := by decide +kernel
theorem dX8_doubtIn_58 : decode cX8_doubtIn 58 = .ok (.iload_n 2, 1) := by decide +kernel
theorem dX8_doubtIn_59 : decode cX8_doubtIn 59 = .ok (.invokevirtual 121, 3) := by decide +kernel
theorem dX8_doubtIn_62 : decode cX8_doubtIn 62 = .ok (.iconst 3, 1) := by decide +kernel
theorem dX8_doubtIn_63 : decode cX8_doubtIn 63 = .ok (.isub, 1) := by decide +kernel
theorem dX8_doubtIn_64 : decode cX8_doubtIn 64 = .ok (.goto 5, 3) := by decide +kernel
theorem dX8_doubtIn_67 : decode cX8_doubtIn 67 = .ok (.bipush 10, 2) := by decide +kernel
theorem dX8_doubtIn_69 : decode cX8_doubtIn 69 = .ok (.ireturn, 1) := by decide +kernel
theorem dX8_doubtIn_70 : decode cX8_doubtIn 70 = .ok (.aload_n 0, 1) := by decide +kernel
theorem dX8_doubtIn_71 : decode cX8_doubtIn 71 = .ok (.iload_n 1, 1) := by decide +kernel
theorem dX8_doubtIn_72 : decode cX8_doubtIn 72 = .ok (.iload_n 2, 1) := by decide +kernel
theorem dX8_doubtIn_73 : decode cX8_doubtIn 73 = .ok (.invokevirtual 121, 3) := by decide +kernel
theorem dX8_doubtIn_76 : decode cX8_doubtIn 76 = .ok (.ireturn, 1) := by decide +kernel
theorem dX8_believesIn_0 : decode cX8_believesIn 0 = .ok (.aload_n 0, 1) := by decide +kernel
theorem dX8_believesIn_1 : decode cX8_believesIn 1 = .ok (.getfield 7, 3) := by decide +kernel
theorem dX8_believesIn_4 : decode cX8_believesIn 4 = .ok (.iload_n 1, 1) := by decide +kernel
theorem dX8_believesIn_5 : decode cX8_believesIn 5 = .ok (.bipush 76, 2) := by decide +kernel
theorem dX8_believesIn_7 : decode cX8_believesIn 7 = .ok (.iadd, 1) := by decide +kernel
theorem dX8_believesIn_8 : decode cX8_believesIn 8 = .ok (.iload_n 3, 1) := by decide +kernel
theorem dX8_believesIn_9 : decode cX8_believesIn 9 = .ok (.iadd, 1) := by decide +kernel
theorem dX8_believesIn_10 : decode cX8_believesIn 10 = .ok (.iaload, 1) := by decide +kernel
theorem dX8_believesIn_11 : decode cX8_believesIn 11 = .ok (.aload_n 0, 1) := by decide +kernel
theorem dX8_believesIn_12 : decode cX8_believesIn 12 = .ok (.iload_n 1, 1) := by decide +kernel
theorem dX8_believesIn_13 : decode cX8_believesIn 13 = .ok (.iload_n 2, 1) := by decide +kernel
theorem dX8_believesIn_14 : decode cX8_believesIn 14 = .ok (.iload_n 3, 1) := by decide +kernel
theorem dX8_believesIn_15 : decode cX8_believesIn 15 = .ok (.invokevirtual 125, 3) := by decide +kernel
theorem dX8_believesIn_18 : decode cX8_believesIn 18 = .ok (.if_icmp .lt 7, 3) := by decide +kernel
theorem dX8_believesIn_21 : decode cX8_believesIn 21 = .ok (.iconst 1, 1) := by decide +kernel
theorem dX8_believesIn_22 : decode cX8_believesIn 22 = .ok (.goto 4, 3) := by decide +kernel
theorem dX8_believesIn_25 : decode cX8_believesIn 25 = .ok (.iconst 0, 1) := by decide +kernel
theorem dX8_believesIn_26 : decode cX8_believesIn 26 = .ok (.ireturn, 1) := by decide +kernel
theorem dX8_doubt_0 : decode cX8_doubt 0 = .ok (.aload_n 0, 1) := by decide +kernel
theorem dX8_doubt_1 : decode cX8_doubt 1 = .ok (.iload_n 1, 1) := by decide +kernel
theorem dX8_doubt_2 : decode cX8_doubt 2 = .ok (.invokevirtual 103, 3) := by decide +kernel
theorem dX8_doubt_5 : decode cX8_doubt 5 = .ok (.ifCond .eq 20, 3) := by decide +kernel
theorem dX8_doubt_8 : decode cX8_doubt 8 = .ok (.iload_n 2, 1) := by decide +kernel
theorem dX8_doubt_9 : decode cX8_doubt 9 = .ok (.invokestatic 118, 3) := by decide +kernel
theorem dX8_doubt_12 : decode cX8_doubt 12 = .ok (.ifCond .eq 13, 3) := by decide +kernel
theorem dX8_doubt_15 : decode cX8_doubt 15 = .ok (.aload_n 0, 1) := by decide +kernel
theorem dX8_doubt_16 : decode cX8_doubt 16 = .ok (.iconst 0, 1) := by decide +kernel
theorem dX8_doubt_17 : decode cX8_doubt 17 = .ok (.iload_n 1, 1) := by decide +kernel
theorem dX8_doubt_18 : decode cX8_doubt 18 = .ok (.iload_n 2, 1) := by decide +kernel
theorem dX8_doubt_19 : decode cX8_doubt 19 = .ok (.invokevirtual 125, 3) := by decide +kernel
theorem dX8_doubt_22 : decode cX8_doubt 22 = .ok (.goto 4, 3) := by decide +kernel
theorem dX8_doubt_25 : decode cX8_doubt 25 = .ok (.iconst (-1), 1) := by decide +kernel
theorem dX8_doubt_26 : decode cX8_doubt 26 = .ok (.ireturn, 1) := by decide +kernel
theorem dX8_turned_0 : decode cX8_turned 0 = .ok (.aload_n 0, 1) := by decide +kernel
theorem dX8_turned_1 : decode cX8_turned 1 = .ok (.getfield 7, 3) := by decide +kernel
theorem dX8_turned_4 : decode cX8_turned 4 = .ok (.iload_n 1, 1) := by decide +kernel
theorem dX8_turned_5 : decode cX8_turned 5 = .ok (.bipush 51, 2) := by decide +kernel
theorem dX8_turned_7 : decode cX8_turned 7 = .ok (.iadd, 1) := by decide +kernel
theorem dX8_turned_8 : decode cX8_turned 8 = .ok (.iload_n 2, 1) := by decide +kernel
theorem dX8_turned_9 : decode cX8_turned 9 = .ok (.iadd, 1) := by decide +kernel
theorem dX8_turned_10 : decode cX8_turned 10 = .ok (.iaload, 1) := by decide +kernel
theorem dX8_turned_11 : decode cX8_turned 11 = .ok (.iconst 5, 1) := by decide +kernel
theorem dX8_turned_12 : decode cX8_turned 12 = .ok (.if_icmp .ne 13, 3) := by decide +kernel
theorem dX8_turned_15 : decode cX8_turned 15 = .ok (.iload_n 3, 1) := by decide +kernel
theorem dX8_turned_16 : decode cX8_turned 16 = .ok (.ifCond .le 9, 3) := by decide +kernel
theorem dX8_turned_19 : decode cX8_turned 19 = .ok (.iconst 3, 1) := by decide +kernel
theorem dX8_turned_20 : decode cX8_turned 20 = .ok (.iload_n 3, 1) := by decide +kernel
theorem dX8_turned_21 : decode cX8_turned 21 = .ok (.isub, 1) := by decide +kernel
theorem dX8_turned_22 : decode cX8_turned 22 = .ok (.goto 4, 3) := by decide +kernel
theorem dX8_turned_25 : decode cX8_turned 25 = .ok (.iload_n 3, 1) := by decide +kernel
theorem dX8_turned_26 : decode cX8_turned 26 = .ok (.istore 4, 2) := by decide +kernel
theorem dX8_turned_28 : decode cX8_turned 28 = .ok (.aload_n 0, 1) := by decide +kernel
theorem dX8_turned_29 : decode cX8_turned 29 = .ok (.getfield 7, 3) := by decide +kernel
theorem dX8_turned_32 : decode cX8_turned 32 = .ok (.iload_n 1, 1) := by decide +kernel
theorem dX8_turned_33 : decode cX8_turned 33 = .ok (.bipush 64, 2) := by decide +kernel
theorem dX8_turned_35 : decode cX8_turned 35 = .ok (.iadd, 1) := by decide +kernel
theorem dX8_turned_36 : decode cX8_turned 36 = .ok (.iload_n 2, 1) := by decide +kernel
theorem dX8_turned_37 : decode cX8_turned 37 = .ok (.iadd, 1) := by decide +kernel
theorem dX8_turned_38 : decode cX8_turned 38 = .ok (.iaload, 1) := by decide +kernel
theorem dX8_turned_39 : decode cX8_turned 39 = .ok (.iload 4, 2) := by decide +kernel
theorem dX8_turned_41 : decode cX8_turned 41 = .ok (.iconst 1, 1) := by decide +kernel
theorem dX8_turned_42 : decode cX8_turned 42 = .ok (.if_icmp .ne 7, 3) := by decide +kernel
theorem dX8_turned_45 : decode cX8_turned 45 = .ok (.iconst 3, 1) := by decide +kernel
theorem dX8_turned_46 : decode cX8_turned 46 = .ok (.goto 14, 3) := by decide +kernel
theorem dX8_turned_49 : decode cX8_turned 49 = .ok (.iload 4, 2) := by decide +kernel
theorem dX8_turned_51 : decode cX8_turned 51 = .ok (.iconst 2, 1) := by decide +kernel
theorem dX8_turned_52 : decode cX8_turned 52 = .ok (.if_icmp .ne 7, 3) := by decide +kernel
theorem dX8_turned_55 : decode cX8_turned 55 = .ok (.iconst 1, 1) := by decide +kernel
theorem dX8_turned_56 : decode cX8_turned 56 = .ok (.goto 4, 3) := by decide +kernel
theorem dX8_turned_59 : decode cX8_turned 59 = .ok (.iconst 0, 1) := by decide +kernel
theorem dX8_turned_60 : decode cX8_turned 60 = .ok (.iadd, 1) := by decide +kernel
theorem dX8_turned_61 : decode cX8_turned 61 = .ok (.iconst 4, 1) := by decide +kernel
theorem dX8_turned_62 : decode cX8_turned 62 = .ok (.irem, 1) := by decide +kernel
theorem dX8_turned_63 : decode cX8_turned 63 = .ok (.ireturn, 1) := by decide +kernel
theorem dX8_nextOf_0 : decode cX8_nextOf 0 = .ok (.iload_n 2, 1) := by decide +kernel
theorem dX8_nextOf_1 : decode cX8_nextOf 1 = .ok (.bipush 8, 2) := by decide +kernel
theorem dX8_nextOf_3 : decode cX8_nextOf 3 = .ok (.idiv, 1) := by decide +kernel
theorem dX8_nextOf_4 : decode cX8_nextOf 4 = .ok (.iload_n 3, 1) := by decide +kernel
theorem dX8_nextOf_5 : decode cX8_nextOf 5 = .ok (.ifCond .ne 7, 3) := by decide +kernel
theorem dX8_nextOf_8 : decode cX8_nextOf 8 = .ok (.iconst (-1), 1) := by decide +kernel
theorem dX8_nextOf_9 : decode cX8_nextOf 9 = .ok (.goto 13, 3) := by decide +kernel
theorem dX8_nextOf_12 : decode cX8_nextOf 12 = .ok (.iload_n 3, 1) := by decide +kernel
theorem dX8_nextOf_13 : decode cX8_nextOf 13 = .ok (.iconst 2, 1) := by decide +kernel
theorem dX8_nextOf_14 : decode cX8_nextOf 14 = .ok (.if_icmp .ne 7, 3) := by decide +kernel
theorem dX8_nextOf_17 : decode cX8_nextOf 17 = .ok (.iconst 1, 1) := by decide +kernel
theorem dX8_nextOf_18 : decode cX8_nextOf 18 = .ok (.goto 4, 3) := by decide +kernel
theorem dX8_nextOf_21 : decode cX8_nextOf 21 = .ok (.iconst 0, 1) := by decide +kernel
theorem dX8_nextOf_22 : decode cX8_nextOf 22 = .ok (.iadd, 1) := by decide +kernel
theorem dX8_nextOf_23 : decode cX8_nextOf 23 = .ok (.istore 4, 2) := by decide +kernel
theorem dX8_nextOf_25 : decode cX8_nextOf 25 = .ok (.iload_n 2, 1) := by decide +kernel
theorem dX8_nextOf_26 : decode cX8_nextOf 26 = .ok (.bipush 8, 2) := by decide +kernel
theorem dX8_nextOf_28 : decode cX8_nextOf 28 = .ok (.irem, 1) := by decide +kernel
theorem dX8_nextOf_29 : decode cX8_nextOf 29 = .ok (.iload_n 3, 1) := by decide +kernel
theorem dX8_nextOf_30 : decode cX8_nextOf 30 = .ok (.iconst 1, 1) := by decide +kernel
theorem dX8_nextOf_31 : decode cX8_nextOf 31 = .ok (.if_icmp .ne 7, 3) := by decide +kernel
theorem dX8_nextOf_34 : decode cX8_nextOf 34 = .ok (.iconst 1, 1) := by decide +kernel
theorem dX8_nextOf_35 : decode cX8_nextOf 35 = .ok (.goto 13, 3) := by decide +kernel
theorem dX8_nextOf_38 : decode cX8_nextOf 38 = .ok (.iload_n 3, 1) := by decide +kernel
theorem dX8_nextOf_39 : decode cX8_nextOf 39 = .ok (.iconst 3, 1) := by decide +kernel
theorem dX8_nextOf_40 : decode cX8_nextOf 40 = .ok (.if_icmp .ne 7, 3) := by decide +kernel
theorem dX8_nextOf_43 : decode cX8_nextOf 43 = .ok (.iconst (-1), 1) := by decide +kernel
theorem dX8_nextOf_44 : decode cX8_nextOf 44 = .ok (.goto 4, 3) := by decide +kernel
theorem dX8_nextOf_47 : decode cX8_nextOf 47 = .ok (.iconst 0, 1) := by decide +kernel
theorem dX8_nextOf_48 : decode cX8_nextOf 48 = .ok (.iadd, 1) := by decide +kernel
theorem dX8_nextOf_49 : decode cX8_nextOf 49 = .ok (.istore 5, 2) := by decide +kernel
theorem dX8_nextOf_51 : decode cX8_nextOf 51 = .ok (.aload_n 0, 1) := by decide +kernel
theorem dX8_nextOf_52 : decode cX8_nextOf 52 = .ok (.iload_n 1, 1) := by decide +kernel
theorem dX8_nextOf_53 : decode cX8_nextOf 53 = .ok (.iload 4, 2) := by decide +kernel
theorem dX8_nextOf_55 : decode cX8_nextOf 55 = .ok (.iload 5, 2) := by decide +kernel
theorem dX8_nextOf_57 : decode cX8_nextOf 57 = .ok (.invokevirtual 50, 3) := by decide +kernel
theorem dX8_nextOf_60 : decode cX8_nextOf 60 = .ok (.ifCond .eq 35, 3) := by decide +kernel
theorem dX8_nextOf_63 : decode cX8_nextOf 63 = .ok (.aload_n 0, 1) := by decide +kernel
theorem dX8_nextOf_64 : decode cX8_nextOf 64 = .ok (.getfield 7, 3) := by decide +kernel
theorem dX8_nextOf_67 : decode cX8_nextOf 67 = .ok (.iload_n 1, 1) := by decide +kernel
theorem dX8_nextOf_68 : decode cX8_nextOf 68 = .ok (.iconst 3, 1) := by decide +kernel
theorem dX8_nextOf_69 : decode cX8_nextOf 69 = .ok (.iadd, 1) := by decide +kernel
theorem dX8_nextOf_70 : decode cX8_nextOf 70 = .ok (.bipush 8, 2) := by decide +kernel
theorem dX8_nextOf_72 : decode cX8_nextOf 72 = .ok (.iload 4, 2) := by decide +kernel
theorem dX8_nextOf_74 : decode cX8_nextOf 74 = .ok (.imul, 1) := by decide +kernel
theorem dX8_nextOf_75 : decode cX8_nextOf 75 = .ok (.iadd, 1) := by decide +kernel
theorem dX8_nextOf_76 : decode cX8_nextOf 76 = .ok (.iload 5, 2) := by decide +kernel
theorem dX8_nextOf_78 : decode cX8_nextOf 78 = .ok (.iadd, 1) := by decide +kernel
theorem dX8_nextOf_79 : decode cX8_nextOf 79 = .ok (.iaload, 1) := by decide +kernel
theorem dX8_nextOf_80 : decode cX8_nextOf 80 = .ok (.iconst 1, 1) := by decide +kernel
theorem dX8_nextOf_81 : decode cX8_nextOf 81 = .ok (.if_icmp .eq 14, 3) := by decide +kernel
theorem dX8_nextOf_84 : decode cX8_nextOf 84 = .ok (.bipush 8, 2) := by decide +kernel
theorem dX8_nextOf_86 : decode cX8_nextOf 86 = .ok (.iload 4, 2) := by decide +kernel
theorem dX8_nextOf_88 : decode cX8_nextOf 88 = .ok (.imul, 1) := by decide +kernel
theorem dX8_nextOf_89 : decode cX8_nextOf 89 = .ok (.iload 5, 2) := by decide +kernel
theorem dX8_nextOf_91 : decode cX8_nextOf 91 = .ok (.iadd, 1) := by decide +kernel
theorem dX8_nextOf_92 : decode cX8_nextOf 92 = .ok (.goto 4, 3) := by decide +kernel
theorem dX8_nextOf_95 : decode cX8_nextOf 95 = .ok (.iconst (-1), 1) := by decide +kernel
theorem dX8_nextOf_96 : decode cX8_nextOf 96 = .ok (.ireturn, 1) := by decide +kernel
theorem dX8_wormed_0 : decode cX8_wormed 0 = .ok (.aload_n 0, 1) := by decide +kernel
theorem dX8_wormed_1 : decode cX8_wormed 1 = .ok (.getfield 7, 3) := by decide +kernel
theorem dX8_wormed_4 : decode cX8_wormed 4 = .ok (.iload_n 1, 1) := by decide +kernel
theorem dX8_wormed_5 : decode cX8_wormed 5 = .ok (.bipush 70, 2) := by decide +kernel
theorem dX8_wormed_7 : decode cX8_wormed 7 = .ok (.iadd, 1) := by decide +kernel
theorem dX8_wormed_8 : decode cX8_wormed 8 = .ok (.iload_n 2, 1) := by decide +kernel
theorem dX8_wormed_9 : decode cX8_wormed 9 = .ok (.iadd, 1) := by decide +kernel
theorem dX8_wormed_10 : decode cX8_wormed 10 = .ok (.aload_n 0, 1) := by decide +kernel
theorem dX8_wormed_11 : decode cX8_wormed 11 = .ok (.getfield 7, 3) := by decide +kernel
theorem dX8_wormed_14 : decode cX8_wormed 14 = .ok (.iload_n 1, 1) := by decide +kernel
theorem dX8_wormed_15 : decode cX8_wormed 15 = .ok (.bipush 70, 2) := by decide +kernel
theorem dX8_wormed_17 : decode cX8_wormed 17 = .ok (.iadd, 1) := by decide +kernel
theorem dX8_wormed_18 : decode cX8_wormed 18 = .ok (.iload_n 2, 1) := by decide +kernel
theorem dX8_wormed_19 : decode cX8_wormed 19 = .ok (.iadd, 1) := by decide +kernel
theorem dX8_wormed_20 : decode cX8_wormed 20 = .ok (.iaload, 1) := by decide +kernel
theorem dX8_wormed_21 : decode cX8_wormed 21 = .ok (.iconst 5, 1) := by decide +kernel
theorem dX8_wormed_22 : decode cX8_wormed 22 = .ok (.if_icmp .ge 19, 3) := by decide +kernel
theorem dX8_wormed_25 : decode cX8_wormed 25 = .ok (.aload_n 0, 1) := by decide +kernel
theorem dX8_wormed_26 : decode cX8_wormed 26 = .ok (.getfield 7, 3) := by decide +kernel
theorem dX8_wormed_29 : decode cX8_wormed 29 = .ok (.iload_n 1, 1) := by decide +kernel
theorem dX8_wormed_30 : decode cX8_wormed 30 = .ok (.bipush 70, 2) := by decide +kernel
theorem dX8_wormed_32 : decode cX8_wormed 32 = .ok (.iadd, 1) := by decide +kernel
theorem dX8_wormed_33 : decode cX8_wormed 33 = .ok (.iload_n 2, 1) := by decide +kernel
theorem dX8_wormed_34 : decode cX8_wormed 34 = .ok (.iadd, 1) := by decide +kernel
theorem dX8_wormed_35 : decode cX8_wormed 35 = .ok (.iaload, 1) := by decide +kernel
theorem dX8_wormed_36 : decode cX8_wormed 36 = .ok (.iconst 1, 1) := by decide +kernel
theorem dX8_wormed_37 : decode cX8_wormed 37 = .ok (.iadd, 1) := by decide +kernel
theorem dX8_wormed_38 : decode cX8_wormed 38 = .ok (.goto 4, 3) := by decide +kernel
theorem dX8_wormed_41 : decode cX8_wormed 41 = .ok (.iconst 5, 1) := by decide +kernel
theorem dX8_wormed_42 : decode cX8_wormed 42 = .ok (.iastore, 1) := by decide +kernel
theorem dX8_wormed_43 : decode cX8_wormed 43 = .ok (.return_, 1) := by decide +kernel
theorem dX8_goes_0 : decode cX8_goes 0 = .ok (.aload_n 0, 1) := by decide +kernel
theorem dX8_goes_1 : decode cX8_goes 1 = .ok (.iload_n 1, 1) := by decide +kernel
theorem dX8_goes_2 : decode cX8_goes 2 = .ok (.aload_n 0, 1) := by decide +kernel
theorem dX8_goes_3 : decode cX8_goes 3 = .ok (.getfield 7, 3) := by decide +kernel
theorem dX8_goes_6 : decode cX8_goes 6 = .ok (.iload_n 1, 1) := by decide +kernel
theorem dX8_goes_7 : decode cX8_goes 7 = .ok (.bipush 58, 2) := by decide +kernel
theorem dX8_goes_9 : decode cX8_goes 9 = .ok (.iadd, 1) := by decide +kernel
theorem dX8_goes_10 : decode cX8_goes 10 = .ok (.iload_n 2, 1) := by decide +kernel
theorem dX8_goes_11 : decode cX8_goes 11 = .ok (.iadd, 1) := by decide +kernel
theorem dX8_goes_12 : decode cX8_goes 12 = .ok (.iaload, 1) := by decide +kernel
theorem dX8_goes_13 : decode cX8_goes 13 = .ok (.aload_n 0, 1) := by decide +kernel
theorem dX8_goes_14 : decode cX8_goes 14 = .ok (.getfield 7, 3) := by decide +kernel
theorem dX8_goes_17 : decode cX8_goes 17 = .ok (.iload_n 1, 1) := by decide +kernel
theorem dX8_goes_18 : decode cX8_goes 18 = .ok (.bipush 64, 2) := by decide +kernel
theorem dX8_goes_20 : decode cX8_goes 20 = .ok (.iadd, 1) := by decide +kernel
theorem dX8_goes_21 : decode cX8_goes 21 = .ok (.iload_n 2, 1) := by decide +kernel
theorem dX8_goes_22 : decode cX8_goes 22 = .ok (.iadd, 1) := by decide +kernel
theorem dX8_goes_23 : decode cX8_goes 23 = .ok (.iaload, 1) := by decide +kernel
theorem dX8_goes_24 : decode cX8_goes 24 = .ok (.invokevirtual 129, 3) := by decide +kernel
theorem dX8_goes_27 : decode cX8_goes 27 = .ok (.istore_n 3, 1) := by decide +kernel
theorem dX8_goes_28 : decode cX8_goes 28 = .ok (.aload_n 0, 1) := by decide +kernel
theorem dX8_goes_29 : decode cX8_goes 29 = .ok (.getfield 7, 3) := by decide +kernel
theorem dX8_goes_32 : decode cX8_goes 32 = .ok (.iload_n 1, 1) := by decide +kernel
theorem dX8_goes_33 : decode cX8_goes 33 = .ok (.bipush 57, 2) := by decide +kernel
theorem dX8_goes_35 : decode cX8_goes 35 = .ok (.iadd, 1) := by decide +kernel
theorem dX8_goes_36 : decode cX8_goes 36 = .ok (.dup2, 1) := by decide +kernel
theorem dX8_goes_37 : decode cX8_goes 37 = .ok (.iaload, 1) := by decide +kernel
theorem dX8_goes_38 : decode cX8_goes 38 = .ok (.iconst 1, 1) := by decide +kernel
theorem dX8_goes_39 : decode cX8_goes 39 = .ok (.iadd, 1) := by decide +kernel
theorem dX8_goes_40 : decode cX8_goes 40 = .ok (.iastore, 1) := by decide +kernel
theorem dX8_goes_41 : decode cX8_goes 41 = .ok (.iload_n 3, 1) := by decide +kernel
theorem dX8_goes_42 : decode cX8_goes 42 = .ok (.ifCond .ge 11, 3) := by decide +kernel
theorem dX8_goes_45 : decode cX8_goes 45 = .ok (.aload_n 0, 1) := by decide +kernel
theorem dX8_goes_46 : decode cX8_goes 46 = .ok (.iload_n 1, 1) := by decide +kernel
theorem dX8_goes_47 : decode cX8_goes 47 = .ok (.iload_n 2, 1) := by decide +kernel
theorem dX8_goes_48 : decode cX8_goes 48 = .ok (.invokevirtual 132, 3) := by decide +kernel
theorem dX8_goes_51 : decode cX8_goes 51 = .ok (.iconst 1, 1) := by decide +kernel
theorem dX8_goes_52 : decode cX8_goes 52 = .ok (.ireturn, 1) := by decide +kernel
theorem dX8_goes_53 : decode cX8_goes 53 = .ok (.aload_n 0, 1) := by decide +kernel
theorem dX8_goes_54 : decode cX8_goes 54 = .ok (.getfield 7, 3) := by decide +kernel
theorem dX8_goes_57 : decode cX8_goes 57 = .ok (.iload_n 1, 1) := by decide +kernel
theorem dX8_goes_58 : decode cX8_goes 58 = .ok (.bipush 58, 2) := by decide +kernel
theorem dX8_goes_60 : decode cX8_goes 60 = .ok (.iadd, 1) := by decide +kernel
theorem dX8_goes_61 : decode cX8_goes 61 = .ok (.iload_n 2, 1) := by decide +kernel
theorem dX8_goes_62 : decode cX8_goes 62 = .ok (.iadd, 1) := by decide +kernel
theorem dX8_goes_63 : decode cX8_goes 63 = .ok (.iload_n 3, 1) := by decide +kernel
theorem dX8_goes_64 : decode cX8_goes 64 = .ok (.iastore, 1) := by decide +kernel
theorem dX8_goes_65 : decode cX8_goes 65 = .ok (.iconst 0, 1) := by decide +kernel
theorem dX8_goes_66 : decode cX8_goes 66 = .ok (.ireturn, 1) := by decide +kernel
theorem dX8_credits_0 : decode cX8_credits 0 = .ok (.aload_n 0, 1) := by decide +kernel
theorem dX8_credits_1 : decode cX8_credits 1 = .ok (.getfield 7, 3) := by decide +kernel
theorem dX8_credits_4 : decode cX8_credits 4 = .ok (.iload_n 1, 1) := by decide +kernel
theorem dX8_credits_5 : decode cX8_credits 5 = .ok (.bipush 76, 2) := by decide +kernel
theorem dX8_credits_7 : decode cX8_credits 7 = .ok (.iadd, 1) := by decide +kernel
theorem dX8_credits_8 : decode cX8_credits 8 = .ok (.iload_n 2, 1) := by decide +kernel
theorem dX8_credits_9 : decode cX8_credits 9 = .ok (.iadd, 1) := by decide +kernel
theorem dX8_credits_10 : decode cX8_credits 10 = .ok (.iaload, 1) := by decide +kernel
theorem dX8_credits_11 : decode cX8_credits 11 = .ok (.iload_n 3, 1) := by decide +kernel
theorem dX8_credits_12 : decode cX8_credits 12 = .ok (.iadd, 1) := by decide +kernel
theorem dX8_credits_13 : decode cX8_credits 13 = .ok (.istore 4, 2) := by decide +kernel
theorem dX8_credits_15 : decode cX8_credits 15 = .ok (.aload_n 0, 1) := by decide +kernel
theorem dX8_credits_16 : decode cX8_credits 16 = .ok (.getfield 7, 3) := by decide +kernel
theorem dX8_credits_19 : decode cX8_credits 19 = .ok (.iload_n 1, 1) := by decide +kernel
theorem dX8_credits_20 : decode cX8_credits 20 = .ok (.bipush 76, 2) := by decide +kernel
theorem dX8_credits_22 : decode cX8_credits 22 = .ok (.iadd, 1) := by decide +kernel
theorem dX8_credits_23 : decode cX8_credits 23 = .ok (.iload_n 2, 1) := by decide +kernel
theorem dX8_credits_24 : decode cX8_credits 24 = .ok (.iadd, 1) := by decide +kernel
theorem dX8_credits_25 : decode cX8_credits 25 = .ok (.iload 4, 2) := by decide +kernel
theorem dX8_credits_27 : decode cX8_credits 27 = .ok (.bipush 9, 2) := by decide +kernel
theorem dX8_credits_29 : decode cX8_credits 29 = .ok (.if_icmp .le 8, 3) := by decide +kernel
theorem dX8_credits_32 : decode cX8_credits 32 = .ok (.bipush 9, 2) := by decide +kernel
theorem dX8_credits_34 : decode cX8_credits 34 = .ok (.goto 14, 3) := by decide +kernel
theorem dX8_credits_37 : decode cX8_credits 37 = .ok (.iload 4, 2) := by decide +kernel
theorem dX8_credits_39 : decode cX8_credits 39 = .ok (.ifCond .ge 7, 3) := by decide +kernel
theorem dX8_credits_42 : decode cX8_credits 42 = .ok (.iconst 0, 1) := by decide +kernel
theorem dX8_credits_43 : decode cX8_credits 43 = .ok (.goto 5, 3) := by decide +kernel
theorem dX8_credits_46 : decode cX8_credits 46 = .ok (.iload 4, 2) := by decide +kernel
theorem dX8_credits_48 : decode cX8_credits 48 = .ok (.iastore, 1) := by decide +kernel
theorem dX8_credits_49 : decode cX8_credits 49 = .ok (.return_, 1) := by decide +kernel
theorem dX8_says_0 : decode cX8_says 0 = .ok (.aload_n 0, 1) := by decide +kernel
theorem dX8_says_1 : decode cX8_says 1 = .ok (.iload_n 1, 1) := by decide +kernel
theorem dX8_says_2 : decode cX8_says 2 = .ok (.iload_n 2, 1) := by decide +kernel
theorem dX8_says_3 : decode cX8_says 3 = .ok (.iload_n 3, 1) := by decide +kernel
theorem dX8_says_4 : decode cX8_says 4 = .ok (.invokevirtual 136, 3) := by decide +kernel
theorem dX8_says_7 : decode cX8_says 7 = .ok (.istore 5, 2) := by decide +kernel
theorem dX8_says_9 : decode cX8_says 9 = .ok (.iload 5, 2) := by decide +kernel
theorem dX8_says_11 : decode cX8_says 11 = .ok (.ifCond .eq 22, 3) := by decide +kernel
theorem dX8_says_14 : decode cX8_says 14 = .ok (.aload_n 0, 1) := by decide +kernel
theorem dX8_says_15 : decode cX8_says 15 = .ok (.getfield 7, 3) := by decide +kernel
theorem dX8_says_18 : decode cX8_says 18 = .ok (.iload_n 1, 1) := by decide +kernel
theorem dX8_says_19 : decode cX8_says 19 = .ok (.bipush 64, 2) := by decide +kernel
theorem dX8_says_21 : decode cX8_says 21 = .ok (.iadd, 1) := by decide +kernel
theorem dX8_says_22 : decode cX8_says 22 = .ok (.iload_n 2, 1) := by decide +kernel
theorem dX8_says_23 : decode cX8_says 23 = .ok (.iadd, 1) := by decide +kernel
theorem dX8_says_24 : decode cX8_says 24 = .ok (.aload_n 0, 1) := by decide +kernel
theorem dX8_says_25 : decode cX8_says 25 = .ok (.iload_n 1, 1) := by decide +kernel
theorem dX8_says_26 : decode cX8_says 26 = .ok (.iload_n 2, 1) := by decide +kernel
theorem dX8_says_27 : decode cX8_says 27 = .ok (.iload 4, 2) := by decide +kernel
theorem dX8_says_29 : decode cX8_says 29 = .ok (.invokevirtual 139, 3) := by decide +kernel
theorem dX8_says_32 : decode cX8_says 32 = .ok (.iastore, 1) := by decide +kernel
theorem dX8_says_33 : decode cX8_says 33 = .ok (.aload_n 0, 1) := by decide +kernel
theorem dX8_says_34 : decode cX8_says 34 = .ok (.iload_n 1, 1) := by decide +kernel
theorem dX8_says_35 : decode cX8_says 35 = .ok (.iload_n 2, 1) := by decide +kernel
theorem dX8_says_36 : decode cX8_says 36 = .ok (.invokevirtual 142, 3) := by decide +kernel
theorem dX8_says_39 : decode cX8_says 39 = .ok (.istore 6, 2) := by decide +kernel
theorem dX8_says_41 : decode cX8_says 41 = .ok (.iload 5, 2) := by decide +kernel
theorem dX8_says_43 : decode cX8_says 43 = .ok (.ifCond .eq 20, 3) := by decide +kernel
theorem dX8_says_46 : decode cX8_says 46 = .ok (.aload_n 0, 1) := by decide +kernel
theorem dX8_says_47 : decode cX8_says 47 = .ok (.iload_n 1, 1) := by decide +kernel
theorem dX8_says_48 : decode cX8_says 48 = .ok (.iload_n 3, 1) := by decide +kernel
theorem dX8_says_49 : decode cX8_says 49 = .ok (.iload 6, 2) := by decide +kernel
theorem dX8_says_51 : decode cX8_says 51 = .ok (.ifCond .eq 8, 3) := by decide +kernel
theorem dX8_says_54 : decode cX8_says 54 = .ok (.bipush (-2), 2) := by decide +kernel
theorem dX8_says_56 : decode cX8_says 56 = .ok (.goto 4, 3) := by decide +kernel
theorem dX8_says_59 : decode cX8_says 59 = .ok (.iconst 1, 1) := by decide +kernel
theorem dX8_says_60 : decode cX8_says 60 = .ok (.invokevirtual 145, 3) := by decide +kernel
theorem dX8_says_63 : decode cX8_says 63 = .ok (.return_, 1) := by decide +kernel
theorem dX8_storms_0 : decode cX8_storms 0 = .ok (.aload_n 0, 1) := by decide +kernel
theorem dX8_storms_1 : decode cX8_storms 1 = .ok (.iload_n 1, 1) := by decide +kernel
theorem dX8_storms_2 : decode cX8_storms 2 = .ok (.iload_n 2, 1) := by decide +kernel
theorem dX8_storms_3 : decode cX8_storms 3 = .ok (.iload_n 3, 1) := by decide +kernel
theorem dX8_storms_4 : decode cX8_storms 4 = .ok (.invokevirtual 136, 3) := by decide +kernel
theorem dX8_storms_7 : decode cX8_storms 7 = .ok (.istore 7, 2) := by decide +kernel
theorem dX8_storms_9 : decode cX8_storms 9 = .ok (.aload_n 0, 1) := by decide +kernel
theorem dX8_storms_10 : decode cX8_storms 10 = .ok (.iload_n 1, 1) := by decide +kernel
theorem dX8_storms_11 : decode cX8_storms 11 = .ok (.iload_n 2, 1) := by decide +kernel
theorem dX8_storms_12 : decode cX8_storms 12 = .ok (.iload 5, 2) := by decide +kernel
theorem dX8_storms_14 : decode cX8_storms 14 = .ok (.invokevirtual 136, 3) := by decide +kernel
theorem dX8_storms_17 : decode cX8_storms 17 = .ok (.istore 8, 2) := by decide +kernel
theorem dX8_storms_19 : decode cX8_storms 19 = .ok (.iload 7, 2) := by decide +kernel
theorem dX8_storms_21 : decode cX8_storms 21 = .ok (.ifCond .eq 50, 3) := by decide +kernel
theorem dX8_storms_24 : decode cX8_storms 24 = .ok (.iload 8, 2) := by decide +kernel
theorem dX8_storms_26 : decode cX8_storms 26 = .ok (.ifCond .eq 45, 3) := by decide +kernel
theorem dX8_storms_29 : decode cX8_storms 29 = .ok (.iload 4, 2) := by decide +kernel
theorem dX8_storms_31 : decode cX8_storms 31 = .ok (.iload 6, 2) := by decide +kernel
theorem dX8_storms_33 : decode cX8_storms 33 = .ok (.if_icmp .eq 38, 3) := by decide +kernel
theorem dX8_storms_36 : decode cX8_storms 36 = .ok (.aload_n 0, 1) := by decide +kernel
theorem dX8_storms_37 : decode cX8_storms 37 = .ok (.iload_n 1, 1) := by decide +kernel
theorem dX8_storms_38 : decode cX8_storms 38 = .ok (.iload_n 2, 1) := by decide +kernel
theorem dX8_storms_39 : decode cX8_storms 39 = .ok (.invokevirtual 132, 3) := by decide +kernel
theorem dX8_storms_42 : decode cX8_storms 42 = .ok (.aload_n 0, 1) := by decide +kernel
theorem dX8_storms_43 : decode cX8_storms 43 = .ok (.iload_n 1, 1) := by decide +kernel
theorem dX8_storms_44 : decode cX8_storms 44 = .ok (.iload_n 3, 1) := by decide +kernel
theorem dX8_storms_45 : decode cX8_storms 45 = .ok (.iconst (-1), 1) := by decide +kernel
theorem dX8_storms_46 : decode cX8_storms 46 = .ok (.invokevirtual 145, 3) := by decide +kernel
theorem dX8_storms_49 : decode cX8_storms 49 = .ok (.aload_n 0, 1) := by decide +kernel
theorem dX8_storms_50 : decode cX8_storms 50 = .ok (.iload_n 1, 1) := by decide +kernel
theorem dX8_storms_51 : decode cX8_storms 51 = .ok (.iload 5, 2) := by decide +kernel
theorem dX8_storms_53 : decode cX8_storms 53 = .ok (.iconst (-1), 1) := by decide +kernel
theorem dX8_storms_54 : decode cX8_storms 54 = .ok (.invokevirtual 145, 3) := by decide +kernel
theorem dX8_storms_57 : decode cX8_storms 57 = .ok (.aload_n 0, 1) := by decide +kernel
theorem dX8_storms_58 : decode cX8_storms 58 = .ok (.getfield 7, 3) := by decide +kernel
theorem dX8_storms_61 : decode cX8_storms 61 = .ok (.iload_n 1, 1) := by decide +kernel
theorem dX8_storms_62 : decode cX8_storms 62 = .ok (.bipush 57, 2) := by decide +kernel
theorem dX8_storms_64 : decode cX8_storms 64 = .ok (.iadd, 1) := by decide +kernel
theorem dX8_storms_65 : decode cX8_storms 65 = .ok (.dup2, 1) := by decide +kernel
theorem dX8_storms_66 : decode cX8_storms 66 = .ok (.iaload, 1) := by decide +kernel
theorem dX8_storms_67 : decode cX8_storms 67 = .ok (.iconst 1, 1) := by decide +kernel
theorem dX8_storms_68 : decode cX8_storms 68 = .ok (.iadd, 1) := by decide +kernel
theorem dX8_storms_69 : decode cX8_storms 69 = .ok (.iastore, 1) := by decide +kernel
theorem dX8_storms_70 : decode cX8_storms 70 = .ok (.return_, 1) := by decide +kernel
theorem dX8_storms_71 : decode cX8_storms 71 = .ok (.iload 7, 2) := by decide +kernel
theorem dX8_storms_73 : decode cX8_storms 73 = .ok (.ifCond .ne 8, 3) := by decide +kernel
theorem dX8_storms_76 : decode cX8_storms 76 = .ok (.iload 8, 2) := by decide +kernel
theorem dX8_storms_78 : decode cX8_storms 78 = .ok (.ifCond .eq 32, 3) := by decide +kernel
theorem dX8_storms_81 : decode cX8_storms 81 = .ok (.aload_n 0, 1) := by decide +kernel
theorem dX8_storms_82 : decode cX8_storms 82 = .ok (.getfield 7, 3) := by decide +kernel
theorem dX8_storms_85 : decode cX8_storms 85 = .ok (.iload_n 1, 1) := by decide +kernel
theorem dX8_storms_86 : decode cX8_storms 86 = .ok (.bipush 64, 2) := by decide +kernel
theorem dX8_storms_88 : decode cX8_storms 88 = .ok (.iadd, 1) := by decide +kernel
theorem dX8_storms_89 : decode cX8_storms 89 = .ok (.iload_n 2, 1) := by decide +kernel
theorem dX8_storms_90 : decode cX8_storms 90 = .ok (.iadd, 1) := by decide +kernel
theorem dX8_storms_91 : decode cX8_storms 91 = .ok (.aload_n 0, 1) := by decide +kernel
theorem dX8_storms_92 : decode cX8_storms 92 = .ok (.iload_n 1, 1) := by decide +kernel
theorem dX8_storms_93 : decode cX8_storms 93 = .ok (.iload_n 2, 1) := by decide +kernel
theorem dX8_storms_94 : decode cX8_storms 94 = .ok (.iload 7, 2) := by decide +kernel
theorem dX8_storms_96 : decode cX8_storms 96 = .ok (.ifCond .eq 8, 3) := by decide +kernel
theorem dX8_storms_99 : decode cX8_storms 99 = .ok (.iload 4, 2) := by decide +kernel
theorem dX8_storms_101 : decode cX8_storms 101 = .ok (.goto 5, 3) := by decide +kernel
theorem dX8_storms_104 : decode cX8_storms 104 = .ok (.iload 6, 2) := by decide +kernel
theorem dX8_storms_106 : decode cX8_storms 106 = .ok (.invokevirtual 139, 3) := by decide +kernel
theorem dX8_storms_109 : decode cX8_storms 109 = .ok (.iastore, 1) := by decide +kernel
theorem dX8_storms_110 : decode cX8_storms 110 = .ok (.aload_n 0, 1) := by decide +kernel
theorem dX8_storms_111 : decode cX8_storms 111 = .ok (.iload_n 1, 1) := by decide +kernel
theorem dX8_storms_112 : decode cX8_storms 112 = .ok (.iload_n 2, 1) := by decide +kernel
theorem dX8_storms_113 : decode cX8_storms 113 = .ok (.invokevirtual 142, 3) := by decide +kernel
theorem dX8_storms_116 : decode cX8_storms 116 = .ok (.istore 9, 2) := by decide +kernel
theorem dX8_storms_118 : decode cX8_storms 118 = .ok (.iload 7, 2) := by decide +kernel
theorem dX8_storms_120 : decode cX8_storms 120 = .ok (.ifCond .eq 20, 3) := by decide +kernel
theorem dX8_storms_123 : decode cX8_storms 123 = .ok (.aload_n 0, 1) := by decide +kernel
theorem dX8_storms_124 : decode cX8_storms 124 = .ok (.iload_n 1, 1) := by decide +kernel
theorem dX8_storms_125 : decode cX8_storms 125 = .ok (.iload_n 3, 1) := by decide +kernel
theorem dX8_storms_126 : decode cX8_storms 126 = .ok (.iload 9, 2) := by decide +kernel
theorem dX8_storms_128 : decode cX8_storms 128 = .ok (.ifCond .eq 8, 3) := by decide +kernel
theorem dX8_storms_131 : decode cX8_storms 131 = .ok (.bipush (-2), 2) := by decide +kernel
theorem dX8_storms_133 : decode cX8_storms 133 = .ok (.goto 4, 3) := by decide +kernel
theorem dX8_storms_136 : decode cX8_storms 136 = .ok (.iconst 1, 1) := by decide +kernel
theorem dX8_storms_137 : decode cX8_storms 137 = .ok (.invokevirtual 145, 3) := by decide +kernel
theorem dX8_storms_140 : decode cX8_storms 140 = .ok (.iload 8, 2) := by decide +kernel
theorem dX8_storms_142 : decode cX8_storms 142 = .ok (.ifCond .eq 21, 3) := by decide +kernel
theorem dX8_storms_145 : decode cX8_storms 145 = .ok (.aload_n 0, 1) := by decide +kernel
theorem dX8_storms_146 : decode cX8_storms 146 = .ok (.iload_n 1, 1) := by decide +kernel
theorem dX8_storms_147 : decode cX8_storms 147 = .ok (.iload 5, 2) := by decide +kernel
theorem dX8_storms_149 : decode cX8_storms 149 = .ok (.iload 9, 2) := by decide +kernel
theorem dX8_storms_151 : decode cX8_storms 151 = .ok (.ifCond .eq 8, 3) := by decide +kernel
theorem dX8_storms_154 : decode cX8_storms 154 = .ok (.bipush (-2), 2) := by decide +kernel
theorem dX8_storms_156 : decode cX8_storms 156 = .ok (.goto 4, 3) := by decide +kernel
theorem dX8_storms_159 : decode cX8_storms 159 = .ok (.iconst 1, 1) := by decide +kernel
theorem dX8_storms_160 : decode cX8_storms 160 = .ok (.invokevirtual 145, 3) := by decide +kernel
theorem dX8_storms_163 : decode cX8_storms 163 = .ok (.return_, 1) := by decide +kernel
theorem dX8_minds_0 : decode cX8_minds 0 = .ok (.aload_n 0, 1) := by decide +kernel
theorem dX8_minds_1 : decode cX8_minds 1 = .ok (.getfield 100, 3) := by decide +kernel
theorem dX8_minds_4 : decode cX8_minds 4 = .ok (.bipush 24, 2) := by decide +kernel
theorem dX8_minds_6 : decode cX8_minds 6 = .ok (.if_icmp .ne 26, 3) := by decide +kernel
theorem dX8_minds_9 : decode cX8_minds 9 = .ok (.aload_n 0, 1) := by decide +kernel
theorem dX8_minds_10 : decode cX8_minds 10 = .ok (.sipush 423, 3) := by decide +kernel
theorem dX8_minds_13 : decode cX8_minds 13 = .ok (.sipush 400, 3) := by decide +kernel
theorem dX8_minds_16 : decode cX8_minds 16 = .ok (.sipush 529, 3) := by decide +kernel
theorem dX8_minds_19 : decode cX8_minds 19 = .ok (.invokevirtual 96, 3) := by decide +kernel
theorem dX8_minds_22 : decode cX8_minds 22 = .ok (.aload_n 0, 1) := by decide +kernel
theorem dX8_minds_23 : decode cX8_minds 23 = .ok (.dup, 1) := by decide +kernel
theorem dX8_minds_24 : decode cX8_minds 24 = .ok (.getfield 100, 3) := by decide +kernel
theorem dX8_minds_27 : decode cX8_minds 27 = .ok (.iconst 1, 1) := by decide +kernel
theorem dX8_minds_28 : decode cX8_minds 28 = .ok (.isub, 1) := by decide +kernel
theorem dX8_minds_29 : decode cX8_minds 29 = .ok (.putfield 100, 3) := by decide +kernel
theorem dX8_minds_32 : decode cX8_minds 32 = .ok (.aload_n 0, 1) := by decide +kernel
theorem dX8_minds_33 : decode cX8_minds 33 = .ok (.bipush 57, 2) := by decide +kernel
theorem dX8_minds_35 : decode cX8_minds 35 = .ok (.sipush 400, 3) := by decide +kernel
theorem dX8_minds_38 : decode cX8_minds 38 = .ok (.bipush 23, 2) := by decide +kernel
theorem dX8_minds_40 : decode cX8_minds 40 = .ok (.aload_n 0, 1) := by decide +kernel
theorem dX8_minds_41 : decode cX8_minds 41 = .ok (.getfield 100, 3) := by decide +kernel
theorem dX8_minds_44 : decode cX8_minds 44 = .ok (.imul, 1) := by decide +kernel
theorem dX8_minds_45 : decode cX8_minds 45 = .ok (.iadd, 1) := by decide +kernel
theorem dX8_minds_46 : decode cX8_minds 46 = .ok (.bipush 23, 2) := by decide +kernel
theorem dX8_minds_48 : decode cX8_minds 48 = .ok (.invokevirtual 96, 3) := by decide +kernel
theorem dX8_minds_51 : decode cX8_minds 51 = .ok (.aload_n 0, 1) := by decide +kernel
theorem dX8_minds_52 : decode cX8_minds 52 = .ok (.dup, 1) := by decide +kernel
theorem dX8_minds_53 : decode cX8_minds 53 = .ok (.getfield 100, 3) := by decide +kernel
theorem dX8_minds_56 : decode cX8_minds 56 = .ok (.iconst 1, 1) := by decide +kernel
theorem dX8_minds_57 : decode cX8_minds 57 = .ok (.iadd, 1) := by decide +kernel
theorem dX8_minds_58 : decode cX8_minds 58 = .ok (.putfield 100, 3) := by decide +kernel
theorem dX8_minds_61 : decode cX8_minds 61 = .ok (.return_, 1) := by decide +kernel
theorem dX8_isWord_0 : decode cX8_isWord 0 = .ok (.lload_n 0, 1) := by decide +kernel
theorem dX8_isWord_1 : decode cX8_isWord 1 = .ok (.lconst 0, 1) := by decide +kernel
theorem dX8_isWord_2 : decode cX8_isWord 2 = .ok (.ldc2_w 148, 3) := by decide +kernel
theorem dX8_isWord_5 : decode cX8_isWord 5 = .ok (.invokestatic 44, 3) := by decide +kernel
theorem dX8_isWord_8 : decode cX8_isWord 8 = .ok (.ireturn, 1) := by decide +kernel
theorem dX8_say_0 : decode cX8_say 0 = .ok (.aload_n 0, 1) := by decide +kernel
theorem dX8_say_1 : decode cX8_say 1 = .ok (.iload_n 1, 1) := by decide +kernel
theorem dX8_say_2 : decode cX8_say 2 = .ok (.invokevirtual 103, 3) := by decide +kernel
theorem dX8_say_5 : decode cX8_say 5 = .ok (.ifCond .eq 18, 3) := by decide +kernel
theorem dX8_say_8 : decode cX8_say 8 = .ok (.iload_n 2, 1) := by decide +kernel
theorem dX8_say_9 : decode cX8_say 9 = .ok (.invokestatic 118, 3) := by decide +kernel
theorem dX8_say_12 : decode cX8_say 12 = .ok (.ifCond .eq 11, 3) := by decide +kernel
theorem dX8_say_15 : decode cX8_say 15 = .ok (.iload_n 3, 1) := by decide +kernel
theorem dX8_say_16 : decode cX8_say 16 = .ok (.i2l, 1) := by decide +kernel
theorem dX8_say_17 : decode cX8_say 17 = .ok (.invokestatic 150, 3) := by decide +kernel
theorem dX8_say_20 : decode cX8_say 20 = .ok (.ifCond .ne 5, 3) := by decide +kernel
theorem dX8_say_23 : decode cX8_say 23 = .ok (.iconst (-1), 1) := by decide +kernel
theorem dX8_say_24 : decode cX8_say 24 = .ok (.ireturn, 1) := by decide +kernel
theorem dX8_say_25 : decode cX8_say 25 = .ok (.aload_n 0, 1) := by decide +kernel
theorem dX8_say_26 : decode cX8_say 26 = .ok (.getfield 7, 3) := by decide +kernel
theorem dX8_say_29 : decode cX8_say 29 = .ok (.bipush 57, 2) := by decide +kernel
theorem dX8_say_31 : decode cX8_say 31 = .ok (.iaload, 1) := by decide +kernel
theorem dX8_say_32 : decode cX8_say 32 = .ok (.sipush 9999, 3) := by decide +kernel
theorem dX8_say_35 : decode cX8_say 35 = .ok (.if_icmp .ne 6, 3) := by decide +kernel
theorem dX8_say_38 : decode cX8_say 38 = .ok (.bipush (-3), 2) := by decide +kernel
theorem dX8_say_40 : decode cX8_say 40 = .ok (.ireturn, 1) := by decide +kernel
theorem dX8_say_41 : decode cX8_say 41 = .ok (.aload_n 0, 1) := by decide +kernel
theorem dX8_say_42 : decode cX8_say 42 = .ok (.invokevirtual 154, 3) := by decide +kernel
theorem dX8_say_45 : decode cX8_say 45 = .ok (.aload_n 0, 1) := by decide +kernel
theorem dX8_say_46 : decode cX8_say 46 = .ok (.iconst 0, 1) := by decide +kernel
theorem dX8_say_47 : decode cX8_say 47 = .ok (.iload_n 1, 1) := by decide +kernel
theorem dX8_say_48 : decode cX8_say 48 = .ok (.iload_n 2, 1) := by decide +kernel
theorem dX8_say_49 : decode cX8_say 49 = .ok (.iload_n 3, 1) := by decide +kernel
theorem dX8_say_50 : decode cX8_say 50 = .ok (.invokevirtual 157, 3) := by decide +kernel
theorem dX8_say_53 : decode cX8_say 53 = .ok (.aload_n 0, 1) := by decide +kernel
theorem dX8_say_54 : decode cX8_say 54 = .ok (.getfield 7, 3) := by decide +kernel
theorem dX8_say_57 : decode cX8_say 57 = .ok (.bipush 58, 2) := by decide +kernel
theorem dX8_say_59 : decode cX8_say 59 = .ok (.iload_n 1, 1) := by decide +kernel
theorem dX8_say_60 : decode cX8_say 60 = .ok (.iadd, 1) := by decide +kernel
theorem dX8_say_61 : decode cX8_say 61 = .ok (.iaload, 1) := by decide +kernel
theorem dX8_say_62 : decode cX8_say 62 = .ok (.ireturn, 1) := by decide +kernel
theorem dX8_storm_0 : decode cX8_storm 0 = .ok (.aload_n 0, 1) := by decide +kernel
theorem dX8_storm_1 : decode cX8_storm 1 = .ok (.iload_n 1, 1) := by decide +kernel
theorem dX8_storm_2 : decode cX8_storm 2 = .ok (.invokevirtual 103, 3) := by decide +kernel
theorem dX8_storm_5 : decode cX8_storm 5 = .ok (.ifCond .eq 41, 3) := by decide +kernel
theorem dX8_storm_8 : decode cX8_storm 8 = .ok (.iload_n 2, 1) := by decide +kernel
theorem dX8_storm_9 : decode cX8_storm 9 = .ok (.invokestatic 118, 3) := by decide +kernel
theorem dX8_storm_12 : decode cX8_storm 12 = .ok (.ifCond .eq 34, 3) := by decide +kernel
theorem dX8_storm_15 : decode cX8_storm 15 = .ok (.iload_n 3, 1) := by decide +kernel
theorem dX8_storm_16 : decode cX8_storm 16 = .ok (.i2l, 1) := by decide +kernel
theorem dX8_storm_17 : decode cX8_storm 17 = .ok (.invokestatic 150, 3) := by decide +kernel
theorem dX8_storm_20 : decode cX8_storm 20 = .ok (.ifCond .eq 26, 3) := by decide +kernel
theorem dX8_storm_23 : decode cX8_storm 23 = .ok (.iload 4, 2) := by decide +kernel
theorem dX8_storm_25 : decode cX8_storm 25 = .ok (.invokestatic 118, 3) := by decide +kernel
theorem dX8_storm_28 : decode cX8_storm 28 = .ok (.ifCond .eq 18, 3) := by decide +kernel
theorem dX8_storm_31 : decode cX8_storm 31 = .ok (.iload 5, 2) := by decide +kernel
theorem dX8_storm_33 : decode cX8_storm 33 = .ok (.i2l, 1) := by decide +kernel
theorem dX8_storm_34 : decode cX8_storm 34 = .ok (.invokestatic 150, 3) := by decide +kernel
theorem dX8_storm_37 : decode cX8_storm 37 = .ok (.ifCond .eq 9, 3) := by decide +kernel
theorem dX8_storm_40 : decode cX8_storm 40 = .ok (.iload_n 2, 1) := by decide +kernel
theorem dX8_storm_41 : decode cX8_storm 41 = .ok (.iload 4, 2) := by decide +kernel
theorem dX8_storm_43 : decode cX8_storm 43 = .ok (.if_icmp .ne 5, 3) := by decide +kernel
theorem dX8_storm_46 : decode cX8_storm 46 = .ok (.iconst (-1), 1) := by decide +kernel
theorem dX8_storm_47 : decode cX8_storm 47 = .ok (.ireturn, 1) := by decide +kernel
theorem dX8_storm_48 : decode cX8_storm 48 = .ok (.aload_n 0, 1) := by decide +kernel
theorem dX8_storm_49 : decode cX8_storm 49 = .ok (.getfield 7, 3) := by decide +kernel
theorem dX8_storm_52 : decode cX8_storm 52 = .ok (.bipush 57, 2) := by decide +kernel
theorem dX8_storm_54 : decode cX8_storm 54 = .ok (.iaload, 1) := by decide +kernel
theorem dX8_storm_55 : decode cX8_storm 55 = .ok (.sipush 9999, 3) := by decide +kernel
theorem dX8_storm_58 : decode cX8_storm 58 = .ok (.if_icmp .ne 6, 3) := by decide +kernel
theorem dX8_storm_61 : decode cX8_storm 61 = .ok (.bipush (-3), 2) := by decide +kernel
theorem dX8_storm_63 : decode cX8_storm 63 = .ok (.ireturn, 1) := by decide +kernel
theorem dX8_storm_64 : decode cX8_storm 64 = .ok (.aload_n 0, 1) := by decide +kernel
theorem dX8_storm_65 : decode cX8_storm 65 = .ok (.invokevirtual 154, 3) := by decide +kernel
theorem dX8_storm_68 : decode cX8_storm 68 = .ok (.aload_n 0, 1) := by decide +kernel
theorem dX8_storm_69 : decode cX8_storm 69 = .ok (.iconst 0, 1) := by decide +kernel
theorem dX8_storm_70 : decode cX8_storm 70 = .ok (.iload_n 1, 1) := by decide +kernel
theorem dX8_storm_71 : decode cX8_storm 71 = .ok (.iload_n 2, 1) := by decide +kernel
theorem dX8_storm_72 : decode cX8_storm 72 = .ok (.iload_n 3, 1) := by decide +kernel
theorem dX8_storm_73 : decode cX8_storm 73 = .ok (.iload 4, 2) := by decide +kernel
theorem dX8_storm_75 : decode cX8_storm 75 = .ok (.iload 5, 2) := by decide +kernel
theorem dX8_storm_77 : decode cX8_storm 77 = .ok (.invokevirtual 161, 3) := by decide +kernel
theorem dX8_storm_80 : decode cX8_storm 80 = .ok (.aload_n 0, 1) := by decide +kernel
theorem dX8_storm_81 : decode cX8_storm 81 = .ok (.getfield 7, 3) := by decide +kernel
theorem dX8_storm_84 : decode cX8_storm 84 = .ok (.bipush 58, 2) := by decide +kernel
theorem dX8_storm_86 : decode cX8_storm 86 = .ok (.iload_n 1, 1) := by decide +kernel
theorem dX8_storm_87 : decode cX8_storm 87 = .ok (.iadd, 1) := by decide +kernel
theorem dX8_storm_88 : decode cX8_storm 88 = .ok (.iaload, 1) := by decide +kernel
theorem dX8_storm_89 : decode cX8_storm 89 = .ok (.ireturn, 1) := by decide +kernel
theorem dX8_drift_0 : decode cX8_drift 0 = .ok (.aload_n 0, 1) := by decide +kernel
theorem dX8_drift_1 : decode cX8_drift 1 = .ok (.iload_n 1, 1) := by decide +kernel
theorem dX8_drift_2 : decode cX8_drift 2 = .ok (.invokevirtual 103, 3) := by decide +kernel
theorem dX8_drift_5 : decode cX8_drift 5 = .ok (.ifCond .ne 5, 3) := by decide +kernel
theorem dX8_drift_8 : decode cX8_drift 8 = .ok (.iconst (-1), 1) := by decide +kernel
theorem dX8_drift_9 : decode cX8_drift 9 = .ok (.ireturn, 1) := by decide +kernel
theorem dX8_drift_10 : decode cX8_drift 10 = .ok (.aload_n 0, 1) := by decide +kernel
theorem dX8_drift_11 : decode cX8_drift 11 = .ok (.getfield 7, 3) := by decide +kernel
theorem dX8_drift_14 : decode cX8_drift 14 = .ok (.bipush 57, 2) := by decide +kernel
theorem dX8_drift_16 : decode cX8_drift 16 = .ok (.iaload, 1) := by decide +kernel
theorem dX8_drift_17 : decode cX8_drift 17 = .ok (.sipush 9999, 3) := by decide +kernel
theorem dX8_drift_20 : decode cX8_drift 20 = .ok (.if_icmp .ne 6, 3) := by decide +kernel
theorem dX8_drift_23 : decode cX8_drift 23 = .ok (.bipush (-3), 2) := by decide +kernel
theorem dX8_drift_25 : decode cX8_drift 25 = .ok (.ireturn, 1) := by decide +kernel
theorem dX8_drift_26 : decode cX8_drift 26 = .ok (.aload_n 0, 1) := by decide +kernel
theorem dX8_drift_27 : decode cX8_drift 27 = .ok (.invokevirtual 154, 3) := by decide +kernel
theorem dX8_drift_30 : decode cX8_drift 30 = .ok (.aload_n 0, 1) := by decide +kernel
theorem dX8_drift_31 : decode cX8_drift 31 = .ok (.iconst 0, 1) := by decide +kernel
theorem dX8_drift_32 : decode cX8_drift 32 = .ok (.iload_n 1, 1) := by decide +kernel
theorem dX8_drift_33 : decode cX8_drift 33 = .ok (.invokevirtual 142, 3) := by decide +kernel
theorem dX8_drift_36 : decode cX8_drift 36 = .ok (.pop, 1) := by decide +kernel
theorem dX8_drift_37 : decode cX8_drift 37 = .ok (.aload_n 0, 1) := by decide +kernel
theorem dX8_drift_38 : decode cX8_drift 38 = .ok (.getfield 7, 3) := by decide +kernel
theorem dX8_drift_41 : decode cX8_drift 41 = .ok (.bipush 58, 2) := by decide +kernel
theorem dX8_drift_43 : decode cX8_drift 43 = .ok (.iload_n 1, 1) := by decide +kernel
theorem dX8_drift_44 : decode cX8_drift 44 = .ok (.iadd, 1) := by decide +kernel
theorem dX8_drift_45 : decode cX8_drift 45 = .ok (.iaload, 1) := by decide +kernel
theorem dX8_drift_46 : decode cX8_drift 46 = .ok (.ireturn, 1) := by decide +kernel
theorem dX8_scrape_0 : decode cX8_scrape 0 = .ok (.aload_n 0, 1) := by decide +kernel
theorem dX8_scrape_1 : decode cX8_scrape 1 = .ok (.iload_n 1, 1) := by decide +kernel
theorem dX8_scrape_2 : decode cX8_scrape 2 = .ok (.invokevirtual 103, 3) := by decide +kernel
theorem dX8_scrape_5 : decode cX8_scrape 5 = .ok (.ifCond .ne 5, 3) := by decide +kernel
theorem dX8_scrape_8 : decode cX8_scrape 8 = .ok (.iconst (-1), 1) := by decide +kernel
theorem dX8_scrape_9 : decode cX8_scrape 9 = .ok (.ireturn, 1) := by decide +kernel
theorem dX8_scrape_10 : decode cX8_scrape 10 = .ok (.aload_n 0, 1) := by decide +kernel
theorem dX8_scrape_11 : decode cX8_scrape 11 = .ok (.getfield 7, 3) := by decide +kernel
theorem dX8_scrape_14 : decode cX8_scrape 14 = .ok (.bipush 70, 2) := by decide +kernel
theorem dX8_scrape_16 : decode cX8_scrape 16 = .ok (.iload_n 1, 1) := by decide +kernel
theorem dX8_scrape_17 : decode cX8_scrape 17 = .ok (.iadd, 1) := by decide +kernel
theorem dX8_scrape_18 : decode cX8_scrape 18 = .ok (.iaload, 1) := by decide +kernel
theorem dX8_scrape_19 : decode cX8_scrape 19 = .ok (.ifCond .ne 6, 3) := by decide +kernel
theorem dX8_scrape_22 : decode cX8_scrape 22 = .ok (.bipush (-2), 2) := by decide +kernel
theorem dX8_scrape_24 : decode cX8_scrape 24 = .ok (.ireturn, 1) := by decide +kernel
theorem dX8_scrape_25 : decode cX8_scrape 25 = .ok (.aload_n 0, 1) := by decide +kernel
theorem dX8_scrape_26 : decode cX8_scrape 26 = .ok (.invokevirtual 154, 3) := by decide +kernel
theorem dX8_scrape_29 : decode cX8_scrape 29 = .ok (.aload_n 0, 1) := by decide +kernel
theorem dX8_scrape_30 : decode cX8_scrape 30 = .ok (.getfield 7, 3) := by decide +kernel
theorem dX8_scrape_33 : decode cX8_scrape 33 = .ok (.bipush 70, 2) := by decide +kernel
theorem dX8_scrape_35 : decode cX8_scrape 35 = .ok (.iload_n 1, 1) := by decide +kernel
theorem dX8_scrape_36 : decode cX8_scrape 36 = .ok (.iadd, 1) := by decide +kernel
theorem dX8_scrape_37 : decode cX8_scrape 37 = .ok (.dup2, 1) := by decide +kernel
theorem dX8_scrape_38 : decode cX8_scrape 38 = .ok (.iaload, 1) := by decide +kernel
theorem dX8_scrape_39 : decode cX8_scrape 39 = .ok (.iconst 1, 1) := by decide +kernel
theorem dX8_scrape_40 : decode cX8_scrape 40 = .ok (.isub, 1) := by decide +kernel
theorem dX8_scrape_41 : decode cX8_scrape 41 = .ok (.iastore, 1) := by decide +kernel
theorem dX8_scrape_42 : decode cX8_scrape 42 = .ok (.aload_n 0, 1) := by decide +kernel
theorem dX8_scrape_43 : decode cX8_scrape 43 = .ok (.getfield 7, 3) := by decide +kernel
theorem dX8_scrape_46 : decode cX8_scrape 46 = .ok (.bipush 70, 2) := by decide +kernel
theorem dX8_scrape_48 : decode cX8_scrape 48 = .ok (.iload_n 1, 1) := by decide +kernel
theorem dX8_scrape_49 : decode cX8_scrape 49 = .ok (.iadd, 1) := by decide +kernel
theorem dX8_scrape_50 : decode cX8_scrape 50 = .ok (.iaload, 1) := by decide +kernel
theorem dX8_scrape_51 : decode cX8_scrape 51 = .ok (.ireturn, 1) := by decide +kernel
theorem dX8_learn_0 : decode cX8_learn 0 = .ok (.aload_n 0, 1) := by decide +kernel
theorem dX8_learn_1 : decode cX8_learn 1 = .ok (.invokevirtual 115, 3) := by decide +kernel
theorem dX8_learn_4 : decode cX8_learn 4 = .ok (.ifCond .eq 10, 3) := by decide +kernel
theorem dX8_learn_7 : decode cX8_learn 7 = .ok (.iload_n 1, 1) := by decide +kernel
theorem dX8_learn_8 : decode cX8_learn 8 = .ok (.invokestatic 118, 3) := by decide +kernel
theorem dX8_learn_11 : decode cX8_learn 11 = .ok (.ifCond .ne 5, 3) := by decide +kernel
theorem dX8_learn_14 : decode cX8_learn 14 = .ok (.iconst (-1), 1) := by decide +kernel
theorem dX8_learn_15 : decode cX8_learn 15 = .ok (.ireturn, 1) := by decide +kernel
theorem dX8_learn_16 : decode cX8_learn 16 = .ok (.aload_n 0, 1) := by decide +kernel
theorem dX8_learn_17 : decode cX8_learn 17 = .ok (.getfield 7, 3) := by decide +kernel
theorem dX8_learn_20 : decode cX8_learn 20 = .ok (.bipush 76, 2) := by decide +kernel
theorem dX8_learn_22 : decode cX8_learn 22 = .ok (.iload_n 1, 1) := by decide +kernel
theorem dX8_learn_23 : decode cX8_learn 23 = .ok (.iadd, 1) := by decide +kernel
theorem dX8_learn_24 : decode cX8_learn 24 = .ok (.iaload, 1) := by decide +kernel
theorem dX8_learn_25 : decode cX8_learn 25 = .ok (.bipush 9, 2) := by decide +kernel
theorem dX8_learn_27 : decode cX8_learn 27 = .ok (.if_icmp .ne 6, 3) := by decide +kernel
theorem dX8_learn_30 : decode cX8_learn 30 = .ok (.bipush (-2), 2) := by decide +kernel
theorem dX8_learn_32 : decode cX8_learn 32 = .ok (.ireturn, 1) := by decide +kernel
theorem dX8_learn_33 : decode cX8_learn 33 = .ok (.aload_n 0, 1) := by decide +kernel
theorem dX8_learn_34 : decode cX8_learn 34 = .ok (.invokevirtual 154, 3) := by decide +kernel
theorem dX8_learn_37 : decode cX8_learn 37 = .ok (.aload_n 0, 1) := by decide +kernel
theorem dX8_learn_38 : decode cX8_learn 38 = .ok (.getfield 7, 3) := by decide +kernel
theorem dX8_learn_41 : decode cX8_learn 41 = .ok (.bipush 76, 2) := by decide +kernel
theorem dX8_learn_43 : decode cX8_learn 43 = .ok (.iload_n 1, 1) := by decide +kernel
theorem dX8_learn_44 : decode cX8_learn 44 = .ok (.iadd, 1) := by decide +kernel
theorem dX8_learn_45 : decode cX8_learn 45 = .ok (.dup2, 1) := by decide +kernel
theorem dX8_learn_46 : decode cX8_learn 46 = .ok (.iaload, 1) := by decide +kernel
theorem dX8_learn_47 : decode cX8_learn 47 = .ok (.iconst 1, 1) := by decide +kernel
theorem dX8_learn_48 : decode cX8_learn 48 = .ok (.iadd, 1) := by decide +kernel
theorem dX8_learn_49 : decode cX8_learn 49 = .ok (.iastore, 1) := by decide +kernel
theorem dX8_learn_50 : decode cX8_learn 50 = .ok (.aload_n 0, 1) := by decide +kernel
theorem dX8_learn_51 : decode cX8_learn 51 = .ok (.getfield 7, 3) := by decide +kernel
theorem dX8_learn_54 : decode cX8_learn 54 = .ok (.bipush 76, 2) := by decide +kernel
theorem dX8_learn_56 : decode cX8_learn 56 = .ok (.iload_n 1, 1) := by decide +kernel
theorem dX8_learn_57 : decode cX8_learn 57 = .ok (.iadd, 1) := by decide +kernel
theorem dX8_learn_58 : decode cX8_learn 58 = .ok (.iaload, 1) := by decide +kernel
theorem dX8_learn_59 : decode cX8_learn 59 = .ok (.ireturn, 1) := by decide +kernel
theorem dX8_undo_0 : decode cX8_undo 0 = .ok (.aload_n 0, 1) := by decide +kernel
theorem dX8_undo_1 : decode cX8_undo 1 = .ok (.getfield 100, 3) := by decide +kernel
theorem dX8_undo_4 : decode cX8_undo 4 = .ok (.ifCond .ne 6, 3) := by decide +kernel
theorem dX8_undo_7 : decode cX8_undo 7 = .ok (.bipush (-4), 2) := by decide +kernel
theorem dX8_undo_9 : decode cX8_undo 9 = .ok (.ireturn, 1) := by decide +kernel
theorem dX8_undo_10 : decode cX8_undo 10 = .ok (.aload_n 0, 1) := by decide +kernel
theorem dX8_undo_11 : decode cX8_undo 11 = .ok (.dup, 1) := by decide +kernel
theorem dX8_undo_12 : decode cX8_undo 12 = .ok (.getfield 100, 3) := by decide +kernel
theorem dX8_undo_15 : decode cX8_undo 15 = .ok (.iconst 1, 1) := by decide +kernel
theorem dX8_undo_16 : decode cX8_undo 16 = .ok (.isub, 1) := by decide +kernel
theorem dX8_undo_17 : decode cX8_undo 17 = .ok (.putfield 100, 3) := by decide +kernel
theorem dX8_undo_20 : decode cX8_undo 20 = .ok (.aload_n 0, 1) := by decide +kernel
theorem dX8_undo_21 : decode cX8_undo 21 = .ok (.sipush 400, 3) := by decide +kernel
theorem dX8_undo_24 : decode cX8_undo 24 = .ok (.bipush 23, 2) := by decide +kernel
theorem dX8_undo_26 : decode cX8_undo 26 = .ok (.aload_n 0, 1) := by decide +kernel
theorem dX8_undo_27 : decode cX8_undo 27 = .ok (.getfield 100, 3) := by decide +kernel
theorem dX8_undo_30 : decode cX8_undo 30 = .ok (.imul, 1) := by decide +kernel
theorem dX8_undo_31 : decode cX8_undo 31 = .ok (.iadd, 1) := by decide +kernel
theorem dX8_undo_32 : decode cX8_undo 32 = .ok (.bipush 57, 2) := by decide +kernel
theorem dX8_undo_34 : decode cX8_undo 34 = .ok (.bipush 23, 2) := by decide +kernel
theorem dX8_undo_36 : decode cX8_undo 36 = .ok (.invokevirtual 96, 3) := by decide +kernel
theorem dX8_undo_39 : decode cX8_undo 39 = .ok (.aload_n 0, 1) := by decide +kernel
theorem dX8_undo_40 : decode cX8_undo 40 = .ok (.getfield 100, 3) := by decide +kernel
theorem dX8_undo_43 : decode cX8_undo 43 = .ok (.ireturn, 1) := by decide +kernel
theorem dX8_image_0 : decode cX8_image 0 = .ok (.iload_n 1, 1) := by decide +kernel
theorem dX8_image_1 : decode cX8_image 1 = .ok (.i2l, 1) := by decide +kernel
theorem dX8_image_2 : decode cX8_image 2 = .ok (.lconst 0, 1) := by decide +kernel
theorem dX8_image_3 : decode cX8_image 3 = .ok (.lconst 1, 1) := by decide +kernel
theorem dX8_image_4 : decode cX8_image 4 = .ok (.invokestatic 44, 3) := by decide +kernel
theorem dX8_image_7 : decode cX8_image 7 = .ok (.ifCond .ne 5, 3) := by decide +kernel
theorem dX8_image_10 : decode cX8_image 10 = .ok (.iconst (-1), 1) := by decide +kernel
theorem dX8_image_11 : decode cX8_image 11 = .ok (.ireturn, 1) := by decide +kernel
theorem dX8_image_12 : decode cX8_image 12 = .ok (.aload_n 0, 1) := by decide +kernel
theorem dX8_image_13 : decode cX8_image 13 = .ok (.invokevirtual 115, 3) := by decide +kernel
theorem dX8_image_16 : decode cX8_image 16 = .ok (.ifCond .ne 6, 3) := by decide +kernel
theorem dX8_image_19 : decode cX8_image 19 = .ok (.bipush (-2), 2) := by decide +kernel
theorem dX8_image_21 : decode cX8_image 21 = .ok (.ireturn, 1) := by decide +kernel
theorem dX8_image_22 : decode cX8_image 22 = .ok (.aload_n 0, 1) := by decide +kernel
theorem dX8_image_23 : decode cX8_image 23 = .ok (.iconst 0, 1) := by decide +kernel
theorem dX8_image_24 : decode cX8_image 24 = .ok (.bipush 80, 2) := by decide +kernel
theorem dX8_image_26 : decode cX8_image 26 = .ok (.bipush 80, 2) := by decide +kernel
theorem dX8_image_28 : decode cX8_image 28 = .ok (.iload_n 1, 1) := by decide +kernel
theorem dX8_image_29 : decode cX8_image 29 = .ok (.imul, 1) := by decide +kernel
theorem dX8_image_30 : decode cX8_image 30 = .ok (.iadd, 1) := by decide +kernel
theorem dX8_image_31 : decode cX8_image 31 = .ok (.bipush 80, 2) := by decide +kernel
theorem dX8_image_33 : decode cX8_image 33 = .ok (.invokevirtual 96, 3) := by decide +kernel
theorem dX8_image_36 : decode cX8_image 36 = .ok (.aload_n 0, 1) := by decide +kernel
theorem dX8_image_37 : decode cX8_image 37 = .ok (.getfield 7, 3) := by decide +kernel
theorem dX8_image_40 : decode cX8_image 40 = .ok (.bipush 57, 2) := by decide +kernel
theorem dX8_image_42 : decode cX8_image 42 = .ok (.iaload, 1) := by decide +kernel
theorem dX8_image_43 : decode cX8_image 43 = .ok (.ireturn, 1) := by decide +kernel
theorem dX8_restore_0 : decode cX8_restore 0 = .ok (.iload_n 1, 1) := by decide +kernel
theorem dX8_restore_1 : decode cX8_restore 1 = .ok (.i2l, 1) := by decide +kernel
theorem dX8_restore_2 : decode cX8_restore 2 = .ok (.lconst 0, 1) := by decide +kernel
theorem dX8_restore_3 : decode cX8_restore 3 = .ok (.lconst 1, 1) := by decide +kernel
theorem dX8_restore_4 : decode cX8_restore 4 = .ok (.invokestatic 44, 3) := by decide +kernel
theorem dX8_restore_7 : decode cX8_restore 7 = .ok (.ifCond .ne 5, 3) := by decide +kernel
theorem dX8_restore_10 : decode cX8_restore 10 = .ok (.iconst (-1), 1) := by decide +kernel
theorem dX8_restore_11 : decode cX8_restore 11 = .ok (.ireturn, 1) := by decide +kernel
theorem dX8_restore_12 : decode cX8_restore 12 = .ok (.aload_n 0, 1) := by decide +kernel
theorem dX8_restore_13 : decode cX8_restore 13 = .ok (.getfield 7, 3) := by decide +kernel
theorem dX8_restore_16 : decode cX8_restore 16 = .ok (.bipush 80, 2) := by decide +kernel
theorem dX8_restore_18 : decode cX8_restore 18 = .ok (.bipush 80, 2) := by decide +kernel
theorem dX8_restore_20 : decode cX8_restore 20 = .ok (.iload_n 1, 1) := by decide +kernel
theorem dX8_restore_21 : decode cX8_restore 21 = .ok (.imul, 1) := by decide +kernel
theorem dX8_restore_22 : decode cX8_restore 22 = .ok (.iadd, 1) := by decide +kernel
theorem dX8_restore_23 : decode cX8_restore 23 = .ok (.iconst 0, 1) := by decide +kernel
theorem dX8_restore_24 : decode cX8_restore 24 = .ok (.iadd, 1) := by decide +kernel
theorem dX8_restore_25 : decode cX8_restore 25 = .ok (.iaload, 1) := by decide +kernel
theorem dX8_restore_26 : decode cX8_restore 26 = .ok (.ifCond .ne 6, 3) := by decide +kernel
theorem dX8_restore_29 : decode cX8_restore 29 = .ok (.bipush (-2), 2) := by decide +kernel
theorem dX8_restore_31 : decode cX8_restore 31 = .ok (.ireturn, 1) := by decide +kernel
theorem dX8_restore_32 : decode cX8_restore 32 = .ok (.aload_n 0, 1) := by decide +kernel
theorem dX8_restore_33 : decode cX8_restore 33 = .ok (.bipush 80, 2) := by decide +kernel
theorem dX8_restore_35 : decode cX8_restore 35 = .ok (.bipush 80, 2) := by decide +kernel
theorem dX8_restore_37 : decode cX8_restore 37 = .ok (.iload_n 1, 1) := by decide +kernel
theorem dX8_restore_38 : decode cX8_restore 38 = .ok (.imul, 1) := by decide +kernel
theorem dX8_restore_39 : decode cX8_restore 39 = .ok (.iadd, 1) := by decide +kernel
theorem dX8_restore_40 : decode cX8_restore 40 = .ok (.iconst 0, 1) := by decide +kernel
theorem dX8_restore_41 : decode cX8_restore 41 = .ok (.bipush 80, 2) := by decide +kernel
theorem dX8_restore_43 : decode cX8_restore 43 = .ok (.invokevirtual 96, 3) := by decide +kernel
theorem dX8_restore_46 : decode cX8_restore 46 = .ok (.aload_n 0, 1) := by decide +kernel
theorem dX8_restore_47 : decode cX8_restore 47 = .ok (.iconst 0, 1) := by decide +kernel
theorem dX8_restore_48 : decode cX8_restore 48 = .ok (.putfield 100, 3) := by decide +kernel
theorem dX8_restore_51 : decode cX8_restore 51 = .ok (.aload_n 0, 1) := by decide +kernel
theorem dX8_restore_52 : decode cX8_restore 52 = .ok (.getfield 7, 3) := by decide +kernel
theorem dX8_restore_55 : decode cX8_restore 55 = .ok (.bipush 57, 2) := by decide +kernel
theorem dX8_restore_57 : decode cX8_restore 57 = .ok (.iaload, 1) := by decide +kernel
theorem dX8_restore_58 : decode cX8_restore 58 = .ok (.ireturn, 1) := by decide +kernel
theorem dX8_tries_0 : decode cX8_tries 0 = .ok (.aload_n 0, 1) := by decide +kernel
theorem dX8_tries_1 : decode cX8_tries 1 = .ok (.iconst 0, 1) := by decide +kernel
theorem dX8_tries_2 : decode cX8_tries 2 = .ok (.sipush 320, 3) := by decide +kernel
theorem dX8_tries_5 : decode cX8_tries 5 = .ok (.bipush 80, 2) := by decide +kernel
theorem dX8_tries_7 : decode cX8_tries 7 = .ok (.invokevirtual 96, 3) := by decide +kernel
theorem dX8_tries_10 : decode cX8_tries 10 = .ok (.return_, 1) := by decide +kernel
theorem dX8_believed_0 : decode cX8_believed 0 = .ok (.aload_n 0, 1) := by decide +kernel
theorem dX8_believed_1 : decode cX8_believed 1 = .ok (.invokevirtual 115, 3) := by decide +kernel
theorem dX8_believed_4 : decode cX8_believed 4 = .ok (.ifCond .eq 10, 3) := by decide +kernel
theorem dX8_believed_7 : decode cX8_believed 7 = .ok (.iload_n 1, 1) := by decide +kernel
theorem dX8_believed_8 : decode cX8_believed 8 = .ok (.invokestatic 118, 3) := by decide +kernel
theorem dX8_believed_11 : decode cX8_believed 11 = .ok (.ifCond .ne 5, 3) := by decide +kernel
theorem dX8_believed_14 : decode cX8_believed 14 = .ok (.iconst (-1), 1) := by decide +kernel
theorem dX8_believed_15 : decode cX8_believed 15 = .ok (.ireturn, 1) := by decide +kernel
theorem dX8_believed_16 : decode cX8_believed 16 = .ok (.iconst 0, 1) := by decide +kernel
theorem dX8_believed_17 : decode cX8_believed 17 = .ok (.istore_n 2, 1) := by decide +kernel
theorem dX8_believed_18 : decode cX8_believed 18 = .ok (.iconst 0, 1) := by decide +kernel
theorem dX8_believed_19 : decode cX8_believed 19 = .ok (.istore_n 3, 1) := by decide +kernel
theorem dX8_believed_20 : decode cX8_believed 20 = .ok (.iload_n 3, 1) := by decide +kernel
theorem dX8_believed_21 : decode cX8_believed 21 = .ok (.aload_n 0, 1) := by decide +kernel
theorem dX8_believed_22 : decode cX8_believed 22 = .ok (.getfield 7, 3) := by decide +kernel
theorem dX8_believed_25 : decode cX8_believed 25 = .ok (.iconst 0, 1) := by decide +kernel
theorem dX8_believed_26 : decode cX8_believed 26 = .ok (.iaload, 1) := by decide +kernel
theorem dX8_believed_27 : decode cX8_believed 27 = .ok (.if_icmp .ge 29, 3) := by decide +kernel
theorem dX8_believed_30 : decode cX8_believed 30 = .ok (.iload_n 2, 1) := by decide +kernel
theorem dX8_believed_31 : decode cX8_believed 31 = .ok (.aload_n 0, 1) := by decide +kernel
theorem dX8_believed_32 : decode cX8_believed 32 = .ok (.iconst 0, 1) := by decide +kernel
theorem dX8_believed_33 : decode cX8_believed 33 = .ok (.iload_n 3, 1) := by decide +kernel
theorem dX8_believed_34 : decode cX8_believed 34 = .ok (.iload_n 1, 1) := by decide +kernel
theorem dX8_believed_35 : decode cX8_believed 35 = .ok (.invokevirtual 136, 3) := by decide +kernel
theorem dX8_believed_38 : decode cX8_believed 38 = .ok (.ifCond .eq 9, 3) := by decide +kernel
theorem dX8_believed_41 : decode cX8_believed 41 = .ok (.iconst 1, 1) := by decide +kernel
theorem dX8_believed_42 : decode cX8_believed 42 = .ok (.iload_n 3, 1) := by decide +kernel
theorem dX8_believed_43 : decode cX8_believed 43 = .ok (.ishl, 1) := by decide +kernel
theorem dX8_believed_44 : decode cX8_believed 44 = .ok (.goto 4, 3) := by decide +kernel
theorem dX8_believed_47 : decode cX8_believed 47 = .ok (.iconst 0, 1) := by decide +kernel
theorem dX8_believed_48 : decode cX8_believed 48 = .ok (.ior, 1) := by decide +kernel
theorem dX8_believed_49 : decode cX8_believed 49 = .ok (.istore_n 2, 1) := by decide +kernel
theorem dX8_believed_50 : decode cX8_believed 50 = .ok (.iinc 3 1, 3) := by decide +kernel
theorem dX8_believed_53 : decode cX8_believed 53 = .ok (.goto (-33), 3) := by decide +kernel
theorem dX8_believed_56 : decode cX8_believed 56 = .ok (.iload_n 2, 1) := by decide +kernel
theorem dX8_believed_57 : decode cX8_believed 57 = .ok (.ireturn, 1) := by decide +kernel
theorem dX8_strikes_0 : decode cX8_strikes 0 = .ok (.aload_n 0, 1) := by decide +kernel
theorem dX8_strikes_1 : decode cX8_strikes 1 = .ok (.iload_n 1, 1) := by decide +kernel
theorem dX8_strikes_2 : decode cX8_strikes 2 = .ok (.invokevirtual 103, 3) := by decide +kernel
theorem dX8_strikes_5 : decode cX8_strikes 5 = .ok (.ifCond .ne 5, 3) := by decide +kernel
theorem dX8_strikes_8 : decode cX8_strikes 8 = .ok (.iconst (-1), 1) := by decide +kernel
theorem dX8_strikes_9 : decode cX8_strikes 9 = .ok (.ireturn, 1) := by decide +kernel
theorem dX8_strikes_10 : decode cX8_strikes 10 = .ok (.iconst 0, 1) := by decide +kernel
theorem dX8_strikes_11 : decode cX8_strikes 11 = .ok (.istore_n 2, 1) := by decide +kernel
theorem dX8_strikes_12 : decode cX8_strikes 12 = .ok (.aload_n 0, 1) := by decide +kernel
theorem dX8_strikes_13 : decode cX8_strikes 13 = .ok (.getfield 7, 3) := by decide +kernel
theorem dX8_strikes_16 : decode cX8_strikes 16 = .ok (.bipush 58, 2) := by decide +kernel
theorem dX8_strikes_18 : decode cX8_strikes 18 = .ok (.iload_n 1, 1) := by decide +kernel
theorem dX8_strikes_19 : decode cX8_strikes 19 = .ok (.iadd, 1) := by decide +kernel
theorem dX8_strikes_20 : decode cX8_strikes 20 = .ok (.iaload, 1) := by decide +kernel
theorem dX8_strikes_21 : decode cX8_strikes 21 = .ok (.istore_n 3, 1) := by decide +kernel
theorem dX8_strikes_22 : decode cX8_strikes 22 = .ok (.iload_n 3, 1) := by decide +kernel
theorem dX8_strikes_23 : decode cX8_strikes 23 = .ok (.ifCond .lt 25, 3) := by decide +kernel
theorem dX8_strikes_26 : decode cX8_strikes 26 = .ok (.aload_n 0, 1) := by decide +kernel
theorem dX8_strikes_27 : decode cX8_strikes 27 = .ok (.iconst 0, 1) := by decide +kernel
theorem dX8_strikes_28 : decode cX8_strikes 28 = .ok (.iload_n 3, 1) := by decide +kernel
theorem dX8_strikes_29 : decode cX8_strikes 29 = .ok (.aload_n 0, 1) := by decide +kernel
theorem dX8_strikes_30 : decode cX8_strikes 30 = .ok (.getfield 7, 3) := by decide +kernel
theorem dX8_strikes_33 : decode cX8_strikes 33 = .ok (.bipush 64, 2) := by decide +kernel
theorem dX8_strikes_35 : decode cX8_strikes 35 = .ok (.iload_n 1, 1) := by decide +kernel
theorem dX8_strikes_36 : decode cX8_strikes 36 = .ok (.iadd, 1) := by decide +kernel
theorem dX8_strikes_37 : decode cX8_strikes 37 = .ok (.iaload, 1) := by decide +kernel
theorem dX8_strikes_38 : decode cX8_strikes 38 = .ok (.invokevirtual 129, 3) := by decide +kernel
theorem dX8_strikes_41 : decode cX8_strikes 41 = .ok (.istore_n 3, 1) := by decide +kernel
theorem dX8_strikes_42 : decode cX8_strikes 42 = .ok (.iinc 2 1, 3) := by decide +kernel
theorem dX8_strikes_45 : decode cX8_strikes 45 = .ok (.goto (-23), 3) := by decide +kernel
theorem dX8_strikes_48 : decode cX8_strikes 48 = .ok (.iload_n 2, 1) := by decide +kernel
theorem dX8_strikes_49 : decode cX8_strikes 49 = .ok (.ireturn, 1) := by decide +kernel
theorem dX8_leads_0 : decode cX8_leads 0 = .ok (.aload_n 0, 1) := by decide +kernel
theorem dX8_leads_1 : decode cX8_leads 1 = .ok (.getfield 7, 3) := by decide +kernel
theorem dX8_leads_4 : decode cX8_leads 4 = .ok (.bipush 51, 2) := by decide +kernel
theorem dX8_leads_6 : decode cX8_leads 6 = .ok (.iload_n 1, 1) := by decide +kernel
theorem dX8_leads_7 : decode cX8_leads 7 = .ok (.iadd, 1) := by decide +kernel
theorem dX8_leads_8 : decode cX8_leads 8 = .ok (.iaload, 1) := by decide +kernel
theorem dX8_leads_9 : decode cX8_leads 9 = .ok (.iconst 5, 1) := by decide +kernel
theorem dX8_leads_10 : decode cX8_leads 10 = .ok (.if_icmp .ne 15, 3) := by decide +kernel
theorem dX8_leads_13 : decode cX8_leads 13 = .ok (.iload 4, 2) := by decide +kernel
theorem dX8_leads_15 : decode cX8_leads 15 = .ok (.ifCond .le 10, 3) := by decide +kernel
theorem dX8_leads_18 : decode cX8_leads 18 = .ok (.iconst 3, 1) := by decide +kernel
theorem dX8_leads_19 : decode cX8_leads 19 = .ok (.iload 4, 2) := by decide +kernel
theorem dX8_leads_21 : decode cX8_leads 21 = .ok (.isub, 1) := by decide +kernel
theorem dX8_leads_22 : decode cX8_leads 22 = .ok (.goto 5, 3) := by decide +kernel
theorem dX8_leads_25 : decode cX8_leads 25 = .ok (.iload 4, 2) := by decide +kernel
theorem dX8_leads_27 : decode cX8_leads 27 = .ok (.istore 5, 2) := by decide +kernel
theorem dX8_leads_29 : decode cX8_leads 29 = .ok (.iload_n 2, 1) := by decide +kernel
theorem dX8_leads_30 : decode cX8_leads 30 = .ok (.ifCond .ne 9, 3) := by decide +kernel
theorem dX8_leads_33 : decode cX8_leads 33 = .ok (.iload_n 3, 1) := by decide +kernel
theorem dX8_leads_34 : decode cX8_leads 34 = .ok (.iconst 4, 1) := by decide +kernel
theorem dX8_leads_35 : decode cX8_leads 35 = .ok (.irem, 1) := by decide +kernel
theorem dX8_leads_36 : decode cX8_leads 36 = .ok (.goto 30, 3) := by decide +kernel
theorem dX8_leads_39 : decode cX8_leads 39 = .ok (.iload_n 3, 1) := by decide +kernel
theorem dX8_leads_40 : decode cX8_leads 40 = .ok (.iconst 4, 1) := by decide +kernel
theorem dX8_leads_41 : decode cX8_leads 41 = .ok (.irem, 1) := by decide +kernel
theorem dX8_leads_42 : decode cX8_leads 42 = .ok (.iload 5, 2) := by decide +kernel
theorem dX8_leads_44 : decode cX8_leads 44 = .ok (.iconst 1, 1) := by decide +kernel
theorem dX8_leads_45 : decode cX8_leads 45 = .ok (.if_icmp .ne 7, 3) := by decide +kernel
theorem dX8_leads_48 : decode cX8_leads 48 = .ok (.iconst 3, 1) := by decide +kernel
theorem dX8_leads_49 : decode cX8_leads 49 = .ok (.goto 14, 3) := by decide +kernel
theorem dX8_leads_52 : decode cX8_leads 52 = .ok (.iload 5, 2) := by decide +kernel
theorem dX8_leads_54 : decode cX8_leads 54 = .ok (.iconst 2, 1) := by decide +kernel
theorem dX8_leads_55 : decode cX8_leads 55 = .ok (.if_icmp .ne 7, 3) := by decide +kernel
theorem dX8_leads_58 : decode cX8_leads 58 = .ok (.iconst 1, 1) := by decide +kernel
theorem dX8_leads_59 : decode cX8_leads 59 = .ok (.goto 4, 3) := by decide +kernel
theorem dX8_leads_62 : decode cX8_leads 62 = .ok (.iconst 0, 1) := by decide +kernel
theorem dX8_leads_63 : decode cX8_leads 63 = .ok (.iadd, 1) := by decide +kernel
theorem dX8_leads_64 : decode cX8_leads 64 = .ok (.iconst 4, 1) := by decide +kernel
theorem dX8_leads_65 : decode cX8_leads 65 = .ok (.irem, 1) := by decide +kernel
theorem dX8_leads_66 : decode cX8_leads 66 = .ok (.istore 6, 2) := by decide +kernel
theorem dX8_leads_68 : decode cX8_leads 68 = .ok (.aload_n 0, 1) := by decide +kernel
theorem dX8_leads_69 : decode cX8_leads 69 = .ok (.iconst 0, 1) := by decide +kernel
theorem dX8_leads_70 : decode cX8_leads 70 = .ok (.iload_n 3, 1) := by decide +kernel
theorem dX8_leads_71 : decode cX8_leads 71 = .ok (.iconst 4, 1) := by decide +kernel
theorem dX8_leads_72 : decode cX8_leads 72 = .ok (.idiv, 1) := by decide +kernel
theorem dX8_leads_73 : decode cX8_leads 73 = .ok (.iload 6, 2) := by decide +kernel
theorem dX8_leads_75 : decode cX8_leads 75 = .ok (.invokevirtual 129, 3) := by decide +kernel
theorem dX8_leads_78 : decode cX8_leads 78 = .ok (.istore 7, 2) := by decide +kernel
theorem dX8_leads_80 : decode cX8_leads 80 = .ok (.iload 7, 2) := by decide +kernel
theorem dX8_leads_82 : decode cX8_leads 82 = .ok (.ifCond .ge 7, 3) := by decide +kernel
theorem dX8_leads_85 : decode cX8_leads 85 = .ok (.iconst (-1), 1) := by decide +kernel
theorem dX8_leads_86 : decode cX8_leads 86 = .ok (.goto 10, 3) := by decide +kernel
theorem dX8_leads_89 : decode cX8_leads 89 = .ok (.iconst 4, 1) := by decide +kernel
theorem dX8_leads_90 : decode cX8_leads 90 = .ok (.iload 7, 2) := by decide +kernel
theorem dX8_leads_92 : decode cX8_leads 92 = .ok (.imul, 1) := by decide +kernel
theorem dX8_leads_93 : decode cX8_leads 93 = .ok (.iload 6, 2) := by decide +kernel
theorem dX8_leads_95 : decode cX8_leads 95 = .ok (.iadd, 1) := by decide +kernel
theorem dX8_leads_96 : decode cX8_leads 96 = .ok (.ireturn, 1) := by decide +kernel
theorem dX8_laysLeft_0 : decode cX8_laysLeft 0 = .ok (.iconst 0, 1) := by decide +kernel
theorem dX8_laysLeft_1 : decode cX8_laysLeft 1 = .ok (.istore 4, 2) := by decide +kernel
theorem dX8_laysLeft_3 : decode cX8_laysLeft 3 = .ok (.iload 4, 2) := by decide +kernel
theorem dX8_laysLeft_5 : decode cX8_laysLeft 5 = .ok (.sipush 192, 3) := by decide +kernel
theorem dX8_laysLeft_8 : decode cX8_laysLeft 8 = .ok (.if_icmp .ge 30, 3) := by decide +kernel
theorem dX8_laysLeft_11 : decode cX8_laysLeft 11 = .ok (.aload_n 0, 1) := by decide +kernel
theorem dX8_laysLeft_12 : decode cX8_laysLeft 12 = .ok (.getfield 26, 3) := by decide +kernel
theorem dX8_laysLeft_15 : decode cX8_laysLeft 15 = .ok (.iload 4, 2) := by decide +kernel
theorem dX8_laysLeft_17 : decode cX8_laysLeft 17 = .ok (.iload 4, 2) := by decide +kernel
theorem dX8_laysLeft_19 : decode cX8_laysLeft 19 = .ok (.iconst 4, 1) := by decide +kernel
theorem dX8_laysLeft_20 : decode cX8_laysLeft 20 = .ok (.idiv, 1) := by decide +kernel
theorem dX8_laysLeft_21 : decode cX8_laysLeft 21 = .ok (.iload_n 3, 1) := by decide +kernel
theorem dX8_laysLeft_22 : decode cX8_laysLeft 22 = .ok (.if_icmp .ne 7, 3) := by decide +kernel
theorem dX8_laysLeft_25 : decode cX8_laysLeft 25 = .ok (.iconst 0, 1) := by decide +kernel
theorem dX8_laysLeft_26 : decode cX8_laysLeft 26 = .ok (.goto 5, 3) := by decide +kernel
theorem dX8_laysLeft_29 : decode cX8_laysLeft 29 = .ok (.ldc 165, 2) := by decide +kernel
theorem dX8_laysLeft_31 : decode cX8_laysLeft 31 = .ok (.iastore, 1) := by decide +kernel
theorem dX8_laysLeft_32 : decode cX8_laysLeft 32 = .ok (.iinc 4 1, 3) := by decide +kernel
theorem dX8_laysLeft_35 : decode cX8_laysLeft 35 = .ok (.goto (-32), 3) := by decide +kernel
theorem dX8_laysLeft_38 : decode cX8_laysLeft 38 = .ok (.iconst 1, 1) := by decide +kernel
theorem dX8_laysLeft_39 : decode cX8_laysLeft 39 = .ok (.istore 4, 2) := by decide +kernel
theorem dX8_laysLeft_41 : decode cX8_laysLeft 41 = .ok (.iload 4, 2) := by decide +kernel
theorem dX8_laysLeft_43 : decode cX8_laysLeft 43 = .ok (.ifCond .eq 107, 3) := by decide +kernel
theorem dX8_laysLeft_46 : decode cX8_laysLeft 46 = .ok (.iconst 0, 1) := by decide +kernel
theorem dX8_laysLeft_47 : decode cX8_laysLeft 47 = .ok (.istore 4, 2) := by decide +kernel
theorem dX8_laysLeft_49 : decode cX8_laysLeft 49 = .ok (.iconst 0, 1) := by decide +kernel
theorem dX8_laysLeft_50 : decode cX8_laysLeft 50 = .ok (.istore 5, 2) := by decide +kernel
theorem dX8_laysLeft_52 : decode cX8_laysLeft 52 = .ok (.iload 5, 2) := by decide +kernel
theorem dX8_laysLeft_54 : decode cX8_laysLeft 54 = .ok (.sipush 192, 3) := by decide +kernel
theorem dX8_laysLeft_57 : decode cX8_laysLeft 57 = .ok (.if_icmp .ge 90, 3) := by decide +kernel
theorem dX8_laysLeft_60 : decode cX8_laysLeft 60 = .ok (.aload_n 0, 1) := by decide +kernel
theorem dX8_laysLeft_61 : decode cX8_laysLeft 61 = .ok (.iload 5, 2) := by decide +kernel
theorem dX8_laysLeft_63 : decode cX8_laysLeft 63 = .ok (.iconst 4, 1) := by decide +kernel
theorem dX8_laysLeft_64 : decode cX8_laysLeft 64 = .ok (.idiv, 1) := by decide +kernel
theorem dX8_laysLeft_65 : decode cX8_laysLeft 65 = .ok (.invokevirtual 112, 3) := by decide +kernel
theorem dX8_laysLeft_68 : decode cX8_laysLeft 68 = .ok (.ifCond .eq 73, 3) := by decide +kernel
theorem dX8_laysLeft_71 : decode cX8_laysLeft 71 = .ok (.iconst 0, 1) := by decide +kernel
theorem dX8_laysLeft_72 : decode cX8_laysLeft 72 = .ok (.istore 6, 2) := by decide +kernel
theorem dX8_laysLeft_74 : decode cX8_laysLeft 74 = .ok (.iload 6, 2) := by decide +kernel
theorem dX8_laysLeft_76 : decode cX8_laysLeft 76 = .ok (.iconst 3, 1) := by decide +kernel
theorem dX8_laysLeft_77 : decode cX8_laysLeft 77 = .ok (.if_icmp .ge 64, 3) := by decide +kernel
theorem dX8_laysLeft_80 : decode cX8_laysLeft 80 = .ok (.aload_n 0, 1) := by decide +kernel
theorem dX8_laysLeft_81 : decode cX8_laysLeft 81 = .ok (.iload_n 1, 1) := by decide +kernel
theorem dX8_laysLeft_82 : decode cX8_laysLeft 82 = .ok (.iload_n 2, 1) := by decide +kernel
theorem dX8_laysLeft_83 : decode cX8_laysLeft 83 = .ok (.iload 5, 2) := by decide +kernel
theorem dX8_laysLeft_85 : decode cX8_laysLeft 85 = .ok (.iload 6, 2) := by decide +kernel
theorem dX8_laysLeft_87 : decode cX8_laysLeft 87 = .ok (.invokevirtual 166, 3) := by decide +kernel
theorem dX8_laysLeft_90 : decode cX8_laysLeft 90 = .ok (.istore 7, 2) := by decide +kernel
theorem dX8_laysLeft_92 : decode cX8_laysLeft 92 = .ok (.iload 7, 2) := by decide +kernel
theorem dX8_laysLeft_94 : decode cX8_laysLeft 94 = .ok (.ifCond .lt 41, 3) := by decide +kernel
theorem dX8_laysLeft_97 : decode cX8_laysLeft 97 = .ok (.aload_n 0, 1) := by decide +kernel
theorem dX8_laysLeft_98 : decode cX8_laysLeft 98 = .ok (.getfield 26, 3) := by decide +kernel
theorem dX8_laysLeft_101 : decode cX8_laysLeft 101 = .ok (.iload 7, 2) := by decide +kernel
theorem dX8_laysLeft_103 : decode cX8_laysLeft 103 = .ok (.iaload, 1) := by decide +kernel
theorem dX8_laysLeft_104 : decode cX8_laysLeft 104 = .ok (.iconst 1, 1) := by decide +kernel
theorem dX8_laysLeft_105 : decode cX8_laysLeft 105 = .ok (.iadd, 1) := by decide +kernel
theorem dX8_laysLeft_106 : decode cX8_laysLeft 106 = .ok (.aload_n 0, 1) := by decide +kernel
theorem dX8_laysLeft_107 : decode cX8_laysLeft 107 = .ok (.getfield 26, 3) := by decide +kernel
theorem dX8_laysLeft_110 : decode cX8_laysLeft 110 = .ok (.iload 5, 2) := by decide +kernel
theorem dX8_laysLeft_112 : decode cX8_laysLeft 112 = .ok (.iaload, 1) := by decide +kernel
theorem dX8_laysLeft_113 : decode cX8_laysLeft 113 = .ok (.if_icmp .ge 22, 3) := by decide +kernel
theorem dX8_laysLeft_116 : decode cX8_laysLeft 116 = .ok (.aload_n 0, 1) := by decide +kernel
theorem dX8_laysLeft_117 : decode cX8_laysLeft 117 = .ok (.getfield 26, 3) := by decide +kernel
theorem dX8_laysLeft_120 : decode cX8_laysLeft 120 = .ok (.iload 5, 2) := by decide +kernel
theorem dX8_laysLeft_122 : decode cX8_laysLeft 122 = .ok (.aload_n 0, 1) := by decide +kernel
theorem dX8_laysLeft_123 : decode cX8_laysLeft 123 = .ok (.getfield 26, 3) := by decide +kernel
theorem dX8_laysLeft_126 : decode cX8_laysLeft 126 = .ok (.iload 7, 2) := by decide +kernel
theorem dX8_laysLeft_128 : decode cX8_laysLeft 128 = .ok (.iaload, 1) := by decide +kernel
theorem dX8_laysLeft_129 : decode cX8_laysLeft 129 = .ok (.iconst 1, 1) := by decide +kernel
theorem dX8_laysLeft_130 : decode cX8_laysLeft 130 = .ok (.iadd, 1) := by decide +kernel
theorem dX8_laysLeft_131 : decode cX8_laysLeft 131 = .ok (.iastore, 1) := by decide +kernel
theorem dX8_laysLeft_132 : decode cX8_laysLeft 132 = .ok (.iconst 1, 1) := by decide +kernel
theorem dX8_laysLeft_133 : decode cX8_laysLeft 133 = .ok (.istore 4, 2) := by decide +kernel
theorem dX8_laysLeft_135 : decode cX8_laysLeft 135 = .ok (.iinc 6 1, 3) := by decide +kernel
theorem dX8_laysLeft_138 : decode cX8_laysLeft 138 = .ok (.goto (-64), 3) := by decide +kernel
theorem dX8_laysLeft_141 : decode cX8_laysLeft 141 = .ok (.iinc 5 1, 3) := by decide +kernel
theorem dX8_laysLeft_144 : decode cX8_laysLeft 144 = .ok (.goto (-92), 3) := by decide +kernel
theorem dX8_laysLeft_147 : decode cX8_laysLeft 147 = .ok (.goto (-106), 3) := by decide +kernel
theorem dX8_laysLeft_150 : decode cX8_laysLeft 150 = .ok (.return_, 1) := by decide +kernel
theorem dX8_course_0 : decode cX8_course 0 = .ok (.aload_n 0, 1) := by decide +kernel
theorem dX8_course_1 : decode cX8_course 1 = .ok (.iload_n 1, 1) := by decide +kernel
theorem dX8_course_2 : decode cX8_course 2 = .ok (.invokevirtual 103, 3) := by decide +kernel
theorem dX8_course_5 : decode cX8_course 5 = .ok (.ifCond .eq 24, 3) := by decide +kernel
theorem dX8_course_8 : decode cX8_course 8 = .ok (.iload_n 2, 1) := by decide +kernel
theorem dX8_course_9 : decode cX8_course 9 = .ok (.invokestatic 118, 3) := by decide +kernel
theorem dX8_course_12 : decode cX8_course 12 = .ok (.ifCond .eq 17, 3) := by decide +kernel
theorem dX8_course_15 : decode cX8_course 15 = .ok (.aload_n 0, 1) := by decide +kernel
theorem dX8_course_16 : decode cX8_course 16 = .ok (.iload_n 3, 1) := by decide +kernel
theorem dX8_course_17 : decode cX8_course 17 = .ok (.invokevirtual 112, 3) := by decide +kernel
theorem dX8_course_20 : decode cX8_course 20 = .ok (.ifCond .eq 9, 3) := by decide +kernel
theorem dX8_course_23 : decode cX8_course 23 = .ok (.iload 4, 2) := by decide +kernel
theorem dX8_course_25 : decode cX8_course 25 = .ok (.iconst (-1), 1) := by decide +kernel
theorem dX8_course_26 : decode cX8_course 26 = .ok (.if_icmp .ge 5, 3) := by decide +kernel
theorem dX8_course_29 : decode cX8_course 29 = .ok (.iconst (-1), 1) := by decide +kernel
theorem dX8_course_30 : decode cX8_course 30 = .ok (.ireturn, 1) := by decide +kernel
theorem dX8_course_31 : decode cX8_course 31 = .ok (.aload_n 0, 1) := by decide +kernel
theorem dX8_course_32 : decode cX8_course 32 = .ok (.getfield 7, 3) := by decide +kernel
theorem dX8_course_35 : decode cX8_course 35 = .ok (.iconst 3, 1) := by decide +kernel
theorem dX8_course_36 : decode cX8_course 36 = .ok (.iload_n 3, 1) := by decide +kernel
theorem dX8_course_37 : decode cX8_course 37 = .ok (.iadd, 1) := by decide +kernel
theorem dX8_course_38 : decode cX8_course 38 = .ok (.iaload, 1) := by decide +kernel
theorem dX8_course_39 : decode cX8_course 39 = .ok (.iconst 1, 1) := by decide +kernel
theorem dX8_course_40 : decode cX8_course 40 = .ok (.if_icmp .ne 6, 3) := by decide +kernel
theorem dX8_course_43 : decode cX8_course 43 = .ok (.bipush (-2), 2) := by decide +kernel
theorem dX8_course_45 : decode cX8_course 45 = .ok (.ireturn, 1) := by decide +kernel
theorem dX8_course_46 : decode cX8_course 46 = .ok (.aload_n 0, 1) := by decide +kernel
theorem dX8_course_47 : decode cX8_course 47 = .ok (.iconst 0, 1) := by decide +kernel
theorem dX8_course_48 : decode cX8_course 48 = .ok (.iload_n 1, 1) := by decide +kernel
theorem dX8_course_49 : decode cX8_course 49 = .ok (.iload_n 2, 1) := by decide +kernel
theorem dX8_course_50 : decode cX8_course 50 = .ok (.invokevirtual 136, 3) := by decide +kernel
theorem dX8_course_53 : decode cX8_course 53 = .ok (.istore 5, 2) := by decide +kernel
theorem dX8_course_55 : decode cX8_course 55 = .ok (.aload_n 0, 1) := by decide +kernel
theorem dX8_course_56 : decode cX8_course 56 = .ok (.iload_n 1, 1) := by decide +kernel
theorem dX8_course_57 : decode cX8_course 57 = .ok (.iload 5, 2) := by decide +kernel
theorem dX8_course_59 : decode cX8_course 59 = .ok (.iload_n 3, 1) := by decide +kernel
theorem dX8_course_60 : decode cX8_course 60 = .ok (.invokevirtual 170, 3) := by decide +kernel
theorem dX8_course_63 : decode cX8_course 63 = .ok (.iconst 4, 1) := by decide +kernel
theorem dX8_course_64 : decode cX8_course 64 = .ok (.aload_n 0, 1) := by decide +kernel
theorem dX8_course_65 : decode cX8_course 65 = .ok (.getfield 7, 3) := by decide +kernel
theorem dX8_course_68 : decode cX8_course 68 = .ok (.bipush 58, 2) := by decide +kernel
theorem dX8_course_70 : decode cX8_course 70 = .ok (.iload_n 1, 1) := by decide +kernel
theorem dX8_course_71 : decode cX8_course 71 = .ok (.iadd, 1) := by decide +kernel
theorem dX8_course_72 : decode cX8_course 72 = .ok (.iaload, 1) := by decide +kernel
theorem dX8_course_73 : decode cX8_course 73 = .ok (.imul, 1) := by decide +kernel
theorem dX8_course_74 : decode cX8_course 74 = .ok (.aload_n 0, 1) := by decide +kernel
theorem dX8_course_75 : decode cX8_course 75 = .ok (.getfield 7, 3) := by decide +kernel
theorem dX8_course_78 : decode cX8_course 78 = .ok (.bipush 64, 2) := by decide +kernel
theorem dX8_course_80 : decode cX8_course 80 = .ok (.iload_n 1, 1) := by decide +kernel
theorem dX8_course_81 : decode cX8_course 81 = .ok (.iadd, 1) := by decide +kernel
theorem dX8_course_82 : decode cX8_course 82 = .ok (.iaload, 1) := by decide +kernel
theorem dX8_course_83 : decode cX8_course 83 = .ok (.iadd, 1) := by decide +kernel
theorem dX8_course_84 : decode cX8_course 84 = .ok (.istore 6, 2) := by decide +kernel
theorem dX8_course_86 : decode cX8_course 86 = .ok (.aload_n 0, 1) := by decide +kernel
theorem dX8_course_87 : decode cX8_course 87 = .ok (.getfield 26, 3) := by decide +kernel
theorem dX8_course_90 : decode cX8_course 90 = .ok (.iload 6, 2) := by decide +kernel
theorem dX8_course_92 : decode cX8_course 92 = .ok (.iaload, 1) := by decide +kernel
theorem dX8_course_93 : decode cX8_course 93 = .ok (.istore 7, 2) := by decide +kernel
theorem dX8_course_95 : decode cX8_course 95 = .ok (.iload 7, 2) := by decide +kernel
theorem dX8_course_97 : decode cX8_course 97 = .ok (.ldc 165, 2) := by decide +kernel
theorem dX8_course_99 : decode cX8_course 99 = .ok (.if_icmp .lt 6, 3) := by decide +kernel
theorem dX8_course_102 : decode cX8_course 102 = .ok (.bipush (-4), 2) := by decide +kernel
theorem dX8_course_104 : decode cX8_course 104 = .ok (.ireturn, 1) := by decide +kernel
theorem dX8_course_105 : decode cX8_course 105 = .ok (.iload 4, 2) := by decide +kernel
theorem dX8_course_107 : decode cX8_course 107 = .ok (.ifCond .ge 6, 3) := by decide +kernel
theorem dX8_course_110 : decode cX8_course 110 = .ok (.iload 7, 2) := by decide +kernel
theorem dX8_course_112 : decode cX8_course 112 = .ok (.ireturn, 1) := by decide +kernel
theorem dX8_course_113 : decode cX8_course 113 = .ok (.iload 4, 2) := by decide +kernel
theorem dX8_course_115 : decode cX8_course 115 = .ok (.iload 7, 2) := by decide +kernel
theorem dX8_course_117 : decode cX8_course 117 = .ok (.if_icmp .lt 6, 3) := by decide +kernel
theorem dX8_course_120 : decode cX8_course 120 = .ok (.bipush (-4), 2) := by decide +kernel
theorem dX8_course_122 : decode cX8_course 122 = .ok (.ireturn, 1) := by decide +kernel
theorem dX8_course_123 : decode cX8_course 123 = .ok (.iconst 0, 1) := by decide +kernel
theorem dX8_course_124 : decode cX8_course 124 = .ok (.istore 8, 2) := by decide +kernel
theorem dX8_course_126 : decode cX8_course 126 = .ok (.iconst 0, 1) := by decide +kernel
theorem dX8_course_127 : decode cX8_course 127 = .ok (.istore 9, 2) := by decide +kernel
theorem dX8_course_129 : decode cX8_course 129 = .ok (.iload 9, 2) := by decide +kernel
theorem dX8_course_131 : decode cX8_course 131 = .ok (.iload 4, 2) := by decide +kernel
theorem dX8_course_133 : decode cX8_course 133 = .ok (.if_icmp .gt 71, 3) := by decide +kernel
theorem dX8_course_136 : decode cX8_course 136 = .ok (.iconst 0, 1) := by decide +kernel
theorem dX8_course_137 : decode cX8_course 137 = .ok (.istore 8, 2) := by decide +kernel
theorem dX8_course_139 : decode cX8_course 139 = .ok (.aload_n 0, 1) := by decide +kernel
theorem dX8_course_140 : decode cX8_course 140 = .ok (.iload_n 1, 1) := by decide +kernel
theorem dX8_course_141 : decode cX8_course 141 = .ok (.iload 5, 2) := by decide +kernel
theorem dX8_course_143 : decode cX8_course 143 = .ok (.iload 6, 2) := by decide +kernel
theorem dX8_course_145 : decode cX8_course 145 = .ok (.iload 8, 2) := by decide +kernel
theorem dX8_course_147 : decode cX8_course 147 = .ok (.invokevirtual 166, 3) := by decide +kernel
theorem dX8_course_150 : decode cX8_course 150 = .ok (.ifCond .lt 29, 3) := by decide +kernel
theorem dX8_course_153 : decode cX8_course 153 = .ok (.aload_n 0, 1) := by decide +kernel
theorem dX8_course_154 : decode cX8_course 154 = .ok (.getfield 26, 3) := by decide +kernel
theorem dX8_course_157 : decode cX8_course 157 = .ok (.aload_n 0, 1) := by decide +kernel
theorem dX8_course_158 : decode cX8_course 158 = .ok (.iload_n 1, 1) := by decide +kernel
theorem dX8_course_159 : decode cX8_course 159 = .ok (.iload 5, 2) := by decide +kernel
theorem dX8_course_161 : decode cX8_course 161 = .ok (.iload 6, 2) := by decide +kernel
theorem dX8_course_163 : decode cX8_course 163 = .ok (.iload 8, 2) := by decide +kernel
theorem dX8_course_165 : decode cX8_course 165 = .ok (.invokevirtual 166, 3) := by decide +kernel
theorem dX8_course_168 : decode cX8_course 168 = .ok (.iaload, 1) := by decide +kernel
theorem dX8_course_169 : decode cX8_course 169 = .ok (.iload 7, 2) := by decide +kernel
theorem dX8_course_171 : decode cX8_course 171 = .ok (.iload 9, 2) := by decide +kernel
theorem dX8_course_173 : decode cX8_course 173 = .ok (.isub, 1) := by decide +kernel
theorem dX8_course_174 : decode cX8_course 174 = .ok (.iconst 1, 1) := by decide +kernel
theorem dX8_course_175 : decode cX8_course 175 = .ok (.isub, 1) := by decide +kernel
theorem dX8_course_176 : decode cX8_course 176 = .ok (.if_icmp .eq 9, 3) := by decide +kernel
theorem dX8_course_179 : decode cX8_course 179 = .ok (.iinc 8 1, 3) := by decide +kernel
theorem dX8_course_182 : decode cX8_course 182 = .ok (.goto (-43), 3) := by decide +kernel
theorem dX8_course_185 : decode cX8_course 185 = .ok (.aload_n 0, 1) := by decide +kernel
theorem dX8_course_186 : decode cX8_course 186 = .ok (.iload_n 1, 1) := by decide +kernel
theorem dX8_course_187 : decode cX8_course 187 = .ok (.iload 5, 2) := by decide +kernel
theorem dX8_course_189 : decode cX8_course 189 = .ok (.iload 6, 2) := by decide +kernel
theorem dX8_course_191 : decode cX8_course 191 = .ok (.iload 8, 2) := by decide +kernel
theorem dX8_course_193 : decode cX8_course 193 = .ok (.invokevirtual 166, 3) := by decide +kernel
theorem dX8_course_196 : decode cX8_course 196 = .ok (.istore 6, 2) := by decide +kernel
theorem dX8_course_198 : decode cX8_course 198 = .ok (.iinc 9 1, 3) := by decide +kernel
theorem dX8_course_201 : decode cX8_course 201 = .ok (.goto (-72), 3) := by decide +kernel
theorem dX8_course_204 : decode cX8_course 204 = .ok (.iload 8, 2) := by decide +kernel
theorem dX8_course_206 : decode cX8_course 206 = .ok (.ireturn, 1) := by decide +kernel
theorem dX8_bestCrew_0 : decode cX8_bestCrew 0 = .ok (.iconst (-1), 1) := by decide +kernel
theorem dX8_bestCrew_1 : decode cX8_bestCrew 1 = .ok (.istore_n 1, 1) := by decide +kernel
theorem dX8_bestCrew_2 : decode cX8_bestCrew 2 = .ok (.iconst 0, 1) := by decide +kernel
theorem dX8_bestCrew_3 : decode cX8_bestCrew 3 = .ok (.istore_n 2, 1) := by decide +kernel
theorem dX8_bestCrew_4 : decode cX8_bestCrew 4 = .ok (.aload_n 0, 1) := by decide +kernel
theorem dX8_bestCrew_5 : decode cX8_bestCrew 5 = .ok (.getfield 29, 3) := by decide +kernel
theorem dX8_bestCrew_8 : decode cX8_bestCrew 8 = .ok (.iconst 0, 1) := by decide +kernel
theorem dX8_bestCrew_9 : decode cX8_bestCrew 9 = .ok (.iconst (-1), 1) := by decide +kernel
theorem dX8_bestCrew_10 : decode cX8_bestCrew 10 = .ok (.iastore, 1) := by decide +kernel
theorem dX8_bestCrew_11 : decode cX8_bestCrew 11 = .ok (.iload_n 2, 1) := by decide +kernel
theorem dX8_bestCrew_12 : decode cX8_bestCrew 12 = .ok (.ifCond .lt 205, 3) := by decide +kernel
theorem dX8_bestCrew_15 : decode cX8_bestCrew 15 = .ok (.iconst 0, 1) := by decide +kernel
theorem dX8_bestCrew_16 : decode cX8_bestCrew 16 = .ok (.istore_n 3, 1) := by decide +kernel
theorem dX8_bestCrew_17 : decode cX8_bestCrew 17 = .ok (.iconst 0, 1) := by decide +kernel
theorem dX8_bestCrew_18 : decode cX8_bestCrew 18 = .ok (.istore 4, 2) := by decide +kernel
theorem dX8_bestCrew_20 : decode cX8_bestCrew 20 = .ok (.iconst 0, 1) := by decide +kernel
theorem dX8_bestCrew_21 : decode cX8_bestCrew 21 = .ok (.istore 5, 2) := by decide +kernel
theorem dX8_bestCrew_23 : decode cX8_bestCrew 23 = .ok (.iload 5, 2) := by decide +kernel
theorem dX8_bestCrew_25 : decode cX8_bestCrew 25 = .ok (.iload_n 2, 1) := by decide +kernel
theorem dX8_bestCrew_26 : decode cX8_bestCrew 26 = .ok (.if_icmp .ge 57, 3) := by decide +kernel
theorem dX8_bestCrew_29 : decode cX8_bestCrew 29 = .ok (.iload_n 3, 1) := by decide +kernel
theorem dX8_bestCrew_30 : decode cX8_bestCrew 30 = .ok (.aload_n 0, 1) := by decide +kernel
theorem dX8_bestCrew_31 : decode cX8_bestCrew 31 = .ok (.getfield 29, 3) := by decide +kernel
theorem dX8_bestCrew_34 : decode cX8_bestCrew 34 = .ok (.iload 5, 2) := by decide +kernel
theorem dX8_bestCrew_36 : decode cX8_bestCrew 36 = .ok (.iaload, 1) := by decide +kernel
theorem dX8_bestCrew_37 : decode cX8_bestCrew 37 = .ok (.iconst 4, 1) := by decide +kernel
theorem dX8_bestCrew_38 : decode cX8_bestCrew 38 = .ok (.if_icmp .ge 15, 3) := by decide +kernel
theorem dX8_bestCrew_41 : decode cX8_bestCrew 41 = .ok (.iconst 1, 1) := by decide +kernel
theorem dX8_bestCrew_42 : decode cX8_bestCrew 42 = .ok (.aload_n 0, 1) := by decide +kernel
theorem dX8_bestCrew_43 : decode cX8_bestCrew 43 = .ok (.getfield 29, 3) := by decide +kernel
theorem dX8_bestCrew_46 : decode cX8_bestCrew 46 = .ok (.iload 5, 2) := by decide +kernel
theorem dX8_bestCrew_48 : decode cX8_bestCrew 48 = .ok (.iaload, 1) := by decide +kernel
theorem dX8_bestCrew_49 : decode cX8_bestCrew 49 = .ok (.ishl, 1) := by decide +kernel
theorem dX8_bestCrew_50 : decode cX8_bestCrew 50 = .ok (.goto 4, 3) := by decide +kernel
theorem dX8_bestCrew_53 : decode cX8_bestCrew 53 = .ok (.iconst 0, 1) := by decide +kernel
theorem dX8_bestCrew_54 : decode cX8_bestCrew 54 = .ok (.ior, 1) := by decide +kernel
theorem dX8_bestCrew_55 : decode cX8_bestCrew 55 = .ok (.istore_n 3, 1) := by decide +kernel
theorem dX8_bestCrew_56 : decode cX8_bestCrew 56 = .ok (.iload 4, 2) := by decide +kernel
theorem dX8_bestCrew_58 : decode cX8_bestCrew 58 = .ok (.aload_n 0, 1) := by decide +kernel
theorem dX8_bestCrew_59 : decode cX8_bestCrew 59 = .ok (.getfield 29, 3) := by decide +kernel
theorem dX8_bestCrew_62 : decode cX8_bestCrew 62 = .ok (.iload 5, 2) := by decide +kernel
theorem dX8_bestCrew_64 : decode cX8_bestCrew 64 = .ok (.iaload, 1) := by decide +kernel
theorem dX8_bestCrew_65 : decode cX8_bestCrew 65 = .ok (.iconst 4, 1) := by decide +kernel
theorem dX8_bestCrew_66 : decode cX8_bestCrew 66 = .ok (.if_icmp .ge 7, 3) := by decide +kernel
theorem dX8_bestCrew_69 : decode cX8_bestCrew 69 = .ok (.iconst 1, 1) := by decide +kernel
theorem dX8_bestCrew_70 : decode cX8_bestCrew 70 = .ok (.goto 4, 3) := by decide +kernel
theorem dX8_bestCrew_73 : decode cX8_bestCrew 73 = .ok (.iconst 0, 1) := by decide +kernel
theorem dX8_bestCrew_74 : decode cX8_bestCrew 74 = .ok (.iadd, 1) := by decide +kernel
theorem dX8_bestCrew_75 : decode cX8_bestCrew 75 = .ok (.istore 4, 2) := by decide +kernel
theorem dX8_bestCrew_77 : decode cX8_bestCrew 77 = .ok (.iinc 5 1, 3) := by decide +kernel
theorem dX8_bestCrew_80 : decode cX8_bestCrew 80 = .ok (.goto (-57), 3) := by decide +kernel
theorem dX8_bestCrew_83 : decode cX8_bestCrew 83 = .ok (.iload_n 2, 1) := by decide +kernel
theorem dX8_bestCrew_84 : decode cX8_bestCrew 84 = .ok (.aload_n 0, 1) := by decide +kernel
theorem dX8_bestCrew_85 : decode cX8_bestCrew 85 = .ok (.getfield 7, 3) := by decide +kernel
theorem dX8_bestCrew_88 : decode cX8_bestCrew 88 = .ok (.iconst 0, 1) := by decide +kernel
theorem dX8_bestCrew_89 : decode cX8_bestCrew 89 = .ok (.iaload, 1) := by decide +kernel
theorem dX8_bestCrew_90 : decode cX8_bestCrew 90 = .ok (.if_icmp .ne 52, 3) := by decide +kernel
theorem dX8_bestCrew_93 : decode cX8_bestCrew 93 = .ok (.iload 4, 2) := by decide +kernel
theorem dX8_bestCrew_95 : decode cX8_bestCrew 95 = .ok (.iload_n 1, 1) := by decide +kernel
theorem dX8_bestCrew_96 : decode cX8_bestCrew 96 = .ok (.if_icmp .le 40, 3) := by decide +kernel
theorem dX8_bestCrew_99 : decode cX8_bestCrew 99 = .ok (.iload 4, 2) := by decide +kernel
theorem dX8_bestCrew_101 : decode cX8_bestCrew 101 = .ok (.istore_n 1, 1) := by decide +kernel
theorem dX8_bestCrew_102 : decode cX8_bestCrew 102 = .ok (.iconst 0, 1) := by decide +kernel
theorem dX8_bestCrew_103 : decode cX8_bestCrew 103 = .ok (.istore 5, 2) := by decide +kernel
theorem dX8_bestCrew_105 : decode cX8_bestCrew 105 = .ok (.iload 5, 2) := by decide +kernel
theorem dX8_bestCrew_107 : decode cX8_bestCrew 107 = .ok (.aload_n 0, 1) := by decide +kernel
theorem dX8_bestCrew_108 : decode cX8_bestCrew 108 = .ok (.getfield 7, 3) := by decide +kernel
theorem dX8_bestCrew_111 : decode cX8_bestCrew 111 = .ok (.iconst 0, 1) := by decide +kernel
theorem dX8_bestCrew_112 : decode cX8_bestCrew 112 = .ok (.iaload, 1) := by decide +kernel
theorem dX8_bestCrew_113 : decode cX8_bestCrew 113 = .ok (.if_icmp .ge 23, 3) := by decide +kernel
theorem dX8_bestCrew_116 : decode cX8_bestCrew 116 = .ok (.aload_n 0, 1) := by decide +kernel
theorem dX8_bestCrew_117 : decode cX8_bestCrew 117 = .ok (.getfield 32, 3) := by decide +kernel
theorem dX8_bestCrew_120 : decode cX8_bestCrew 120 = .ok (.iload 5, 2) := by decide +kernel
theorem dX8_bestCrew_122 : decode cX8_bestCrew 122 = .ok (.aload_n 0, 1) := by decide +kernel
theorem dX8_bestCrew_123 : decode cX8_bestCrew 123 = .ok (.getfield 29, 3) := by decide +kernel
theorem dX8_bestCrew_126 : decode cX8_bestCrew 126 = .ok (.iload 5, 2) := by decide +kernel
theorem dX8_bestCrew_128 : decode cX8_bestCrew 128 = .ok (.iaload, 1) := by decide +kernel
theorem dX8_bestCrew_129 : decode cX8_bestCrew 129 = .ok (.iastore, 1) := by decide +kernel
theorem dX8_bestCrew_130 : decode cX8_bestCrew 130 = .ok (.iinc 5 1, 3) := by decide +kernel
theorem dX8_bestCrew_133 : decode cX8_bestCrew 133 = .ok (.goto (-28), 3) := by decide +kernel
theorem dX8_bestCrew_136 : decode cX8_bestCrew 136 = .ok (.iinc 2 (-1), 3) := by decide +kernel
theorem dX8_bestCrew_139 : decode cX8_bestCrew 139 = .ok (.goto 75, 3) := by decide +kernel
theorem dX8_bestCrew_142 : decode cX8_bestCrew 142 = .ok (.aload_n 0, 1) := by decide +kernel
theorem dX8_bestCrew_143 : decode cX8_bestCrew 143 = .ok (.getfield 29, 3) := by decide +kernel
theorem dX8_bestCrew_146 : decode cX8_bestCrew 146 = .ok (.iload_n 2, 1) := by decide +kernel
theorem dX8_bestCrew_147 : decode cX8_bestCrew 147 = .ok (.iaload, 1) := by decide +kernel
theorem dX8_bestCrew_148 : decode cX8_bestCrew 148 = .ok (.iconst 1, 1) := by decide +kernel
theorem dX8_bestCrew_149 : decode cX8_bestCrew 149 = .ok (.iadd, 1) := by decide +kernel
theorem dX8_bestCrew_150 : decode cX8_bestCrew 150 = .ok (.istore 5, 2) := by decide +kernel
theorem dX8_bestCrew_152 : decode cX8_bestCrew 152 = .ok (.iload 5, 2) := by decide +kernel
theorem dX8_bestCrew_154 : decode cX8_bestCrew 154 = .ok (.iconst 4, 1) := by decide +kernel
theorem dX8_bestCrew_155 : decode cX8_bestCrew 155 = .ok (.if_icmp .ge 29, 3) := by decide +kernel
theorem dX8_bestCrew_158 : decode cX8_bestCrew 158 = .ok (.iload_n 3, 1) := by decide +kernel
theorem dX8_bestCrew_159 : decode cX8_bestCrew 159 = .ok (.iload 5, 2) := by decide +kernel
theorem dX8_bestCrew_161 : decode cX8_bestCrew 161 = .ok (.invokestatic 174, 3) := by decide +kernel
theorem dX8_bestCrew_164 : decode cX8_bestCrew 164 = .ok (.ifCond .ne 14, 3) := by decide +kernel
theorem dX8_bestCrew_167 : decode cX8_bestCrew 167 = .ok (.aload_n 0, 1) := by decide +kernel
theorem dX8_bestCrew_168 : decode cX8_bestCrew 168 = .ok (.iconst 0, 1) := by decide +kernel
theorem dX8_bestCrew_169 : decode cX8_bestCrew 169 = .ok (.iload_n 2, 1) := by decide +kernel
theorem dX8_bestCrew_170 : decode cX8_bestCrew 170 = .ok (.iload 5, 2) := by decide +kernel
theorem dX8_bestCrew_172 : decode cX8_bestCrew 172 = .ok (.invokevirtual 136, 3) := by decide +kernel
theorem dX8_bestCrew_175 : decode cX8_bestCrew 175 = .ok (.ifCond .ne 9, 3) := by decide +kernel
theorem dX8_bestCrew_178 : decode cX8_bestCrew 178 = .ok (.iinc 5 1, 3) := by decide +kernel
theorem dX8_bestCrew_181 : decode cX8_bestCrew 181 = .ok (.goto (-29), 3) := by decide +kernel
theorem dX8_bestCrew_184 : decode cX8_bestCrew 184 = .ok (.aload_n 0, 1) := by decide +kernel
theorem dX8_bestCrew_185 : decode cX8_bestCrew 185 = .ok (.getfield 29, 3) := by decide +kernel
theorem dX8_bestCrew_188 : decode cX8_bestCrew 188 = .ok (.iload_n 2, 1) := by decide +kernel
theorem dX8_bestCrew_189 : decode cX8_bestCrew 189 = .ok (.iload 5, 2) := by decide +kernel
theorem dX8_bestCrew_191 : decode cX8_bestCrew 191 = .ok (.iastore, 1) := by decide +kernel
theorem dX8_bestCrew_192 : decode cX8_bestCrew 192 = .ok (.iload 5, 2) := by decide +kernel
theorem dX8_bestCrew_194 : decode cX8_bestCrew 194 = .ok (.iconst 4, 1) := by decide +kernel
theorem dX8_bestCrew_195 : decode cX8_bestCrew 195 = .ok (.if_icmp .le 9, 3) := by decide +kernel
theorem dX8_bestCrew_198 : decode cX8_bestCrew 198 = .ok (.iinc 2 (-1), 3) := by decide +kernel
theorem dX8_bestCrew_201 : decode cX8_bestCrew 201 = .ok (.goto 13, 3) := by decide +kernel
theorem dX8_bestCrew_204 : decode cX8_bestCrew 204 = .ok (.iinc 2 1, 3) := by decide +kernel
theorem dX8_bestCrew_207 : decode cX8_bestCrew 207 = .ok (.aload_n 0, 1) := by decide +kernel
theorem dX8_bestCrew_208 : decode cX8_bestCrew 208 = .ok (.getfield 29, 3) := by decide +kernel
theorem dX8_bestCrew_211 : decode cX8_bestCrew 211 = .ok (.iload_n 2, 1) := by decide +kernel
theorem dX8_bestCrew_212 : decode cX8_bestCrew 212 = .ok (.iconst (-1), 1) := by decide +kernel
theorem dX8_bestCrew_213 : decode cX8_bestCrew 213 = .ok (.iastore, 1) := by decide +kernel
theorem dX8_bestCrew_214 : decode cX8_bestCrew 214 = .ok (.goto (-203), 3) := by decide +kernel
theorem dX8_bestCrew_217 : decode cX8_bestCrew 217 = .ok (.iload_n 1, 1) := by decide +kernel
theorem dX8_bestCrew_218 : decode cX8_bestCrew 218 = .ok (.ireturn, 1) := by decide +kernel
theorem dX8_crew_0 : decode cX8_crew 0 = .ok (.iload_n 1, 1) := by decide +kernel
theorem dX8_crew_1 : decode cX8_crew 1 = .ok (.iconst (-1), 1) := by decide +kernel
theorem dX8_crew_2 : decode cX8_crew 2 = .ok (.if_icmp .eq 13, 3) := by decide +kernel
theorem dX8_crew_5 : decode cX8_crew 5 = .ok (.aload_n 0, 1) := by decide +kernel
theorem dX8_crew_6 : decode cX8_crew 6 = .ok (.iload_n 1, 1) := by decide +kernel
theorem dX8_crew_7 : decode cX8_crew 7 = .ok (.invokevirtual 103, 3) := by decide +kernel
theorem dX8_crew_10 : decode cX8_crew 10 = .ok (.ifCond .ne 5, 3) := by decide +kernel
theorem dX8_crew_13 : decode cX8_crew 13 = .ok (.iconst (-1), 1) := by decide +kernel
theorem dX8_crew_14 : decode cX8_crew 14 = .ok (.ireturn, 1) := by decide +kernel
theorem dX8_crew_15 : decode cX8_crew 15 = .ok (.aload_n 0, 1) := by decide +kernel
theorem dX8_crew_16 : decode cX8_crew 16 = .ok (.invokevirtual 115, 3) := by decide +kernel
theorem dX8_crew_19 : decode cX8_crew 19 = .ok (.ifCond .ne 6, 3) := by decide +kernel
theorem dX8_crew_22 : decode cX8_crew 22 = .ok (.bipush (-2), 2) := by decide +kernel
theorem dX8_crew_24 : decode cX8_crew 24 = .ok (.ireturn, 1) := by decide +kernel
theorem dX8_crew_25 : decode cX8_crew 25 = .ok (.aload_n 0, 1) := by decide +kernel
theorem dX8_crew_26 : decode cX8_crew 26 = .ok (.invokevirtual 177, 3) := by decide +kernel
theorem dX8_crew_29 : decode cX8_crew 29 = .ok (.istore_n 2, 1) := by decide +kernel
theorem dX8_crew_30 : decode cX8_crew 30 = .ok (.iload_n 1, 1) := by decide +kernel
theorem dX8_crew_31 : decode cX8_crew 31 = .ok (.iconst (-1), 1) := by decide +kernel
theorem dX8_crew_32 : decode cX8_crew 32 = .ok (.if_icmp .ne 7, 3) := by decide +kernel
theorem dX8_crew_35 : decode cX8_crew 35 = .ok (.iload_n 2, 1) := by decide +kernel
theorem dX8_crew_36 : decode cX8_crew 36 = .ok (.goto 24, 3) := by decide +kernel
theorem dX8_crew_39 : decode cX8_crew 39 = .ok (.aload_n 0, 1) := by decide +kernel
theorem dX8_crew_40 : decode cX8_crew 40 = .ok (.getfield 32, 3) := by decide +kernel
theorem dX8_crew_43 : decode cX8_crew 43 = .ok (.iload_n 1, 1) := by decide +kernel
theorem dX8_crew_44 : decode cX8_crew 44 = .ok (.iaload, 1) := by decide +kernel
theorem dX8_crew_45 : decode cX8_crew 45 = .ok (.iconst 4, 1) := by decide +kernel
theorem dX8_crew_46 : decode cX8_crew 46 = .ok (.if_icmp .ne 8, 3) := by decide +kernel
theorem dX8_crew_49 : decode cX8_crew 49 = .ok (.bipush (-4), 2) := by decide +kernel
theorem dX8_crew_51 : decode cX8_crew 51 = .ok (.goto 9, 3) := by decide +kernel
theorem dX8_crew_54 : decode cX8_crew 54 = .ok (.aload_n 0, 1) := by decide +kernel
theorem dX8_crew_55 : decode cX8_crew 55 = .ok (.getfield 32, 3) := by decide +kernel
theorem dX8_crew_58 : decode cX8_crew 58 = .ok (.iload_n 1, 1) := by decide +kernel
theorem dX8_crew_59 : decode cX8_crew 59 = .ok (.iaload, 1) := by decide +kernel
theorem dX8_crew_60 : decode cX8_crew 60 = .ok (.ireturn, 1) := by decide +kernel
theorem dX8_size_0 : decode cX8_size 0 = .ok (.iload_n 0, 1) := by decide +kernel
theorem dX8_size_1 : decode cX8_size 1 = .ok (.ifCond .ge 8, 3) := by decide +kernel
theorem dX8_size_4 : decode cX8_size 4 = .ok (.iload_n 0, 1) := by decide +kernel
theorem dX8_size_5 : decode cX8_size 5 = .ok (.ineg, 1) := by decide +kernel
theorem dX8_size_6 : decode cX8_size 6 = .ok (.goto 4, 3) := by decide +kernel
theorem dX8_size_9 : decode cX8_size 9 = .ok (.iload_n 0, 1) := by decide +kernel
theorem dX8_size_10 : decode cX8_size 10 = .ok (.ireturn, 1) := by decide +kernel
theorem dX8_away_0 : decode cX8_away 0 = .ok (.iload_n 0, 1) := by decide +kernel
theorem dX8_away_1 : decode cX8_away 1 = .ok (.bipush 8, 2) := by decide +kernel
theorem dX8_away_3 : decode cX8_away 3 = .ok (.idiv, 1) := by decide +kernel
theorem dX8_away_4 : decode cX8_away 4 = .ok (.iload_n 1, 1) := by decide +kernel
theorem dX8_away_5 : decode cX8_away 5 = .ok (.bipush 8, 2) := by decide +kernel
theorem dX8_away_7 : decode cX8_away 7 = .ok (.idiv, 1) := by decide +kernel
theorem dX8_away_8 : decode cX8_away 8 = .ok (.isub, 1) := by decide +kernel
theorem dX8_away_9 : decode cX8_away 9 = .ok (.invokestatic 180, 3) := by decide +kernel
theorem dX8_away_12 : decode cX8_away 12 = .ok (.iload_n 0, 1) := by decide +kernel
theorem dX8_away_13 : decode cX8_away 13 = .ok (.bipush 8, 2) := by decide +kernel
theorem dX8_away_15 : decode cX8_away 15 = .ok (.irem, 1) := by decide +kernel
theorem dX8_away_16 : decode cX8_away 16 = .ok (.iload_n 1, 1) := by decide +kernel
theorem dX8_away_17 : decode cX8_away 17 = .ok (.bipush 8, 2) := by decide +kernel
theorem dX8_away_19 : decode cX8_away 19 = .ok (.irem, 1) := by decide +kernel
theorem dX8_away_20 : decode cX8_away 20 = .ok (.isub, 1) := by decide +kernel
theorem dX8_away_21 : decode cX8_away 21 = .ok (.invokestatic 180, 3) := by decide +kernel
theorem dX8_away_24 : decode cX8_away 24 = .ok (.iadd, 1) := by decide +kernel
theorem dX8_away_25 : decode cX8_away 25 = .ok (.ireturn, 1) := by decide +kernel
theorem dX8_hearing_0 : decode cX8_hearing 0 = .ok (.iconst 1, 1) := by decide +kernel
theorem dX8_hearing_1 : decode cX8_hearing 1 = .ok (.iload_n 1, 1) := by decide +kernel
theorem dX8_hearing_2 : decode cX8_hearing 2 = .ok (.ishl, 1) := by decide +kernel
theorem dX8_hearing_3 : decode cX8_hearing 3 = .ok (.istore 4, 2) := by decide +kernel
theorem dX8_hearing_5 : decode cX8_hearing 5 = .ok (.iconst 1, 1) := by decide +kernel
theorem dX8_hearing_6 : decode cX8_hearing 6 = .ok (.istore 5, 2) := by decide +kernel
theorem dX8_hearing_8 : decode cX8_hearing 8 = .ok (.iload 5, 2) := by decide +kernel
theorem dX8_hearing_10 : decode cX8_hearing 10 = .ok (.ifCond .eq 127, 3) := by decide +kernel
theorem dX8_hearing_13 : decode cX8_hearing 13 = .ok (.iload 4, 2) := by decide +kernel
theorem dX8_hearing_15 : decode cX8_hearing 15 = .ok (.istore 6, 2) := by decide +kernel
theorem dX8_hearing_17 : decode cX8_hearing 17 = .ok (.iconst 0, 1) := by decide +kernel
theorem dX8_hearing_18 : decode cX8_hearing 18 = .ok (.istore 7, 2) := by decide +kernel
theorem dX8_hearing_20 : decode cX8_hearing 20 = .ok (.iload 7, 2) := by decide +kernel
theorem dX8_hearing_22 : decode cX8_hearing 22 = .ok (.aload_n 0, 1) := by decide +kernel
theorem dX8_hearing_23 : decode cX8_hearing 23 = .ok (.getfield 7, 3) := by decide +kernel
theorem dX8_hearing_26 : decode cX8_hearing 26 = .ok (.iconst 0, 1) := by decide +kernel
theorem dX8_hearing_27 : decode cX8_hearing 27 = .ok (.iaload, 1) := by decide +kernel
theorem dX8_hearing_28 : decode cX8_hearing 28 = .ok (.if_icmp .ge 88, 3) := by decide +kernel
theorem dX8_hearing_31 : decode cX8_hearing 31 = .ok (.iconst 0, 1) := by decide +kernel
theorem dX8_hearing_32 : decode cX8_hearing 32 = .ok (.istore 8, 2) := by decide +kernel
theorem dX8_hearing_34 : decode cX8_hearing 34 = .ok (.iload 8, 2) := by decide +kernel
theorem dX8_hearing_36 : decode cX8_hearing 36 = .ok (.aload_n 0, 1) := by decide +kernel
theorem dX8_hearing_37 : decode cX8_hearing 37 = .ok (.getfield 7, 3) := by decide +kernel
theorem dX8_hearing_40 : decode cX8_hearing 40 = .ok (.iconst 0, 1) := by decide +kernel
theorem dX8_hearing_41 : decode cX8_hearing 41 = .ok (.iaload, 1) := by decide +kernel
theorem dX8_hearing_42 : decode cX8_hearing 42 = .ok (.if_icmp .ge 68, 3) := by decide +kernel
theorem dX8_hearing_45 : decode cX8_hearing 45 = .ok (.iload 6, 2) := by decide +kernel
theorem dX8_hearing_47 : decode cX8_hearing 47 = .ok (.iload 4, 2) := by decide +kernel
theorem dX8_hearing_49 : decode cX8_hearing 49 = .ok (.iload 7, 2) := by decide +kernel
theorem dX8_hearing_51 : decode cX8_hearing 51 = .ok (.invokestatic 174, 3) := by decide +kernel
theorem dX8_hearing_54 : decode cX8_hearing 54 = .ok (.ifCond .eq 46, 3) := by decide +kernel
theorem dX8_hearing_57 : decode cX8_hearing 57 = .ok (.iload_n 3, 1) := by decide +kernel
theorem dX8_hearing_58 : decode cX8_hearing 58 = .ok (.iload 8, 2) := by decide +kernel
theorem dX8_hearing_60 : decode cX8_hearing 60 = .ok (.invokestatic 174, 3) := by decide +kernel
theorem dX8_hearing_63 : decode cX8_hearing 63 = .ok (.ifCond .eq 37, 3) := by decide +kernel
theorem dX8_hearing_66 : decode cX8_hearing 66 = .ok (.aload_n 0, 1) := by decide +kernel
theorem dX8_hearing_67 : decode cX8_hearing 67 = .ok (.getfield 7, 3) := by decide +kernel
theorem dX8_hearing_70 : decode cX8_hearing 70 = .ok (.bipush 58, 2) := by decide +kernel
theorem dX8_hearing_72 : decode cX8_hearing 72 = .ok (.iload 7, 2) := by decide +kernel
theorem dX8_hearing_74 : decode cX8_hearing 74 = .ok (.iadd, 1) := by decide +kernel
theorem dX8_hearing_75 : decode cX8_hearing 75 = .ok (.iaload, 1) := by decide +kernel
theorem dX8_hearing_76 : decode cX8_hearing 76 = .ok (.aload_n 0, 1) := by decide +kernel
theorem dX8_hearing_77 : decode cX8_hearing 77 = .ok (.getfield 7, 3) := by decide +kernel
theorem dX8_hearing_80 : decode cX8_hearing 80 = .ok (.bipush 58, 2) := by decide +kernel
theorem dX8_hearing_82 : decode cX8_hearing 82 = .ok (.iload 8, 2) := by decide +kernel
theorem dX8_hearing_84 : decode cX8_hearing 84 = .ok (.iadd, 1) := by decide +kernel
theorem dX8_hearing_85 : decode cX8_hearing 85 = .ok (.iaload, 1) := by decide +kernel
theorem dX8_hearing_86 : decode cX8_hearing 86 = .ok (.invokestatic 183, 3) := by decide +kernel
theorem dX8_hearing_89 : decode cX8_hearing 89 = .ok (.iload_n 2, 1) := by decide +kernel
theorem dX8_hearing_90 : decode cX8_hearing 90 = .ok (.if_icmp .gt 10, 3) := by decide +kernel
theorem dX8_hearing_93 : decode cX8_hearing 93 = .ok (.iconst 1, 1) := by decide +kernel
theorem dX8_hearing_94 : decode cX8_hearing 94 = .ok (.iload 8, 2) := by decide +kernel
theorem dX8_hearing_96 : decode cX8_hearing 96 = .ok (.ishl, 1) := by decide +kernel
theorem dX8_hearing_97 : decode cX8_hearing 97 = .ok (.goto 4, 3) := by decide +kernel
theorem dX8_hearing_100 : decode cX8_hearing 100 = .ok (.iconst 0, 1) := by decide +kernel
theorem dX8_hearing_101 : decode cX8_hearing 101 = .ok (.ior, 1) := by decide +kernel
theorem dX8_hearing_102 : decode cX8_hearing 102 = .ok (.istore 6, 2) := by decide +kernel
theorem dX8_hearing_104 : decode cX8_hearing 104 = .ok (.iinc 8 1, 3) := by decide +kernel
theorem dX8_hearing_107 : decode cX8_hearing 107 = .ok (.goto (-73), 3) := by decide +kernel
theorem dX8_hearing_110 : decode cX8_hearing 110 = .ok (.iinc 7 1, 3) := by decide +kernel
theorem dX8_hearing_113 : decode cX8_hearing 113 = .ok (.goto (-93), 3) := by decide +kernel
theorem dX8_hearing_116 : decode cX8_hearing 116 = .ok (.iload 6, 2) := by decide +kernel
theorem dX8_hearing_118 : decode cX8_hearing 118 = .ok (.iload 4, 2) := by decide +kernel
theorem dX8_hearing_120 : decode cX8_hearing 120 = .ok (.if_icmp .eq 7, 3) := by decide +kernel
theorem dX8_hearing_123 : decode cX8_hearing 123 = .ok (.iconst 1, 1) := by decide +kernel
theorem dX8_hearing_124 : decode cX8_hearing 124 = .ok (.goto 4, 3) := by decide +kernel
theorem dX8_hearing_127 : decode cX8_hearing 127 = .ok (.iconst 0, 1) := by decide +kernel
theorem dX8_hearing_128 : decode cX8_hearing 128 = .ok (.istore 5, 2) := by decide +kernel
theorem dX8_hearing_130 : decode cX8_hearing 130 = .ok (.iload 6, 2) := by decide +kernel
theorem dX8_hearing_132 : decode cX8_hearing 132 = .ok (.istore 4, 2) := by decide +kernel
theorem dX8_hearing_134 : decode cX8_hearing 134 = .ok (.goto (-126), 3) := by decide +kernel
theorem dX8_hearing_137 : decode cX8_hearing 137 = .ok (.iload 4, 2) := by decide +kernel
theorem dX8_hearing_139 : decode cX8_hearing 139 = .ok (.ireturn, 1) := by decide +kernel
theorem dX8_hears_0 : decode cX8_hears 0 = .ok (.aload_n 0, 1) := by decide +kernel
theorem dX8_hears_1 : decode cX8_hears 1 = .ok (.iload_n 1, 1) := by decide +kernel
theorem dX8_hears_2 : decode cX8_hears 2 = .ok (.invokevirtual 103, 3) := by decide +kernel
theorem dX8_hears_5 : decode cX8_hears 5 = .ok (.ifCond .eq 34, 3) := by decide +kernel
theorem dX8_hears_8 : decode cX8_hears 8 = .ok (.iload_n 2, 1) := by decide +kernel
theorem dX8_hears_9 : decode cX8_hears 9 = .ok (.i2l, 1) := by decide +kernel
theorem dX8_hears_10 : decode cX8_hears 10 = .ok (.lconst 0, 1) := by decide +kernel
theorem dX8_hears_11 : decode cX8_hears 11 = .ok (.ldc2_w 186, 3) := by decide +kernel
theorem dX8_hears_14 : decode cX8_hears 14 = .ok (.invokestatic 44, 3) := by decide +kernel
theorem dX8_hears_17 : decode cX8_hears 17 = .ok (.ifCond .eq 22, 3) := by decide +kernel
theorem dX8_hears_20 : decode cX8_hears 20 = .ok (.aload_n 0, 1) := by decide +kernel
theorem dX8_hears_21 : decode cX8_hears 21 = .ok (.iload_n 1, 1) := by decide +kernel
theorem dX8_hears_22 : decode cX8_hears 22 = .ok (.iload_n 2, 1) := by decide +kernel
theorem dX8_hears_23 : decode cX8_hears 23 = .ok (.iconst 1, 1) := by decide +kernel
theorem dX8_hears_24 : decode cX8_hears 24 = .ok (.aload_n 0, 1) := by decide +kernel
theorem dX8_hears_25 : decode cX8_hears 25 = .ok (.getfield 7, 3) := by decide +kernel
theorem dX8_hears_28 : decode cX8_hears 28 = .ok (.iconst 0, 1) := by decide +kernel
theorem dX8_hears_29 : decode cX8_hears 29 = .ok (.iaload, 1) := by decide +kernel
theorem dX8_hears_30 : decode cX8_hears 30 = .ok (.ishl, 1) := by decide +kernel
theorem dX8_hears_31 : decode cX8_hears 31 = .ok (.iconst 1, 1) := by decide +kernel
theorem dX8_hears_32 : decode cX8_hears 32 = .ok (.isub, 1) := by decide +kernel
theorem dX8_hears_33 : decode cX8_hears 33 = .ok (.invokevirtual 188, 3) := by decide +kernel
theorem dX8_hears_36 : decode cX8_hears 36 = .ok (.goto 4, 3) := by decide +kernel
theorem dX8_hears_39 : decode cX8_hears 39 = .ok (.iconst (-1), 1) := by decide +kernel
theorem dX8_hears_40 : decode cX8_hears 40 = .ok (.ireturn, 1) := by decide +kernel
theorem dX8_links_0 : decode cX8_links 0 = .ok (.iload_n 1, 1) := by decide +kernel
theorem dX8_links_1 : decode cX8_links 1 = .ok (.i2l, 1) := by decide +kernel
theorem dX8_links_2 : decode cX8_links 2 = .ok (.lconst 0, 1) := by decide +kernel
theorem dX8_links_3 : decode cX8_links 3 = .ok (.ldc2_w 186, 3) := by decide +kernel
theorem dX8_links_6 : decode cX8_links 6 = .ok (.invokestatic 44, 3) := by decide +kernel
theorem dX8_links_9 : decode cX8_links 9 = .ok (.ifCond .ne 5, 3) := by decide +kernel
theorem dX8_links_12 : decode cX8_links 12 = .ok (.iconst (-1), 1) := by decide +kernel
theorem dX8_links_13 : decode cX8_links 13 = .ok (.ireturn, 1) := by decide +kernel
theorem dX8_links_14 : decode cX8_links 14 = .ok (.aload_n 0, 1) := by decide +kernel
theorem dX8_links_15 : decode cX8_links 15 = .ok (.invokevirtual 115, 3) := by decide +kernel
theorem dX8_links_18 : decode cX8_links 18 = .ok (.ifCond .ne 6, 3) := by decide +kernel
theorem dX8_links_21 : decode cX8_links 21 = .ok (.bipush (-2), 2) := by decide +kernel
theorem dX8_links_23 : decode cX8_links 23 = .ok (.ireturn, 1) := by decide +kernel
theorem dX8_links_24 : decode cX8_links 24 = .ok (.iconst 1, 1) := by decide +kernel
theorem dX8_links_25 : decode cX8_links 25 = .ok (.aload_n 0, 1) := by decide +kernel
theorem dX8_links_26 : decode cX8_links 26 = .ok (.getfield 7, 3) := by decide +kernel
theorem dX8_links_29 : decode cX8_links 29 = .ok (.iconst 0, 1) := by decide +kernel
theorem dX8_links_30 : decode cX8_links 30 = .ok (.iaload, 1) := by decide +kernel
theorem dX8_links_31 : decode cX8_links 31 = .ok (.ishl, 1) := by decide +kernel
theorem dX8_links_32 : decode cX8_links 32 = .ok (.iconst 1, 1) := by decide +kernel
theorem dX8_links_33 : decode cX8_links 33 = .ok (.isub, 1) := by decide +kernel
theorem dX8_links_34 : decode cX8_links 34 = .ok (.istore_n 2, 1) := by decide +kernel
theorem dX8_links_35 : decode cX8_links 35 = .ok (.iconst 0, 1) := by decide +kernel
theorem dX8_links_36 : decode cX8_links 36 = .ok (.istore_n 3, 1) := by decide +kernel
theorem dX8_links_37 : decode cX8_links 37 = .ok (.iconst 0, 1) := by decide +kernel
theorem dX8_links_38 : decode cX8_links 38 = .ok (.istore 4, 2) := by decide +kernel
theorem dX8_links_40 : decode cX8_links 40 = .ok (.iload 4, 2) := by decide +kernel
theorem dX8_links_42 : decode cX8_links 42 = .ok (.aload_n 0, 1) := by decide +kernel
theorem dX8_links_43 : decode cX8_links 43 = .ok (.getfield 7, 3) := by decide +kernel
theorem dX8_links_46 : decode cX8_links 46 = .ok (.iconst 0, 1) := by decide +kernel
theorem dX8_links_47 : decode cX8_links 47 = .ok (.iaload, 1) := by decide +kernel
theorem dX8_links_48 : decode cX8_links 48 = .ok (.if_icmp .ge 92, 3) := by decide +kernel
theorem dX8_links_51 : decode cX8_links 51 = .ok (.iload_n 2, 1) := by decide +kernel
theorem dX8_links_52 : decode cX8_links 52 = .ok (.iconst 1, 1) := by decide +kernel
theorem dX8_links_53 : decode cX8_links 53 = .ok (.iload 4, 2) := by decide +kernel
theorem dX8_links_55 : decode cX8_links 55 = .ok (.ishl, 1) := by decide +kernel
theorem dX8_links_56 : decode cX8_links 56 = .ok (.iconst (-1), 1) := by decide +kernel
theorem dX8_links_57 : decode cX8_links 57 = .ok (.ixor, 1) := by decide +kernel
theorem dX8_links_58 : decode cX8_links 58 = .ok (.iand, 1) := by decide +kernel
theorem dX8_links_59 : decode cX8_links 59 = .ok (.istore 5, 2) := by decide +kernel
theorem dX8_links_61 : decode cX8_links 61 = .ok (.iconst 0, 1) := by decide +kernel
theorem dX8_links_62 : decode cX8_links 62 = .ok (.istore 6, 2) := by decide +kernel
theorem dX8_links_64 : decode cX8_links 64 = .ok (.iload 6, 2) := by decide +kernel
theorem dX8_links_66 : decode cX8_links 66 = .ok (.aload_n 0, 1) := by decide +kernel
theorem dX8_links_67 : decode cX8_links 67 = .ok (.getfield 7, 3) := by decide +kernel
theorem dX8_links_70 : decode cX8_links 70 = .ok (.iconst 0, 1) := by decide +kernel
theorem dX8_links_71 : decode cX8_links 71 = .ok (.iaload, 1) := by decide +kernel
theorem dX8_links_72 : decode cX8_links 72 = .ok (.if_icmp .ge 62, 3) := by decide +kernel
theorem dX8_links_75 : decode cX8_links 75 = .ok (.iload 6, 2) := by decide +kernel
theorem dX8_links_77 : decode cX8_links 77 = .ok (.iload 4, 2) := by decide +kernel
theorem dX8_links_79 : decode cX8_links 79 = .ok (.if_icmp .eq 30, 3) := by decide +kernel
theorem dX8_links_82 : decode cX8_links 82 = .ok (.aload_n 0, 1) := by decide +kernel
theorem dX8_links_83 : decode cX8_links 83 = .ok (.iload 6, 2) := by decide +kernel
theorem dX8_links_85 : decode cX8_links 85 = .ok (.iload_n 1, 1) := by decide +kernel
theorem dX8_links_86 : decode cX8_links 86 = .ok (.iload_n 2, 1) := by decide +kernel
theorem dX8_links_87 : decode cX8_links 87 = .ok (.invokevirtual 188, 3) := by decide +kernel
theorem dX8_links_90 : decode cX8_links 90 = .ok (.iload 5, 2) := by decide +kernel
theorem dX8_links_92 : decode cX8_links 92 = .ok (.iand, 1) := by decide +kernel
theorem dX8_links_93 : decode cX8_links 93 = .ok (.aload_n 0, 1) := by decide +kernel
theorem dX8_links_94 : decode cX8_links 94 = .ok (.iload 6, 2) := by decide +kernel
theorem dX8_links_96 : decode cX8_links 96 = .ok (.iload_n 1, 1) := by decide +kernel
theorem dX8_links_97 : decode cX8_links 97 = .ok (.iload 5, 2) := by decide +kernel
theorem dX8_links_99 : decode cX8_links 99 = .ok (.invokevirtual 188, 3) := by decide +kernel
theorem dX8_links_102 : decode cX8_links 102 = .ok (.if_icmp .eq 7, 3) := by decide +kernel
theorem dX8_links_105 : decode cX8_links 105 = .ok (.iconst 1, 1) := by decide +kernel
theorem dX8_links_106 : decode cX8_links 106 = .ok (.goto 4, 3) := by decide +kernel
theorem dX8_links_109 : decode cX8_links 109 = .ok (.iconst 0, 1) := by decide +kernel
theorem dX8_links_110 : decode cX8_links 110 = .ok (.istore 7, 2) := by decide +kernel
theorem dX8_links_112 : decode cX8_links 112 = .ok (.iload_n 3, 1) := by decide +kernel
theorem dX8_links_113 : decode cX8_links 113 = .ok (.iload 7, 2) := by decide +kernel
theorem dX8_links_115 : decode cX8_links 115 = .ok (.ifCond .eq 10, 3) := by decide +kernel
theorem dX8_links_118 : decode cX8_links 118 = .ok (.iconst 1, 1) := by decide +kernel
theorem dX8_links_119 : decode cX8_links 119 = .ok (.iload 4, 2) := by decide +kernel
theorem dX8_links_121 : decode cX8_links 121 = .ok (.ishl, 1) := by decide +kernel
theorem dX8_links_122 : decode cX8_links 122 = .ok (.goto 4, 3) := by decide +kernel
theorem dX8_links_125 : decode cX8_links 125 = .ok (.iconst 0, 1) := by decide +kernel
theorem dX8_links_126 : decode cX8_links 126 = .ok (.ior, 1) := by decide +kernel
theorem dX8_links_127 : decode cX8_links 127 = .ok (.istore_n 3, 1) := by decide +kernel
theorem dX8_links_128 : decode cX8_links 128 = .ok (.iinc 6 1, 3) := by decide +kernel
theorem dX8_links_131 : decode cX8_links 131 = .ok (.goto (-67), 3) := by decide +kernel
theorem dX8_links_134 : decode cX8_links 134 = .ok (.iinc 4 1, 3) := by decide +kernel
theorem dX8_links_137 : decode cX8_links 137 = .ok (.goto (-97), 3) := by decide +kernel
theorem dX8_links_140 : decode cX8_links 140 = .ok (.iload_n 3, 1) := by decide +kernel
theorem dX8_links_141 : decode cX8_links 141 = .ok (.ireturn, 1) := by decide +kernel
theorem dX8_harbourFrom_0 : decode cX8_harbourFrom 0 = .ok (.ldc 165, 2) := by decide +kernel
theorem dX8_harbourFrom_2 : decode cX8_harbourFrom 2 = .ok (.istore_n 2, 1) := by decide +kernel
theorem dX8_harbourFrom_3 : decode cX8_harbourFrom 3 = .ok (.iconst 0, 1) := by decide +kernel
theorem dX8_harbourFrom_4 : decode cX8_harbourFrom 4 = .ok (.istore_n 3, 1) := by decide +kernel
theorem dX8_harbourFrom_5 : decode cX8_harbourFrom 5 = .ok (.iload_n 3, 1) := by decide +kernel
theorem dX8_harbourFrom_6 : decode cX8_harbourFrom 6 = .ok (.bipush 48, 2) := by decide +kernel
theorem dX8_harbourFrom_8 : decode cX8_harbourFrom 8 = .ok (.if_icmp .ge 60, 3) := by decide +kernel
theorem dX8_harbourFrom_11 : decode cX8_harbourFrom 11 = .ok (.aload_n 0, 1) := by decide +kernel
theorem dX8_harbourFrom_12 : decode cX8_harbourFrom 12 = .ok (.iload_n 3, 1) := by decide +kernel
theorem dX8_harbourFrom_13 : decode cX8_harbourFrom 13 = .ok (.invokevirtual 112, 3) := by decide +kernel
theorem dX8_harbourFrom_16 : decode cX8_harbourFrom 16 = .ok (.ifCond .eq 28, 3) := by decide +kernel
theorem dX8_harbourFrom_19 : decode cX8_harbourFrom 19 = .ok (.aload_n 0, 1) := by decide +kernel
theorem dX8_harbourFrom_20 : decode cX8_harbourFrom 20 = .ok (.getfield 7, 3) := by decide +kernel
theorem dX8_harbourFrom_23 : decode cX8_harbourFrom 23 = .ok (.iconst 3, 1) := by decide +kernel
theorem dX8_harbourFrom_24 : decode cX8_harbourFrom 24 = .ok (.iload_n 3, 1) := by decide +kernel
theorem dX8_harbourFrom_25 : decode cX8_harbourFrom 25 = .ok (.iadd, 1) := by decide +kernel
theorem dX8_harbourFrom_26 : decode cX8_harbourFrom 26 = .ok (.iaload, 1) := by decide +kernel
theorem dX8_harbourFrom_27 : decode cX8_harbourFrom 27 = .ok (.iconst 2, 1) := by decide +kernel
theorem dX8_harbourFrom_28 : decode cX8_harbourFrom 28 = .ok (.if_icmp .ne 16, 3) := by decide +kernel
theorem dX8_harbourFrom_31 : decode cX8_harbourFrom 31 = .ok (.iload_n 1, 1) := by decide +kernel
theorem dX8_harbourFrom_32 : decode cX8_harbourFrom 32 = .ok (.iload_n 3, 1) := by decide +kernel
theorem dX8_harbourFrom_33 : decode cX8_harbourFrom 33 = .ok (.invokestatic 183, 3) := by decide +kernel
theorem dX8_harbourFrom_36 : decode cX8_harbourFrom 36 = .ok (.iload_n 2, 1) := by decide +kernel
theorem dX8_harbourFrom_37 : decode cX8_harbourFrom 37 = .ok (.if_icmp .ge 7, 3) := by decide +kernel
theorem dX8_harbourFrom_40 : decode cX8_harbourFrom 40 = .ok (.iconst 1, 1) := by decide +kernel
theorem dX8_harbourFrom_41 : decode cX8_harbourFrom 41 = .ok (.goto 4, 3) := by decide +kernel
theorem dX8_harbourFrom_44 : decode cX8_harbourFrom 44 = .ok (.iconst 0, 1) := by decide +kernel
theorem dX8_harbourFrom_45 : decode cX8_harbourFrom 45 = .ok (.istore 4, 2) := by decide +kernel
theorem dX8_harbourFrom_47 : decode cX8_harbourFrom 47 = .ok (.iload 4, 2) := by decide +kernel
theorem dX8_harbourFrom_49 : decode cX8_harbourFrom 49 = .ok (.ifCond .eq 11, 3) := by decide +kernel
theorem dX8_harbourFrom_52 : decode cX8_harbourFrom 52 = .ok (.iload_n 1, 1) := by decide +kernel
theorem dX8_harbourFrom_53 : decode cX8_harbourFrom 53 = .ok (.iload_n 3, 1) := by decide +kernel
theorem dX8_harbourFrom_54 : decode cX8_harbourFrom 54 = .ok (.invokestatic 183, 3) := by decide +kernel
theorem dX8_harbourFrom_57 : decode cX8_harbourFrom 57 = .ok (.goto 4, 3) := by decide +kernel
theorem dX8_harbourFrom_60 : decode cX8_harbourFrom 60 = .ok (.iload_n 2, 1) := by decide +kernel
theorem dX8_harbourFrom_61 : decode cX8_harbourFrom 61 = .ok (.istore_n 2, 1) := by decide +kernel
theorem dX8_harbourFrom_62 : decode cX8_harbourFrom 62 = .ok (.iinc 3 1, 3) := by decide +kernel
theorem dX8_harbourFrom_65 : decode cX8_harbourFrom 65 = .ok (.goto (-60), 3) := by decide +kernel
theorem dX8_harbourFrom_68 : decode cX8_harbourFrom 68 = .ok (.iload_n 2, 1) := by decide +kernel
theorem dX8_harbourFrom_69 : decode cX8_harbourFrom 69 = .ok (.ireturn, 1) := by decide +kernel
theorem dX8_talk_0 : decode cX8_talk 0 = .ok (.aload_n 0, 1) := by decide +kernel
theorem dX8_talk_1 : decode cX8_talk 1 = .ok (.iload_n 1, 1) := by decide +kernel
theorem dX8_talk_2 : decode cX8_talk 2 = .ok (.invokevirtual 103, 3) := by decide +kernel
theorem dX8_talk_5 : decode cX8_talk 5 = .ok (.ifCond .eq 35, 3) := by decide +kernel
theorem dX8_talk_8 : decode cX8_talk 8 = .ok (.iload_n 2, 1) := by decide +kernel
theorem dX8_talk_9 : decode cX8_talk 9 = .ok (.invokestatic 118, 3) := by decide +kernel
theorem dX8_talk_12 : decode cX8_talk 12 = .ok (.ifCond .eq 28, 3) := by decide +kernel
theorem dX8_talk_15 : decode cX8_talk 15 = .ok (.iload_n 3, 1) := by decide +kernel
theorem dX8_talk_16 : decode cX8_talk 16 = .ok (.invokestatic 118, 3) := by decide +kernel
theorem dX8_talk_19 : decode cX8_talk 19 = .ok (.ifCond .eq 21, 3) := by decide +kernel
theorem dX8_talk_22 : decode cX8_talk 22 = .ok (.iload_n 2, 1) := by decide +kernel
theorem dX8_talk_23 : decode cX8_talk 23 = .ok (.iload_n 3, 1) := by decide +kernel
theorem dX8_talk_24 : decode cX8_talk 24 = .ok (.if_icmp .eq 16, 3) := by decide +kernel
theorem dX8_talk_27 : decode cX8_talk 27 = .ok (.iload 4, 2) := by decide +kernel
theorem dX8_talk_29 : decode cX8_talk 29 = .ok (.i2l, 1) := by decide +kernel
theorem dX8_talk_30 : decode cX8_talk 30 = .ok (.lconst 0, 1) := by decide +kernel
theorem dX8_talk_31 : decode cX8_talk 31 = .ok (.ldc2_w 48, 3) := by decide +kernel
theorem dX8_talk_34 : decode cX8_talk 34 = .ok (.invokestatic 44, 3) := by decide +kernel
theorem dX8_talk_37 : decode cX8_talk 37 = .ok (.ifCond .ne 5, 3) := by decide +kernel
theorem dX8_talk_40 : decode cX8_talk 40 = .ok (.iconst (-1), 1) := by decide +kernel
theorem dX8_talk_41 : decode cX8_talk 41 = .ok (.ireturn, 1) := by decide +kernel
theorem dX8_talk_42 : decode cX8_talk 42 = .ok (.aload_n 0, 1) := by decide +kernel
theorem dX8_talk_43 : decode cX8_talk 43 = .ok (.iconst 0, 1) := by decide +kernel
theorem dX8_talk_44 : decode cX8_talk 44 = .ok (.invokevirtual 191, 3) := by decide +kernel
theorem dX8_talk_47 : decode cX8_talk 47 = .ok (.ldc 165, 2) := by decide +kernel
theorem dX8_talk_49 : decode cX8_talk 49 = .ok (.if_icmp .ne 6, 3) := by decide +kernel
theorem dX8_talk_52 : decode cX8_talk 52 = .ok (.bipush (-4), 2) := by decide +kernel
theorem dX8_talk_54 : decode cX8_talk 54 = .ok (.ireturn, 1) := by decide +kernel
theorem dX8_talk_55 : decode cX8_talk 55 = .ok (.iconst 1, 1) := by decide +kernel
theorem dX8_talk_56 : decode cX8_talk 56 = .ok (.istore 5, 2) := by decide +kernel
theorem dX8_talk_58 : decode cX8_talk 58 = .ok (.iconst 0, 1) := by decide +kernel
theorem dX8_talk_59 : decode cX8_talk 59 = .ok (.istore 6, 2) := by decide +kernel
theorem dX8_talk_61 : decode cX8_talk 61 = .ok (.iload 6, 2) := by decide +kernel
theorem dX8_talk_63 : decode cX8_talk 63 = .ok (.iconst 2, 1) := by decide +kernel
theorem dX8_talk_64 : decode cX8_talk 64 = .ok (.iload 4, 2) := by decide +kernel
theorem dX8_talk_66 : decode cX8_talk 66 = .ok (.imul, 1) := by decide +kernel
theorem dX8_talk_67 : decode cX8_talk 67 = .ok (.if_icmp .ge 15, 3) := by decide +kernel
theorem dX8_talk_70 : decode cX8_talk 70 = .ok (.iload 5, 2) := by decide +kernel
theorem dX8_talk_72 : decode cX8_talk 72 = .ok (.iconst 3, 1) := by decide +kernel
theorem dX8_talk_73 : decode cX8_talk 73 = .ok (.imul, 1) := by decide +kernel
theorem dX8_talk_74 : decode cX8_talk 74 = .ok (.istore 5, 2) := by decide +kernel
theorem dX8_talk_76 : decode cX8_talk 76 = .ok (.iinc 6 1, 3) := by decide +kernel
theorem dX8_talk_79 : decode cX8_talk 79 = .ok (.goto (-18), 3) := by decide +kernel
theorem dX8_talk_82 : decode cX8_talk 82 = .ok (.iconst 0, 1) := by decide +kernel
theorem dX8_talk_83 : decode cX8_talk 83 = .ok (.istore 6, 2) := by decide +kernel
theorem dX8_talk_85 : decode cX8_talk 85 = .ok (.iload 6, 2) := by decide +kernel
theorem dX8_talk_87 : decode cX8_talk 87 = .ok (.iload 5, 2) := by decide +kernel
theorem dX8_talk_89 : decode cX8_talk 89 = .ok (.if_icmp .ge 89, 3) := by decide +kernel
theorem dX8_talk_92 : decode cX8_talk 92 = .ok (.aload_n 0, 1) := by decide +kernel
theorem dX8_talk_93 : decode cX8_talk 93 = .ok (.invokevirtual 194, 3) := by decide +kernel
theorem dX8_talk_96 : decode cX8_talk 96 = .ok (.iload 5, 2) := by decide +kernel
theorem dX8_talk_98 : decode cX8_talk 98 = .ok (.istore 7, 2) := by decide +kernel
theorem dX8_talk_100 : decode cX8_talk 100 = .ok (.iconst 0, 1) := by decide +kernel
theorem dX8_talk_101 : decode cX8_talk 101 = .ok (.istore 8, 2) := by decide +kernel
theorem dX8_talk_103 : decode cX8_talk 103 = .ok (.iload 8, 2) := by decide +kernel
theorem dX8_talk_105 : decode cX8_talk 105 = .ok (.iconst 2, 1) := by decide +kernel
theorem dX8_talk_106 : decode cX8_talk 106 = .ok (.iload 4, 2) := by decide +kernel
theorem dX8_talk_108 : decode cX8_talk 108 = .ok (.imul, 1) := by decide +kernel
theorem dX8_talk_109 : decode cX8_talk 109 = .ok (.if_icmp .ge 42, 3) := by decide +kernel
theorem dX8_talk_112 : decode cX8_talk 112 = .ok (.iload 7, 2) := by decide +kernel
theorem dX8_talk_114 : decode cX8_talk 114 = .ok (.iconst 3, 1) := by decide +kernel
theorem dX8_talk_115 : decode cX8_talk 115 = .ok (.idiv, 1) := by decide +kernel
theorem dX8_talk_116 : decode cX8_talk 116 = .ok (.istore 7, 2) := by decide +kernel
theorem dX8_talk_118 : decode cX8_talk 118 = .ok (.aload_n 0, 1) := by decide +kernel
theorem dX8_talk_119 : decode cX8_talk 119 = .ok (.sipush 320, 3) := by decide +kernel
theorem dX8_talk_122 : decode cX8_talk 122 = .ok (.iload_n 1, 1) := by decide +kernel
theorem dX8_talk_123 : decode cX8_talk 123 = .ok (.iload 8, 2) := by decide +kernel
theorem dX8_talk_125 : decode cX8_talk 125 = .ok (.iconst 2, 1) := by decide +kernel
theorem dX8_talk_126 : decode cX8_talk 126 = .ok (.irem, 1) := by decide +kernel
theorem dX8_talk_127 : decode cX8_talk 127 = .ok (.ifCond .ne 7, 3) := by decide +kernel
theorem dX8_talk_130 : decode cX8_talk 130 = .ok (.iload_n 2, 1) := by decide +kernel
theorem dX8_talk_131 : decode cX8_talk 131 = .ok (.goto 4, 3) := by decide +kernel
theorem dX8_talk_134 : decode cX8_talk 134 = .ok (.iload_n 3, 1) := by decide +kernel
theorem dX8_talk_135 : decode cX8_talk 135 = .ok (.iload 6, 2) := by decide +kernel
theorem dX8_talk_137 : decode cX8_talk 137 = .ok (.iload 7, 2) := by decide +kernel
theorem dX8_talk_139 : decode cX8_talk 139 = .ok (.idiv, 1) := by decide +kernel
theorem dX8_talk_140 : decode cX8_talk 140 = .ok (.iconst 3, 1) := by decide +kernel
theorem dX8_talk_141 : decode cX8_talk 141 = .ok (.irem, 1) := by decide +kernel
theorem dX8_talk_142 : decode cX8_talk 142 = .ok (.invokevirtual 157, 3) := by decide +kernel
theorem dX8_talk_145 : decode cX8_talk 145 = .ok (.iinc 8 1, 3) := by decide +kernel
theorem dX8_talk_148 : decode cX8_talk 148 = .ok (.goto (-45), 3) := by decide +kernel
theorem dX8_talk_151 : decode cX8_talk 151 = .ok (.aload_n 0, 1) := by decide +kernel
theorem dX8_talk_152 : decode cX8_talk 152 = .ok (.getfield 35, 3) := by decide +kernel
theorem dX8_talk_155 : decode cX8_talk 155 = .ok (.iload 6, 2) := by decide +kernel
theorem dX8_talk_157 : decode cX8_talk 157 = .ok (.aload_n 0, 1) := by decide +kernel
theorem dX8_talk_158 : decode cX8_talk 158 = .ok (.aload_n 0, 1) := by decide +kernel
theorem dX8_talk_159 : decode cX8_talk 159 = .ok (.getfield 7, 3) := by decide +kernel
theorem dX8_talk_162 : decode cX8_talk 162 = .ok (.sipush 378, 3) := by decide +kernel
theorem dX8_talk_165 : decode cX8_talk 165 = .ok (.iload_n 1, 1) := by decide +kernel
theorem dX8_talk_166 : decode cX8_talk 166 = .ok (.iadd, 1) := by decide +kernel
theorem dX8_talk_167 : decode cX8_talk 167 = .ok (.iaload, 1) := by decide +kernel
theorem dX8_talk_168 : decode cX8_talk 168 = .ok (.invokevirtual 191, 3) := by decide +kernel
theorem dX8_talk_171 : decode cX8_talk 171 = .ok (.iastore, 1) := by decide +kernel
theorem dX8_talk_172 : decode cX8_talk 172 = .ok (.iinc 6 1, 3) := by decide +kernel
theorem dX8_talk_175 : decode cX8_talk 175 = .ok (.goto (-90), 3) := by decide +kernel
theorem dX8_talk_178 : decode cX8_talk 178 = .ok (.iconst 2, 1) := by decide +kernel
theorem dX8_talk_179 : decode cX8_talk 179 = .ok (.iload 4, 2) := by decide +kernel
theorem dX8_talk_181 : decode cX8_talk 181 = .ok (.imul, 1) := by decide +kernel
theorem dX8_talk_182 : decode cX8_talk 182 = .ok (.iconst 1, 1) := by decide +kernel
theorem dX8_talk_183 : decode cX8_talk 183 = .ok (.isub, 1) := by decide +kernel
theorem dX8_talk_184 : decode cX8_talk 184 = .ok (.istore 6, 2) := by decide +kernel
theorem dX8_talk_186 : decode cX8_talk 186 = .ok (.iload 6, 2) := by decide +kernel
theorem dX8_talk_188 : decode cX8_talk 188 = .ok (.ifCond .lt 120, 3) := by decide +kernel
theorem dX8_talk_191 : decode cX8_talk 191 = .ok (.iload 5, 2) := by decide +kernel
theorem dX8_talk_193 : decode cX8_talk 193 = .ok (.iconst 3, 1) := by decide +kernel
theorem dX8_talk_194 : decode cX8_talk 194 = .ok (.idiv, 1) := by decide +kernel
theorem dX8_talk_195 : decode cX8_talk 195 = .ok (.istore 5, 2) := by decide +kernel
theorem dX8_talk_197 : decode cX8_talk 197 = .ok (.iconst 0, 1) := by decide +kernel
theorem dX8_talk_198 : decode cX8_talk 198 = .ok (.istore 7, 2) := by decide +kernel
theorem dX8_talk_200 : decode cX8_talk 200 = .ok (.iload 7, 2) := by decide +kernel
theorem dX8_talk_202 : decode cX8_talk 202 = .ok (.iload 5, 2) := by decide +kernel
theorem dX8_talk_204 : decode cX8_talk 204 = .ok (.if_icmp .ge 98, 3) := by decide +kernel
theorem dX8_talk_207 : decode cX8_talk 207 = .ok (.aload_n 0, 1) := by decide +kernel
theorem dX8_talk_208 : decode cX8_talk 208 = .ok (.getfield 35, 3) := by decide +kernel
theorem dX8_talk_211 : decode cX8_talk 211 = .ok (.iconst 3, 1) := by decide +kernel
theorem dX8_talk_212 : decode cX8_talk 212 = .ok (.iload 7, 2) := by decide +kernel
theorem dX8_talk_214 : decode cX8_talk 214 = .ok (.imul, 1) := by decide +kernel
theorem dX8_talk_215 : decode cX8_talk 215 = .ok (.iaload, 1) := by decide +kernel
theorem dX8_talk_216 : decode cX8_talk 216 = .ok (.istore 8, 2) := by decide +kernel
theorem dX8_talk_218 : decode cX8_talk 218 = .ok (.iconst 1, 1) := by decide +kernel
theorem dX8_talk_219 : decode cX8_talk 219 = .ok (.istore 9, 2) := by decide +kernel
theorem dX8_talk_221 : decode cX8_talk 221 = .ok (.iload 9, 2) := by decide +kernel
theorem dX8_talk_223 : decode cX8_talk 223 = .ok (.iconst 3, 1) := by decide +kernel
theorem dX8_talk_224 : decode cX8_talk 224 = .ok (.if_icmp .ge 63, 3) := by decide +kernel
theorem dX8_talk_227 : decode cX8_talk 227 = .ok (.aload_n 0, 1) := by decide +kernel
theorem dX8_talk_228 : decode cX8_talk 228 = .ok (.getfield 35, 3) := by decide +kernel
theorem dX8_talk_231 : decode cX8_talk 231 = .ok (.iconst 3, 1) := by decide +kernel
theorem dX8_talk_232 : decode cX8_talk 232 = .ok (.iload 7, 2) := by decide +kernel
theorem dX8_talk_234 : decode cX8_talk 234 = .ok (.imul, 1) := by decide +kernel
theorem dX8_talk_235 : decode cX8_talk 235 = .ok (.iload 9, 2) := by decide +kernel
theorem dX8_talk_237 : decode cX8_talk 237 = .ok (.iadd, 1) := by decide +kernel
theorem dX8_talk_238 : decode cX8_talk 238 = .ok (.iaload, 1) := by decide +kernel
theorem dX8_talk_239 : decode cX8_talk 239 = .ok (.istore 10, 2) := by decide +kernel
theorem dX8_talk_241 : decode cX8_talk 241 = .ok (.iload 6, 2) := by decide +kernel
theorem dX8_talk_243 : decode cX8_talk 243 = .ok (.iconst 2, 1) := by decide +kernel
theorem dX8_talk_244 : decode cX8_talk 244 = .ok (.irem, 1) := by decide +kernel
theorem dX8_talk_245 : decode cX8_talk 245 = .ok (.ifCond .ne 20, 3) := by decide +kernel
theorem dX8_talk_248 : decode cX8_talk 248 = .ok (.iload 10, 2) := by decide +kernel
theorem dX8_talk_250 : decode cX8_talk 250 = .ok (.iload 8, 2) := by decide +kernel
theorem dX8_talk_252 : decode cX8_talk 252 = .ok (.if_icmp .ge 8, 3) := by decide +kernel
theorem dX8_talk_255 : decode cX8_talk 255 = .ok (.iload 10, 2) := by decide +kernel
theorem dX8_talk_257 : decode cX8_talk 257 = .ok (.goto 22, 3) := by decide +kernel
theorem dX8_talk_260 : decode cX8_talk 260 = .ok (.iload 8, 2) := by decide +kernel
theorem dX8_talk_262 : decode cX8_talk 262 = .ok (.goto 17, 3) := by decide +kernel
theorem dX8_talk_265 : decode cX8_talk 265 = .ok (.iload 10, 2) := by decide +kernel
theorem dX8_talk_267 : decode cX8_talk 267 = .ok (.iload 8, 2) := by decide +kernel
theorem dX8_talk_269 : decode cX8_talk 269 = .ok (.if_icmp .le 8, 3) := by decide +kernel
theorem dX8_talk_272 : decode cX8_talk 272 = .ok (.iload 10, 2) := by decide +kernel
theorem dX8_talk_274 : decode cX8_talk 274 = .ok (.goto 5, 3) := by decide +kernel
theorem dX8_talk_277 : decode cX8_talk 277 = .ok (.iload 8, 2) := by decide +kernel
theorem dX8_talk_279 : decode cX8_talk 279 = .ok (.istore 8, 2) := by decide +kernel
theorem dX8_talk_281 : decode cX8_talk 281 = .ok (.iinc 9 1, 3) := by decide +kernel
theorem dX8_talk_284 : decode cX8_talk 284 = .ok (.goto (-63), 3) := by decide +kernel
theorem dX8_talk_287 : decode cX8_talk 287 = .ok (.aload_n 0, 1) := by decide +kernel
theorem dX8_talk_288 : decode cX8_talk 288 = .ok (.getfield 35, 3) := by decide +kernel
theorem dX8_talk_291 : decode cX8_talk 291 = .ok (.iload 7, 2) := by decide +kernel
theorem dX8_talk_293 : decode cX8_talk 293 = .ok (.iload 8, 2) := by decide +kernel
theorem dX8_talk_295 : decode cX8_talk 295 = .ok (.iastore, 1) := by decide +kernel
theorem dX8_talk_296 : decode cX8_talk 296 = .ok (.iinc 7 1, 3) := by decide +kernel
theorem dX8_talk_299 : decode cX8_talk 299 = .ok (.goto (-99), 3) := by decide +kernel
theorem dX8_talk_302 : decode cX8_talk 302 = .ok (.iinc 6 (-1), 3) := by decide +kernel
theorem dX8_talk_305 : decode cX8_talk 305 = .ok (.goto (-119), 3) := by decide +kernel
theorem dX8_talk_308 : decode cX8_talk 308 = .ok (.aload_n 0, 1) := by decide +kernel
theorem dX8_talk_309 : decode cX8_talk 309 = .ok (.getfield 35, 3) := by decide +kernel
theorem dX8_talk_312 : decode cX8_talk 312 = .ok (.iconst 0, 1) := by decide +kernel
theorem dX8_talk_313 : decode cX8_talk 313 = .ok (.iaload, 1) := by decide +kernel
theorem dX8_talk_314 : decode cX8_talk 314 = .ok (.ireturn, 1) := by decide +kernel
theorem dX8_decades_0 : decode cX8_decades 0 = .ok (.iload_n 1, 1) := by decide +kernel
theorem dX8_decades_1 : decode cX8_decades 1 = .ok (.i2l, 1) := by decide +kernel
theorem dX8_decades_2 : decode cX8_decades 2 = .ok (.lconst 0, 1) := by decide +kernel
theorem dX8_decades_3 : decode cX8_decades 3 = .ok (.ldc2_w 197, 3) := by decide +kernel
theorem dX8_decades_6 : decode cX8_decades 6 = .ok (.invokestatic 44, 3) := by decide +kernel
theorem dX8_decades_9 : decode cX8_decades 9 = .ok (.ifCond .eq 25, 3) := by decide +kernel
theorem dX8_decades_12 : decode cX8_decades 12 = .ok (.iload_n 2, 1) := by decide +kernel
theorem dX8_decades_13 : decode cX8_decades 13 = .ok (.i2l, 1) := by decide +kernel
theorem dX8_decades_14 : decode cX8_decades 14 = .ok (.lconst 1, 1) := by decide +kernel
theorem dX8_decades_15 : decode cX8_decades 15 = .ok (.ldc2_w 199, 3) := by decide +kernel
theorem dX8_decades_18 : decode cX8_decades 18 = .ok (.invokestatic 44, 3) := by decide +kernel
theorem dX8_decades_21 : decode cX8_decades 21 = .ok (.ifCond .eq 13, 3) := by decide +kernel
theorem dX8_decades_24 : decode cX8_decades 24 = .ok (.iload_n 3, 1) := by decide +kernel
theorem dX8_decades_25 : decode cX8_decades 25 = .ok (.i2l, 1) := by decide +kernel
theorem dX8_decades_26 : decode cX8_decades 26 = .ok (.lconst 0, 1) := by decide +kernel
theorem dX8_decades_27 : decode cX8_decades 27 = .ok (.lconst 1, 1) := by decide +kernel
theorem dX8_decades_28 : decode cX8_decades 28 = .ok (.invokestatic 44, 3) := by decide +kernel
theorem dX8_decades_31 : decode cX8_decades 31 = .ok (.ifCond .ne 5, 3) := by decide +kernel
theorem dX8_decades_34 : decode cX8_decades 34 = .ok (.iconst (-1), 1) := by decide +kernel
theorem dX8_decades_35 : decode cX8_decades 35 = .ok (.ireturn, 1) := by decide +kernel
theorem dX8_decades_36 : decode cX8_decades 36 = .ok (.aload_n 0, 1) := by decide +kernel
theorem dX8_decades_37 : decode cX8_decades 37 = .ok (.invokevirtual 115, 3) := by decide +kernel
theorem dX8_decades_40 : decode cX8_decades 40 = .ok (.ifCond .ne 6, 3) := by decide +kernel
theorem dX8_decades_43 : decode cX8_decades 43 = .ok (.bipush (-2), 2) := by decide +kernel
theorem dX8_decades_45 : decode cX8_decades 45 = .ok (.ireturn, 1) := by decide +kernel
theorem dX8_decades_46 : decode cX8_decades 46 = .ok (.aload_n 0, 1) := by decide +kernel
theorem dX8_decades_47 : decode cX8_decades 47 = .ok (.invokevirtual 194, 3) := by decide +kernel
theorem dX8_decades_50 : decode cX8_decades 50 = .ok (.iload_n 2, 1) := by decide +kernel
theorem dX8_decades_51 : decode cX8_decades 51 = .ok (.i2l, 1) := by decide +kernel
theorem dX8_decades_52 : decode cX8_decades 52 = .ok (.lstore 4, 2) := by decide +kernel
theorem dX8_decades_54 : decode cX8_decades 54 = .ok (.iconst 0, 1) := by decide +kernel
theorem dX8_decades_55 : decode cX8_decades 55 = .ok (.istore 6, 2) := by decide +kernel
theorem dX8_decades_57 : decode cX8_decades 57 = .ok (.iload 6, 2) := by decide +kernel
theorem dX8_decades_59 : decode cX8_decades 59 = .ok (.iload_n 1, 1) := by decide +kernel
theorem dX8_decades_60 : decode cX8_decades 60 = .ok (.if_icmp .ge 109, 3) := by decide +kernel
theorem dX8_decades_63 : decode cX8_decades 63 = .ok (.lload 4, 2) := by decide +kernel
theorem dX8_decades_65 : decode cX8_decades 65 = .ok (.ldc2_w 201, 3) := by decide +kernel
theorem dX8_decades_68 : decode cX8_decades 68 = .ok (.lmul, 1) := by decide +kernel
theorem dX8_decades_69 : decode cX8_decades 69 = .ok (.ldc2_w 203, 3) := by decide +kernel
theorem dX8_decades_72 : decode cX8_decades 72 = .ok (.lrem, 1) := by decide +kernel
theorem dX8_decades_73 : decode cX8_decades 73 = .ok (.lstore 4, 2) := by decide +kernel
theorem dX8_decades_75 : decode cX8_decades 75 = .ok (.lload 4, 2) := by decide +kernel
theorem dX8_decades_77 : decode cX8_decades 77 = .ok (.aload_n 0, 1) := by decide +kernel
theorem dX8_decades_78 : decode cX8_decades 78 = .ok (.getfield 7, 3) := by decide +kernel
theorem dX8_decades_81 : decode cX8_decades 81 = .ok (.iconst 0, 1) := by decide +kernel
theorem dX8_decades_82 : decode cX8_decades 82 = .ok (.iaload, 1) := by decide +kernel
theorem dX8_decades_83 : decode cX8_decades 83 = .ok (.i2l, 1) := by decide +kernel
theorem dX8_decades_84 : decode cX8_decades 84 = .ok (.lrem, 1) := by decide +kernel
theorem dX8_decades_85 : decode cX8_decades 85 = .ok (.l2i, 1) := by decide +kernel
theorem dX8_decades_86 : decode cX8_decades 86 = .ok (.istore 7, 2) := by decide +kernel
theorem dX8_decades_88 : decode cX8_decades 88 = .ok (.aload_n 0, 1) := by decide +kernel
theorem dX8_decades_89 : decode cX8_decades 89 = .ok (.sipush 320, 3) := by decide +kernel
theorem dX8_decades_92 : decode cX8_decades 92 = .ok (.iload 7, 2) := by decide +kernel
theorem dX8_decades_94 : decode cX8_decades 94 = .ok (.lload 4, 2) := by decide +kernel
theorem dX8_decades_96 : decode cX8_decades 96 = .ok (.ldc2_w 205, 3) := by decide +kernel
theorem dX8_decades_99 : decode cX8_decades 99 = .ok (.ldiv, 1) := by decide +kernel
theorem dX8_decades_100 : decode cX8_decades 100 = .ok (.ldc2_w 207, 3) := by decide +kernel
theorem dX8_decades_103 : decode cX8_decades 103 = .ok (.lrem, 1) := by decide +kernel
theorem dX8_decades_104 : decode cX8_decades 104 = .ok (.l2i, 1) := by decide +kernel
theorem dX8_decades_105 : decode cX8_decades 105 = .ok (.lload 4, 2) := by decide +kernel
theorem dX8_decades_107 : decode cX8_decades 107 = .ok (.ldc2_w 209, 3) := by decide +kernel
theorem dX8_decades_110 : decode cX8_decades 110 = .ok (.ldiv, 1) := by decide +kernel
theorem dX8_decades_111 : decode cX8_decades 111 = .ok (.ldc2_w 48, 3) := by decide +kernel
theorem dX8_decades_114 : decode cX8_decades 114 = .ok (.lrem, 1) := by decide +kernel
theorem dX8_decades_115 : decode cX8_decades 115 = .ok (.l2i, 1) := by decide +kernel
theorem dX8_decades_116 : decode cX8_decades 116 = .ok (.invokevirtual 157, 3) := by decide +kernel
theorem dX8_decades_119 : decode cX8_decades 119 = .ok (.lload 4, 2) := by decide +kernel
theorem dX8_decades_121 : decode cX8_decades 121 = .ok (.ldc2_w 211, 3) := by decide +kernel
theorem dX8_decades_124 : decode cX8_decades 124 = .ok (.ldiv, 1) := by decide +kernel
theorem dX8_decades_125 : decode cX8_decades 125 = .ok (.ldc2_w 213, 3) := by decide +kernel
theorem dX8_decades_128 : decode cX8_decades 128 = .ok (.lrem, 1) := by decide +kernel
theorem dX8_decades_129 : decode cX8_decades 129 = .ok (.lconst 0, 1) := by decide +kernel
theorem dX8_decades_130 : decode cX8_decades 130 = .ok (.lcmp, 1) := by decide +kernel
theorem dX8_decades_131 : decode cX8_decades 131 = .ok (.ifCond .ne 32, 3) := by decide +kernel
theorem dX8_decades_134 : decode cX8_decades 134 = .ok (.aload_n 0, 1) := by decide +kernel
theorem dX8_decades_135 : decode cX8_decades 135 = .ok (.getfield 7, 3) := by decide +kernel
theorem dX8_decades_138 : decode cX8_decades 138 = .ok (.sipush 390, 3) := by decide +kernel
theorem dX8_decades_141 : decode cX8_decades 141 = .ok (.iload 7, 2) := by decide +kernel
theorem dX8_decades_143 : decode cX8_decades 143 = .ok (.iadd, 1) := by decide +kernel
theorem dX8_decades_144 : decode cX8_decades 144 = .ok (.iaload, 1) := by decide +kernel
theorem dX8_decades_145 : decode cX8_decades 145 = .ok (.ifCond .le 18, 3) := by decide +kernel
theorem dX8_decades_148 : decode cX8_decades 148 = .ok (.aload_n 0, 1) := by decide +kernel
theorem dX8_decades_149 : decode cX8_decades 149 = .ok (.getfield 7, 3) := by decide +kernel
theorem dX8_decades_152 : decode cX8_decades 152 = .ok (.sipush 390, 3) := by decide +kernel
theorem dX8_decades_155 : decode cX8_decades 155 = .ok (.iload 7, 2) := by decide +kernel
theorem dX8_decades_157 : decode cX8_decades 157 = .ok (.iadd, 1) := by decide +kernel
theorem dX8_decades_158 : decode cX8_decades 158 = .ok (.dup2, 1) := by decide +kernel
theorem dX8_decades_159 : decode cX8_decades 159 = .ok (.iaload, 1) := by decide +kernel
theorem dX8_decades_160 : decode cX8_decades 160 = .ok (.iconst 1, 1) := by decide +kernel
theorem dX8_decades_161 : decode cX8_decades 161 = .ok (.isub, 1) := by decide +kernel
theorem dX8_decades_162 : decode cX8_decades 162 = .ok (.iastore, 1) := by decide +kernel
theorem dX8_decades_163 : decode cX8_decades 163 = .ok (.iinc 6 1, 3) := by decide +kernel
theorem dX8_decades_166 : decode cX8_decades 166 = .ok (.goto (-109), 3) := by decide +kernel
theorem dX8_decades_169 : decode cX8_decades 169 = .ok (.iload_n 3, 1) := by decide +kernel
theorem dX8_decades_170 : decode cX8_decades 170 = .ok (.ifCond .ne 13, 3) := by decide +kernel
theorem dX8_decades_173 : decode cX8_decades 173 = .ok (.aload_n 0, 1) := by decide +kernel
theorem dX8_decades_174 : decode cX8_decades 174 = .ok (.sipush 320, 3) := by decide +kernel
theorem dX8_decades_177 : decode cX8_decades 177 = .ok (.invokevirtual 215, 3) := by decide +kernel
theorem dX8_decades_180 : decode cX8_decades 180 = .ok (.goto 10, 3) := by decide +kernel
theorem dX8_decades_183 : decode cX8_decades 183 = .ok (.aload_n 0, 1) := by decide +kernel
theorem dX8_decades_184 : decode cX8_decades 184 = .ok (.sipush 320, 3) := by decide +kernel
theorem dX8_decades_187 : decode cX8_decades 187 = .ok (.invokevirtual 218, 3) := by decide +kernel
theorem dX8_decades_190 : decode cX8_decades 190 = .ok (.ireturn, 1) := by decide +kernel
theorem dX8_wormAll_0 : decode cX8_wormAll 0 = .ok (.iconst 0, 1) := by decide +kernel
theorem dX8_wormAll_1 : decode cX8_wormAll 1 = .ok (.istore_n 2, 1) := by decide +kernel
theorem dX8_wormAll_2 : decode cX8_wormAll 2 = .ok (.iconst 0, 1) := by decide +kernel
theorem dX8_wormAll_3 : decode cX8_wormAll 3 = .ok (.istore_n 3, 1) := by decide +kernel
theorem dX8_wormAll_4 : decode cX8_wormAll 4 = .ok (.iload_n 3, 1) := by decide +kernel
theorem dX8_wormAll_5 : decode cX8_wormAll 5 = .ok (.aload_n 0, 1) := by decide +kernel
theorem dX8_wormAll_6 : decode cX8_wormAll 6 = .ok (.getfield 7, 3) := by decide +kernel
theorem dX8_wormAll_9 : decode cX8_wormAll 9 = .ok (.iload_n 1, 1) := by decide +kernel
theorem dX8_wormAll_10 : decode cX8_wormAll 10 = .ok (.iconst 0, 1) := by decide +kernel
theorem dX8_wormAll_11 : decode cX8_wormAll 11 = .ok (.iadd, 1) := by decide +kernel
theorem dX8_wormAll_12 : decode cX8_wormAll 12 = .ok (.iaload, 1) := by decide +kernel
theorem dX8_wormAll_13 : decode cX8_wormAll 13 = .ok (.if_icmp .ge 23, 3) := by decide +kernel
theorem dX8_wormAll_16 : decode cX8_wormAll 16 = .ok (.iload_n 2, 1) := by decide +kernel
theorem dX8_wormAll_17 : decode cX8_wormAll 17 = .ok (.aload_n 0, 1) := by decide +kernel
theorem dX8_wormAll_18 : decode cX8_wormAll 18 = .ok (.getfield 7, 3) := by decide +kernel
theorem dX8_wormAll_21 : decode cX8_wormAll 21 = .ok (.iload_n 1, 1) := by decide +kernel
theorem dX8_wormAll_22 : decode cX8_wormAll 22 = .ok (.bipush 70, 2) := by decide +kernel
theorem dX8_wormAll_24 : decode cX8_wormAll 24 = .ok (.iadd, 1) := by decide +kernel
theorem dX8_wormAll_25 : decode cX8_wormAll 25 = .ok (.iload_n 3, 1) := by decide +kernel
theorem dX8_wormAll_26 : decode cX8_wormAll 26 = .ok (.iadd, 1) := by decide +kernel
theorem dX8_wormAll_27 : decode cX8_wormAll 27 = .ok (.iaload, 1) := by decide +kernel
theorem dX8_wormAll_28 : decode cX8_wormAll 28 = .ok (.iadd, 1) := by decide +kernel
theorem dX8_wormAll_29 : decode cX8_wormAll 29 = .ok (.istore_n 2, 1) := by decide +kernel
theorem dX8_wormAll_30 : decode cX8_wormAll 30 = .ok (.iinc 3 1, 3) := by decide +kernel
theorem dX8_wormAll_33 : decode cX8_wormAll 33 = .ok (.goto (-29), 3) := by decide +kernel
theorem dX8_wormAll_36 : decode cX8_wormAll 36 = .ok (.iload_n 2, 1) := by decide +kernel
theorem dX8_wormAll_37 : decode cX8_wormAll 37 = .ok (.ireturn, 1) := by decide +kernel
theorem dX8_creditAll_0 : decode cX8_creditAll 0 = .ok (.iconst 0, 1) := by decide +kernel
theorem dX8_creditAll_1 : decode cX8_creditAll 1 = .ok (.istore_n 2, 1) := by decide +kernel
theorem dX8_creditAll_2 : decode cX8_creditAll 2 = .ok (.iconst 0, 1) := by decide +kernel
theorem dX8_creditAll_3 : decode cX8_creditAll 3 = .ok (.istore_n 3, 1) := by decide +kernel
theorem dX8_creditAll_4 : decode cX8_creditAll 4 = .ok (.iload_n 3, 1) := by decide +kernel
theorem dX8_creditAll_5 : decode cX8_creditAll 5 = .ok (.iconst 4, 1) := by decide +kernel
theorem dX8_creditAll_6 : decode cX8_creditAll 6 = .ok (.if_icmp .ge 23, 3) := by decide +kernel
theorem dX8_creditAll_9 : decode cX8_creditAll 9 = .ok (.iload_n 2, 1) := by decide +kernel
theorem dX8_creditAll_10 : decode cX8_creditAll 10 = .ok (.aload_n 0, 1) := by decide +kernel
theorem dX8_creditAll_11 : decode cX8_creditAll 11 = .ok (.getfield 7, 3) := by decide +kernel
theorem dX8_creditAll_14 : decode cX8_creditAll 14 = .ok (.iload_n 1, 1) := by decide +kernel
theorem dX8_creditAll_15 : decode cX8_creditAll 15 = .ok (.bipush 76, 2) := by decide +kernel
theorem dX8_creditAll_17 : decode cX8_creditAll 17 = .ok (.iadd, 1) := by decide +kernel
theorem dX8_creditAll_18 : decode cX8_creditAll 18 = .ok (.iload_n 3, 1) := by decide +kernel
theorem dX8_creditAll_19 : decode cX8_creditAll 19 = .ok (.iadd, 1) := by decide +kernel
theorem dX8_creditAll_20 : decode cX8_creditAll 20 = .ok (.iaload, 1) := by decide +kernel
theorem dX8_creditAll_21 : decode cX8_creditAll 21 = .ok (.iadd, 1) := by decide +kernel
theorem dX8_creditAll_22 : decode cX8_creditAll 22 = .ok (.istore_n 2, 1) := by decide +kernel
theorem dX8_creditAll_23 : decode cX8_creditAll 23 = .ok (.iinc 3 1, 3) := by decide +kernel
theorem dX8_creditAll_26 : decode cX8_creditAll 26 = .ok (.goto (-22), 3) := by decide +kernel
theorem dX8_creditAll_29 : decode cX8_creditAll 29 = .ok (.iload_n 2, 1) := by decide +kernel
theorem dX8_creditAll_30 : decode cX8_creditAll 30 = .ok (.ireturn, 1) := by decide +kernel
theorem dX8_isSheet_0 : decode cX8_isSheet 0 = .ok (.iload_n 0, 1) := by decide +kernel
theorem dX8_isSheet_1 : decode cX8_isSheet 1 = .ok (.i2l, 1) := by decide +kernel
theorem dX8_isSheet_2 : decode cX8_isSheet 2 = .ok (.lconst 0, 1) := by decide +kernel
theorem dX8_isSheet_3 : decode cX8_isSheet 3 = .ok (.ldc2_w 48, 3) := by decide +kernel
theorem dX8_isSheet_6 : decode cX8_isSheet 6 = .ok (.invokestatic 44, 3) := by decide +kernel
theorem dX8_isSheet_9 : decode cX8_isSheet 9 = .ok (.ireturn, 1) := by decide +kernel
theorem dX8_isLane_0 : decode cX8_isLane 0 = .ok (.iload_n 0, 1) := by decide +kernel
theorem dX8_isLane_1 : decode cX8_isLane 1 = .ok (.invokestatic 221, 3) := by decide +kernel
theorem dX8_isLane_4 : decode cX8_isLane 4 = .ok (.ifCond .eq 19, 3) := by decide +kernel
theorem dX8_isLane_7 : decode cX8_isLane 7 = .ok (.iload_n 1, 1) := by decide +kernel
theorem dX8_isLane_8 : decode cX8_isLane 8 = .ok (.i2l, 1) := by decide +kernel
theorem dX8_isLane_9 : decode cX8_isLane 9 = .ok (.lconst 0, 1) := by decide +kernel
theorem dX8_isLane_10 : decode cX8_isLane 10 = .ok (.ldc2_w 48, 3) := by decide +kernel
theorem dX8_isLane_13 : decode cX8_isLane 13 = .ok (.invokestatic 44, 3) := by decide +kernel
theorem dX8_isLane_16 : decode cX8_isLane 16 = .ok (.ifCond .eq 7, 3) := by decide +kernel
theorem dX8_isLane_19 : decode cX8_isLane 19 = .ok (.iconst 1, 1) := by decide +kernel
theorem dX8_isLane_20 : decode cX8_isLane 20 = .ok (.goto 4, 3) := by decide +kernel
theorem dX8_isLane_23 : decode cX8_isLane 23 = .ok (.iconst 0, 1) := by decide +kernel
theorem dX8_isLane_24 : decode cX8_isLane 24 = .ok (.ireturn, 1) := by decide +kernel
theorem dX8_lowest_0 : decode cX8_lowest 0 = .ok (.iload_n 0, 1) := by decide +kernel
theorem dX8_lowest_1 : decode cX8_lowest 1 = .ok (.ifCond .ne 10, 3) := by decide +kernel
theorem dX8_lowest_4 : decode cX8_lowest 4 = .ok (.lload_n 1, 1) := by decide +kernel
theorem dX8_lowest_5 : decode cX8_lowest 5 = .ok (.l2i, 1) := by decide +kernel
theorem dX8_lowest_6 : decode cX8_lowest 6 = .ok (.i2b, 1) := by decide +kernel
theorem dX8_lowest_7 : decode cX8_lowest 7 = .ok (.i2l, 1) := by decide +kernel
theorem dX8_lowest_8 : decode cX8_lowest 8 = .ok (.goto 27, 3) := by decide +kernel
theorem dX8_lowest_11 : decode cX8_lowest 11 = .ok (.iload_n 0, 1) := by decide +kernel
theorem dX8_lowest_12 : decode cX8_lowest 12 = .ok (.iconst 1, 1) := by decide +kernel
theorem dX8_lowest_13 : decode cX8_lowest 13 = .ok (.if_icmp .ne 10, 3) := by decide +kernel
theorem dX8_lowest_16 : decode cX8_lowest 16 = .ok (.lload_n 1, 1) := by decide +kernel
theorem dX8_lowest_17 : decode cX8_lowest 17 = .ok (.l2i, 1) := by decide +kernel
theorem dX8_lowest_18 : decode cX8_lowest 18 = .ok (.i2s, 1) := by decide +kernel
theorem dX8_lowest_19 : decode cX8_lowest 19 = .ok (.i2l, 1) := by decide +kernel
theorem dX8_lowest_20 : decode cX8_lowest 20 = .ok (.goto 15, 3) := by decide +kernel
theorem dX8_lowest_23 : decode cX8_lowest 23 = .ok (.iload_n 0, 1) := by decide +kernel
theorem dX8_lowest_24 : decode cX8_lowest 24 = .ok (.iconst 2, 1) := by decide +kernel
theorem dX8_lowest_25 : decode cX8_lowest 25 = .ok (.if_icmp .ne 9, 3) := by decide +kernel
theorem dX8_lowest_28 : decode cX8_lowest 28 = .ok (.lload_n 1, 1) := by decide +kernel
theorem dX8_lowest_29 : decode cX8_lowest 29 = .ok (.l2i, 1) := by decide +kernel
theorem dX8_lowest_30 : decode cX8_lowest 30 = .ok (.i2l, 1) := by decide +kernel
theorem dX8_lowest_31 : decode cX8_lowest 31 = .ok (.goto 4, 3) := by decide +kernel
theorem dX8_lowest_34 : decode cX8_lowest 34 = .ok (.lload_n 1, 1) := by decide +kernel
theorem dX8_lowest_35 : decode cX8_lowest 35 = .ok (.lreturn, 1) := by decide +kernel
theorem dX8_against_0 : decode cX8_against 0 = .ok (.aload_n 0, 1) := by decide +kernel
theorem dX8_against_1 : decode cX8_against 1 = .ok (.getfield 20, 3) := by decide +kernel
theorem dX8_against_4 : decode cX8_against 4 = .ok (.iload_n 1, 1) := by decide +kernel
theorem dX8_against_5 : decode cX8_against 5 = .ok (.iaload, 1) := by decide +kernel
theorem dX8_against_6 : decode cX8_against 6 = .ok (.ifCond .ge 6, 3) := by decide +kernel
theorem dX8_against_9 : decode cX8_against 9 = .ok (.bipush (-11), 2) := by decide +kernel
theorem dX8_against_11 : decode cX8_against 11 = .ok (.ireturn, 1) := by decide +kernel
theorem dX8_against_12 : decode cX8_against 12 = .ok (.aload_n 0, 1) := by decide +kernel
theorem dX8_against_13 : decode cX8_against 13 = .ok (.getfield 23, 3) := by decide +kernel
theorem dX8_against_16 : decode cX8_against 16 = .ok (.iload_n 1, 1) := by decide +kernel
theorem dX8_against_17 : decode cX8_against 17 = .ok (.iaload, 1) := by decide +kernel
theorem dX8_against_18 : decode cX8_against 18 = .ok (.iload_n 2, 1) := by decide +kernel
theorem dX8_against_19 : decode cX8_against 19 = .ok (.if_icmp .eq 6, 3) := by decide +kernel
theorem dX8_against_22 : decode cX8_against 22 = .ok (.bipush (-12), 2) := by decide +kernel
theorem dX8_against_24 : decode cX8_against 24 = .ok (.ireturn, 1) := by decide +kernel
theorem dX8_against_25 : decode cX8_against 25 = .ok (.iload_n 3, 1) := by decide +kernel
theorem dX8_against_26 : decode cX8_against 26 = .ok (.ifCond .lt 20, 3) := by decide +kernel
theorem dX8_against_29 : decode cX8_against 29 = .ok (.iload_n 3, 1) := by decide +kernel
theorem dX8_against_30 : decode cX8_against 30 = .ok (.i2l, 1) := by decide +kernel
theorem dX8_against_31 : decode cX8_against 31 = .ok (.iload 4, 2) := by decide +kernel
theorem dX8_against_33 : decode cX8_against 33 = .ok (.i2l, 1) := by decide +kernel
theorem dX8_against_34 : decode cX8_against 34 = .ok (.ladd, 1) := by decide +kernel
theorem dX8_against_35 : decode cX8_against 35 = .ok (.aload_n 0, 1) := by decide +kernel
theorem dX8_against_36 : decode cX8_against 36 = .ok (.getfield 20, 3) := by decide +kernel
theorem dX8_against_39 : decode cX8_against 39 = .ok (.iload_n 1, 1) := by decide +kernel
theorem dX8_against_40 : decode cX8_against 40 = .ok (.iaload, 1) := by decide +kernel
theorem dX8_against_41 : decode cX8_against 41 = .ok (.i2l, 1) := by decide +kernel
theorem dX8_against_42 : decode cX8_against 42 = .ok (.lcmp, 1) := by decide +kernel
theorem dX8_against_43 : decode cX8_against 43 = .ok (.ifCond .le 8, 3) := by decide +kernel
theorem dX8_against_46 : decode cX8_against 46 = .ok (.bipush (-13), 2) := by decide +kernel
theorem dX8_against_48 : decode cX8_against 48 = .ok (.goto 4, 3) := by decide +kernel
theorem dX8_against_51 : decode cX8_against 51 = .ok (.iconst 0, 1) := by decide +kernel
theorem dX8_against_52 : decode cX8_against 52 = .ok (.ireturn, 1) := by decide +kernel
theorem dX8_sheet_0 : decode cX8_sheet 0 = .ok (.iload_n 1, 1) := by decide +kernel
theorem dX8_sheet_1 : decode cX8_sheet 1 = .ok (.iload_n 2, 1) := by decide +kernel
theorem dX8_sheet_2 : decode cX8_sheet 2 = .ok (.invokestatic 224, 3) := by decide +kernel
theorem dX8_sheet_5 : decode cX8_sheet 5 = .ok (.ifCond .eq 9, 3) := by decide +kernel
theorem dX8_sheet_8 : decode cX8_sheet 8 = .ok (.iload_n 3, 1) := by decide +kernel
theorem dX8_sheet_9 : decode cX8_sheet 9 = .ok (.bipush 24, 2) := by decide +kernel
theorem dX8_sheet_11 : decode cX8_sheet 11 = .ok (.if_icmp .le 5, 3) := by decide +kernel
theorem dX8_sheet_14 : decode cX8_sheet 14 = .ok (.iconst (-1), 1) := by decide +kernel
theorem dX8_sheet_15 : decode cX8_sheet 15 = .ok (.ireturn, 1) := by decide +kernel
theorem dX8_sheet_16 : decode cX8_sheet 16 = .ok (.iload_n 3, 1) := by decide +kernel
theorem dX8_sheet_17 : decode cX8_sheet 17 = .ok (.ifCond .ge 6, 3) := by decide +kernel
theorem dX8_sheet_20 : decode cX8_sheet 20 = .ok (.bipush (-14), 2) := by decide +kernel
theorem dX8_sheet_22 : decode cX8_sheet 22 = .ok (.ireturn, 1) := by decide +kernel
theorem dX8_sheet_23 : decode cX8_sheet 23 = .ok (.aload_n 0, 1) := by decide +kernel
theorem dX8_sheet_24 : decode cX8_sheet 24 = .ok (.getfield 20, 3) := by decide +kernel
theorem dX8_sheet_27 : decode cX8_sheet 27 = .ok (.iload_n 1, 1) := by decide +kernel
theorem dX8_sheet_28 : decode cX8_sheet 28 = .ok (.iload_n 3, 1) := by decide +kernel
theorem dX8_sheet_29 : decode cX8_sheet 29 = .ok (.iastore, 1) := by decide +kernel
theorem dX8_sheet_30 : decode cX8_sheet 30 = .ok (.aload_n 0, 1) := by decide +kernel
theorem dX8_sheet_31 : decode cX8_sheet 31 = .ok (.getfield 23, 3) := by decide +kernel
theorem dX8_sheet_34 : decode cX8_sheet 34 = .ok (.iload_n 1, 1) := by decide +kernel
theorem dX8_sheet_35 : decode cX8_sheet 35 = .ok (.iload_n 2, 1) := by decide +kernel
theorem dX8_sheet_36 : decode cX8_sheet 36 = .ok (.iastore, 1) := by decide +kernel
theorem dX8_sheet_37 : decode cX8_sheet 37 = .ok (.iconst 0, 1) := by decide +kernel
theorem dX8_sheet_38 : decode cX8_sheet 38 = .ok (.istore 4, 2) := by decide +kernel
theorem dX8_sheet_40 : decode cX8_sheet 40 = .ok (.iload 4, 2) := by decide +kernel
theorem dX8_sheet_42 : decode cX8_sheet 42 = .ok (.bipush 24, 2) := by decide +kernel
theorem dX8_sheet_44 : decode cX8_sheet 44 = .ok (.if_icmp .ge 22, 3) := by decide +kernel
theorem dX8_sheet_47 : decode cX8_sheet 47 = .ok (.aload_n 0, 1) := by decide +kernel
theorem dX8_sheet_48 : decode cX8_sheet 48 = .ok (.getfield 16, 3) := by decide +kernel
theorem dX8_sheet_51 : decode cX8_sheet 51 = .ok (.bipush 24, 2) := by decide +kernel
theorem dX8_sheet_53 : decode cX8_sheet 53 = .ok (.iload_n 1, 1) := by decide +kernel
theorem dX8_sheet_54 : decode cX8_sheet 54 = .ok (.imul, 1) := by decide +kernel
theorem dX8_sheet_55 : decode cX8_sheet 55 = .ok (.iload 4, 2) := by decide +kernel
theorem dX8_sheet_57 : decode cX8_sheet 57 = .ok (.iadd, 1) := by decide +kernel
theorem dX8_sheet_58 : decode cX8_sheet 58 = .ok (.lconst 0, 1) := by decide +kernel
theorem dX8_sheet_59 : decode cX8_sheet 59 = .ok (.lastore, 1) := by decide +kernel
theorem dX8_sheet_60 : decode cX8_sheet 60 = .ok (.iinc 4 1, 3) := by decide +kernel
theorem dX8_sheet_63 : decode cX8_sheet 63 = .ok (.goto (-23), 3) := by decide +kernel
theorem dX8_sheet_66 : decode cX8_sheet 66 = .ok (.iload_n 3, 1) := by decide +kernel
theorem dX8_sheet_67 : decode cX8_sheet 67 = .ok (.ireturn, 1) := by decide +kernel
theorem dX8_drop_0 : decode cX8_drop 0 = .ok (.iload_n 1, 1) := by decide +kernel
theorem dX8_drop_1 : decode cX8_drop 1 = .ok (.invokestatic 221, 3) := by decide +kernel
theorem dX8_drop_4 : decode cX8_drop 4 = .ok (.ifCond .ne 5, 3) := by decide +kernel
theorem dX8_drop_7 : decode cX8_drop 7 = .ok (.iconst (-1), 1) := by decide +kernel
theorem dX8_drop_8 : decode cX8_drop 8 = .ok (.ireturn, 1) := by decide +kernel
theorem dX8_drop_9 : decode cX8_drop 9 = .ok (.aload_n 0, 1) := by decide +kernel
theorem dX8_drop_10 : decode cX8_drop 10 = .ok (.getfield 20, 3) := by decide +kernel
theorem dX8_drop_13 : decode cX8_drop 13 = .ok (.iload_n 1, 1) := by decide +kernel
theorem dX8_drop_14 : decode cX8_drop 14 = .ok (.iaload, 1) := by decide +kernel
theorem dX8_drop_15 : decode cX8_drop 15 = .ok (.ifCond .ge 6, 3) := by decide +kernel
theorem dX8_drop_18 : decode cX8_drop 18 = .ok (.bipush (-11), 2) := by decide +kernel
theorem dX8_drop_20 : decode cX8_drop 20 = .ok (.ireturn, 1) := by decide +kernel
theorem dX8_drop_21 : decode cX8_drop 21 = .ok (.aload_n 0, 1) := by decide +kernel
theorem dX8_drop_22 : decode cX8_drop 22 = .ok (.getfield 20, 3) := by decide +kernel
theorem dX8_drop_25 : decode cX8_drop 25 = .ok (.iload_n 1, 1) := by decide +kernel
theorem dX8_drop_26 : decode cX8_drop 26 = .ok (.iaload, 1) := by decide +kernel
theorem dX8_drop_27 : decode cX8_drop 27 = .ok (.istore_n 2, 1) := by decide +kernel
theorem dX8_drop_28 : decode cX8_drop 28 = .ok (.aload_n 0, 1) := by decide +kernel
theorem dX8_drop_29 : decode cX8_drop 29 = .ok (.getfield 20, 3) := by decide +kernel
theorem dX8_drop_32 : decode cX8_drop 32 = .ok (.iload_n 1, 1) := by decide +kernel
theorem dX8_drop_33 : decode cX8_drop 33 = .ok (.iconst (-1), 1) := by decide +kernel
theorem dX8_drop_34 : decode cX8_drop 34 = .ok (.iastore, 1) := by decide +kernel
theorem dX8_drop_35 : decode cX8_drop 35 = .ok (.iload_n 2, 1) := by decide +kernel
theorem dX8_drop_36 : decode cX8_drop 36 = .ok (.ireturn, 1) := by decide +kernel
theorem dX8_item_0 : decode cX8_item 0 = .ok (.iload_n 1, 1) := by decide +kernel
theorem dX8_item_1 : decode cX8_item 1 = .ok (.iload_n 2, 1) := by decide +kernel
theorem dX8_item_2 : decode cX8_item 2 = .ok (.invokestatic 224, 3) := by decide +kernel
theorem dX8_item_5 : decode cX8_item 5 = .ok (.ifCond .ne 7, 3) := by decide +kernel
theorem dX8_item_8 : decode cX8_item 8 = .ok (.ldc2_w 227, 3) := by decide +kernel
theorem dX8_item_11 : decode cX8_item 11 = .ok (.lreturn, 1) := by decide +kernel
theorem dX8_item_12 : decode cX8_item 12 = .ok (.aload_n 0, 1) := by decide +kernel
theorem dX8_item_13 : decode cX8_item 13 = .ok (.iload_n 1, 1) := by decide +kernel
theorem dX8_item_14 : decode cX8_item 14 = .ok (.iload_n 2, 1) := by decide +kernel
theorem dX8_item_15 : decode cX8_item 15 = .ok (.iload_n 3, 1) := by decide +kernel
theorem dX8_item_16 : decode cX8_item 16 = .ok (.iconst 1, 1) := by decide +kernel
theorem dX8_item_17 : decode cX8_item 17 = .ok (.invokevirtual 229, 3) := by decide +kernel
theorem dX8_item_20 : decode cX8_item 20 = .ok (.istore 6, 2) := by decide +kernel
theorem dX8_item_22 : decode cX8_item 22 = .ok (.iload 6, 2) := by decide +kernel
theorem dX8_item_24 : decode cX8_item 24 = .ok (.ifCond .ge 7, 3) := by decide +kernel
theorem dX8_item_27 : decode cX8_item 27 = .ok (.iload 6, 2) := by decide +kernel
theorem dX8_item_29 : decode cX8_item 29 = .ok (.i2l, 1) := by decide +kernel
theorem dX8_item_30 : decode cX8_item 30 = .ok (.lreturn, 1) := by decide +kernel
theorem dX8_item_31 : decode cX8_item 31 = .ok (.aload_n 0, 1) := by decide +kernel
theorem dX8_item_32 : decode cX8_item 32 = .ok (.getfield 16, 3) := by decide +kernel
theorem dX8_item_35 : decode cX8_item 35 = .ok (.bipush 24, 2) := by decide +kernel
theorem dX8_item_37 : decode cX8_item 37 = .ok (.iload_n 1, 1) := by decide +kernel
theorem dX8_item_38 : decode cX8_item 38 = .ok (.imul, 1) := by decide +kernel
theorem dX8_item_39 : decode cX8_item 39 = .ok (.iload_n 3, 1) := by decide +kernel
theorem dX8_item_40 : decode cX8_item 40 = .ok (.iadd, 1) := by decide +kernel
theorem dX8_item_41 : decode cX8_item 41 = .ok (.iload_n 2, 1) := by decide +kernel
theorem dX8_item_42 : decode cX8_item 42 = .ok (.lload 4, 2) := by decide +kernel
theorem dX8_item_44 : decode cX8_item 44 = .ok (.invokestatic 233, 3) := by decide +kernel
theorem dX8_item_47 : decode cX8_item 47 = .ok (.lastore, 1) := by decide +kernel
theorem dX8_item_48 : decode cX8_item 48 = .ok (.iload_n 2, 1) := by decide +kernel
theorem dX8_item_49 : decode cX8_item 49 = .ok (.lload 4, 2) := by decide +kernel
theorem dX8_item_51 : decode cX8_item 51 = .ok (.invokestatic 233, 3) := by decide +kernel
theorem dX8_item_54 : decode cX8_item 54 = .ok (.lreturn, 1) := by decide +kernel
theorem dX8_copy_0 : decode cX8_copy 0 = .ok (.iload_n 1, 1) := by decide +kernel
theorem dX8_copy_1 : decode cX8_copy 1 = .ok (.invokestatic 221, 3) := by decide +kernel
theorem dX8_copy_4 : decode cX8_copy 4 = .ok (.ifCond .eq 10, 3) := by decide +kernel
theorem dX8_copy_7 : decode cX8_copy 7 = .ok (.iload_n 3, 1) := by decide +kernel
theorem dX8_copy_8 : decode cX8_copy 8 = .ok (.invokestatic 221, 3) := by decide +kernel
theorem dX8_copy_11 : decode cX8_copy 11 = .ok (.ifCond .ne 5, 3) := by decide +kernel
theorem dX8_copy_14 : decode cX8_copy 14 = .ok (.iconst (-1), 1) := by decide +kernel
theorem dX8_copy_15 : decode cX8_copy 15 = .ok (.ireturn, 1) := by decide +kernel
theorem dX8_copy_16 : decode cX8_copy 16 = .ok (.aload_n 0, 1) := by decide +kernel
theorem dX8_copy_17 : decode cX8_copy 17 = .ok (.getfield 20, 3) := by decide +kernel
theorem dX8_copy_20 : decode cX8_copy 20 = .ok (.iload_n 1, 1) := by decide +kernel
theorem dX8_copy_21 : decode cX8_copy 21 = .ok (.iaload, 1) := by decide +kernel
theorem dX8_copy_22 : decode cX8_copy 22 = .ok (.ifCond .lt 12, 3) := by decide +kernel
theorem dX8_copy_25 : decode cX8_copy 25 = .ok (.aload_n 0, 1) := by decide +kernel
theorem dX8_copy_26 : decode cX8_copy 26 = .ok (.getfield 20, 3) := by decide +kernel
theorem dX8_copy_29 : decode cX8_copy 29 = .ok (.iload_n 3, 1) := by decide +kernel
theorem dX8_copy_30 : decode cX8_copy 30 = .ok (.iaload, 1) := by decide +kernel
theorem dX8_copy_31 : decode cX8_copy 31 = .ok (.ifCond .ge 6, 3) := by decide +kernel
theorem dX8_copy_34 : decode cX8_copy 34 = .ok (.bipush (-11), 2) := by decide +kernel
theorem dX8_copy_36 : decode cX8_copy 36 = .ok (.ireturn, 1) := by decide +kernel
theorem dX8_copy_37 : decode cX8_copy 37 = .ok (.aload_n 0, 1) := by decide +kernel
theorem dX8_copy_38 : decode cX8_copy 38 = .ok (.getfield 23, 3) := by decide +kernel
theorem dX8_copy_41 : decode cX8_copy 41 = .ok (.iload_n 1, 1) := by decide +kernel
theorem dX8_copy_42 : decode cX8_copy 42 = .ok (.iaload, 1) := by decide +kernel
theorem dX8_copy_43 : decode cX8_copy 43 = .ok (.aload_n 0, 1) := by decide +kernel
theorem dX8_copy_44 : decode cX8_copy 44 = .ok (.getfield 23, 3) := by decide +kernel
theorem dX8_copy_47 : decode cX8_copy 47 = .ok (.iload_n 3, 1) := by decide +kernel
theorem dX8_copy_48 : decode cX8_copy 48 = .ok (.iaload, 1) := by decide +kernel
theorem dX8_copy_49 : decode cX8_copy 49 = .ok (.if_icmp .eq 6, 3) := by decide +kernel
theorem dX8_copy_52 : decode cX8_copy 52 = .ok (.bipush (-12), 2) := by decide +kernel
theorem dX8_copy_54 : decode cX8_copy 54 = .ok (.ireturn, 1) := by decide +kernel
theorem dX8_copy_55 : decode cX8_copy 55 = .ok (.iload 5, 2) := by decide +kernel
theorem dX8_copy_57 : decode cX8_copy 57 = .ok (.ifCond .lt 47, 3) := by decide +kernel
theorem dX8_copy_60 : decode cX8_copy 60 = .ok (.iload_n 2, 1) := by decide +kernel
theorem dX8_copy_61 : decode cX8_copy 61 = .ok (.ifCond .lt 43, 3) := by decide +kernel
theorem dX8_copy_64 : decode cX8_copy 64 = .ok (.iload 4, 2) := by decide +kernel
theorem dX8_copy_66 : decode cX8_copy 66 = .ok (.ifCond .lt 38, 3) := by decide +kernel
theorem dX8_copy_69 : decode cX8_copy 69 = .ok (.iload_n 2, 1) := by decide +kernel
theorem dX8_copy_70 : decode cX8_copy 70 = .ok (.i2l, 1) := by decide +kernel
theorem dX8_copy_71 : decode cX8_copy 71 = .ok (.iload 5, 2) := by decide +kernel
theorem dX8_copy_73 : decode cX8_copy 73 = .ok (.i2l, 1) := by decide +kernel
theorem dX8_copy_74 : decode cX8_copy 74 = .ok (.ladd, 1) := by decide +kernel
theorem dX8_copy_75 : decode cX8_copy 75 = .ok (.aload_n 0, 1) := by decide +kernel
theorem dX8_copy_76 : decode cX8_copy 76 = .ok (.getfield 20, 3) := by decide +kernel
theorem dX8_copy_79 : decode cX8_copy 79 = .ok (.iload_n 1, 1) := by decide +kernel
theorem dX8_copy_80 : decode cX8_copy 80 = .ok (.iaload, 1) := by decide +kernel
theorem dX8_copy_81 : decode cX8_copy 81 = .ok (.i2l, 1) := by decide +kernel
theorem dX8_copy_82 : decode cX8_copy 82 = .ok (.lcmp, 1) := by decide +kernel
theorem dX8_copy_83 : decode cX8_copy 83 = .ok (.ifCond .gt 21, 3) := by decide +kernel
theorem dX8_copy_86 : decode cX8_copy 86 = .ok (.iload 4, 2) := by decide +kernel
theorem dX8_copy_88 : decode cX8_copy 88 = .ok (.i2l, 1) := by decide +kernel
theorem dX8_copy_89 : decode cX8_copy 89 = .ok (.iload 5, 2) := by decide +kernel
theorem dX8_copy_91 : decode cX8_copy 91 = .ok (.i2l, 1) := by decide +kernel
theorem dX8_copy_92 : decode cX8_copy 92 = .ok (.ladd, 1) := by decide +kernel
theorem dX8_copy_93 : decode cX8_copy 93 = .ok (.aload_n 0, 1) := by decide +kernel
theorem dX8_copy_94 : decode cX8_copy 94 = .ok (.getfield 20, 3) := by decide +kernel
theorem dX8_copy_97 : decode cX8_copy 97 = .ok (.iload_n 3, 1) := by decide +kernel
theorem dX8_copy_98 : decode cX8_copy 98 = .ok (.iaload, 1) := by decide +kernel
theorem dX8_copy_99 : decode cX8_copy 99 = .ok (.i2l, 1) := by decide +kernel
theorem dX8_copy_100 : decode cX8_copy 100 = .ok (.lcmp, 1) := by decide +kernel
theorem dX8_copy_101 : decode cX8_copy 101 = .ok (.ifCond .le 6, 3) := by decide +kernel
theorem dX8_copy_104 : decode cX8_copy 104 = .ok (.bipush (-13), 2) := by decide +kernel
theorem dX8_copy_106 : decode cX8_copy 106 = .ok (.ireturn, 1) := by decide +kernel
theorem dX8_copy_107 : decode cX8_copy 107 = .ok (.iconst 0, 1) := by decide +kernel
theorem dX8_copy_108 : decode cX8_copy 108 = .ok (.istore 6, 2) := by decide +kernel
theorem dX8_copy_110 : decode cX8_copy 110 = .ok (.iload 6, 2) := by decide +kernel
theorem dX8_copy_112 : decode cX8_copy 112 = .ok (.iload 5, 2) := by decide +kernel
theorem dX8_copy_114 : decode cX8_copy 114 = .ok (.if_icmp .ge 30, 3) := by decide +kernel
theorem dX8_copy_117 : decode cX8_copy 117 = .ok (.aload_n 0, 1) := by decide +kernel
theorem dX8_copy_118 : decode cX8_copy 118 = .ok (.getfield 38, 3) := by decide +kernel
theorem dX8_copy_121 : decode cX8_copy 121 = .ok (.iload 6, 2) := by decide +kernel
theorem dX8_copy_123 : decode cX8_copy 123 = .ok (.aload_n 0, 1) := by decide +kernel
theorem dX8_copy_124 : decode cX8_copy 124 = .ok (.getfield 16, 3) := by decide +kernel
theorem dX8_copy_127 : decode cX8_copy 127 = .ok (.bipush 24, 2) := by decide +kernel
theorem dX8_copy_129 : decode cX8_copy 129 = .ok (.iload_n 1, 1) := by decide +kernel
theorem dX8_copy_130 : decode cX8_copy 130 = .ok (.imul, 1) := by decide +kernel
theorem dX8_copy_131 : decode cX8_copy 131 = .ok (.iload_n 2, 1) := by decide +kernel
theorem dX8_copy_132 : decode cX8_copy 132 = .ok (.iadd, 1) := by decide +kernel
theorem dX8_copy_133 : decode cX8_copy 133 = .ok (.iload 6, 2) := by decide +kernel
theorem dX8_copy_135 : decode cX8_copy 135 = .ok (.iadd, 1) := by decide +kernel
theorem dX8_copy_136 : decode cX8_copy 136 = .ok (.laload, 1) := by decide +kernel
theorem dX8_copy_137 : decode cX8_copy 137 = .ok (.lastore, 1) := by decide +kernel
theorem dX8_copy_138 : decode cX8_copy 138 = .ok (.iinc 6 1, 3) := by decide +kernel
theorem dX8_copy_141 : decode cX8_copy 141 = .ok (.goto (-31), 3) := by decide +kernel
theorem dX8_copy_144 : decode cX8_copy 144 = .ok (.iconst 0, 1) := by decide +kernel
theorem dX8_copy_145 : decode cX8_copy 145 = .ok (.istore 6, 2) := by decide +kernel
theorem dX8_copy_147 : decode cX8_copy 147 = .ok (.iload 6, 2) := by decide +kernel
theorem dX8_copy_149 : decode cX8_copy 149 = .ok (.iload 5, 2) := by decide +kernel
theorem dX8_copy_151 : decode cX8_copy 151 = .ok (.if_icmp .ge 31, 3) := by decide +kernel
theorem dX8_copy_154 : decode cX8_copy 154 = .ok (.aload_n 0, 1) := by decide +kernel
theorem dX8_copy_155 : decode cX8_copy 155 = .ok (.getfield 16, 3) := by decide +kernel
theorem dX8_copy_158 : decode cX8_copy 158 = .ok (.bipush 24, 2) := by decide +kernel
theorem dX8_copy_160 : decode cX8_copy 160 = .ok (.iload_n 3, 1) := by decide +kernel
theorem dX8_copy_161 : decode cX8_copy 161 = .ok (.imul, 1) := by decide +kernel
theorem dX8_copy_162 : decode cX8_copy 162 = .ok (.iload 4, 2) := by decide +kernel
theorem dX8_copy_164 : decode cX8_copy 164 = .ok (.iadd, 1) := by decide +kernel
theorem dX8_copy_165 : decode cX8_copy 165 = .ok (.iload 6, 2) := by decide +kernel
theorem dX8_copy_167 : decode cX8_copy 167 = .ok (.iadd, 1) := by decide +kernel
theorem dX8_copy_168 : decode cX8_copy 168 = .ok (.aload_n 0, 1) := by decide +kernel
theorem dX8_copy_169 : decode cX8_copy 169 = .ok (.getfield 38, 3) := by decide +kernel
theorem dX8_copy_172 : decode cX8_copy 172 = .ok (.iload 6, 2) := by decide +kernel
theorem dX8_copy_174 : decode cX8_copy 174 = .ok (.laload, 1) := by decide +kernel
theorem dX8_copy_175 : decode cX8_copy 175 = .ok (.lastore, 1) := by decide +kernel
theorem dX8_copy_176 : decode cX8_copy 176 = .ok (.iinc 6 1, 3) := by decide +kernel
theorem dX8_copy_179 : decode cX8_copy 179 = .ok (.goto (-32), 3) := by decide +kernel
theorem dX8_copy_182 : decode cX8_copy 182 = .ok (.iload 5, 2) := by decide +kernel
theorem dX8_copy_184 : decode cX8_copy 184 = .ok (.ireturn, 1) := by decide +kernel
theorem dX8_areWords_0 : decode cX8_areWords 0 = .ok (.iconst 1, 1) := by decide +kernel
theorem dX8_areWords_1 : decode cX8_areWords 1 = .ok (.istore 4, 2) := by decide +kernel
theorem dX8_areWords_3 : decode cX8_areWords 3 = .ok (.iconst 0, 1) := by decide +kernel
theorem dX8_areWords_4 : decode cX8_areWords 4 = .ok (.istore 5, 2) := by decide +kernel
theorem dX8_areWords_6 : decode cX8_areWords 6 = .ok (.iload 5, 2) := by decide +kernel
theorem dX8_areWords_8 : decode cX8_areWords 8 = .ok (.iload_n 2, 1) := by decide +kernel
theorem dX8_areWords_9 : decode cX8_areWords 9 = .ok (.if_icmp .ge 38, 3) := by decide +kernel
theorem dX8_areWords_12 : decode cX8_areWords 12 = .ok (.iload 4, 2) := by decide +kernel
theorem dX8_areWords_14 : decode cX8_areWords 14 = .ok (.ifCond .eq 24, 3) := by decide +kernel
theorem dX8_areWords_17 : decode cX8_areWords 17 = .ok (.aload_n 0, 1) := by decide +kernel
theorem dX8_areWords_18 : decode cX8_areWords 18 = .ok (.getfield 16, 3) := by decide +kernel
theorem dX8_areWords_21 : decode cX8_areWords 21 = .ok (.iload_n 1, 1) := by decide +kernel
theorem dX8_areWords_22 : decode cX8_areWords 22 = .ok (.iload_n 3, 1) := by decide +kernel
theorem dX8_areWords_23 : decode cX8_areWords 23 = .ok (.iload 5, 2) := by decide +kernel
theorem dX8_areWords_25 : decode cX8_areWords 25 = .ok (.imul, 1) := by decide +kernel
theorem dX8_areWords_26 : decode cX8_areWords 26 = .ok (.iadd, 1) := by decide +kernel
theorem dX8_areWords_27 : decode cX8_areWords 27 = .ok (.laload, 1) := by decide +kernel
theorem dX8_areWords_28 : decode cX8_areWords 28 = .ok (.invokestatic 150, 3) := by decide +kernel
theorem dX8_areWords_31 : decode cX8_areWords 31 = .ok (.ifCond .eq 7, 3) := by decide +kernel
theorem dX8_areWords_34 : decode cX8_areWords 34 = .ok (.iconst 1, 1) := by decide +kernel
theorem dX8_areWords_35 : decode cX8_areWords 35 = .ok (.goto 4, 3) := by decide +kernel
theorem dX8_areWords_38 : decode cX8_areWords 38 = .ok (.iconst 0, 1) := by decide +kernel
theorem dX8_areWords_39 : decode cX8_areWords 39 = .ok (.istore 4, 2) := by decide +kernel
theorem dX8_areWords_41 : decode cX8_areWords 41 = .ok (.iinc 5 1, 3) := by decide +kernel
theorem dX8_areWords_44 : decode cX8_areWords 44 = .ok (.goto (-38), 3) := by decide +kernel
theorem dX8_areWords_47 : decode cX8_areWords 47 = .ok (.iload 4, 2) := by decide +kernel
theorem dX8_areWords_49 : decode cX8_areWords 49 = .ok (.ireturn, 1) := by decide +kernel
theorem dX8_log_0 : decode cX8_log 0 = .ok (.aload_n 0, 1) := by decide +kernel
theorem dX8_log_1 : decode cX8_log 1 = .ok (.iload_n 1, 1) := by decide +kernel
theorem dX8_log_2 : decode cX8_log 2 = .ok (.invokevirtual 103, 3) := by decide +kernel
theorem dX8_log_5 : decode cX8_log 5 = .ok (.ifCond .eq 32, 3) := by decide +kernel
theorem dX8_log_8 : decode cX8_log 8 = .ok (.iload_n 2, 1) := by decide +kernel
theorem dX8_log_9 : decode cX8_log 9 = .ok (.invokestatic 118, 3) := by decide +kernel
theorem dX8_log_12 : decode cX8_log 12 = .ok (.ifCond .eq 25, 3) := by decide +kernel
theorem dX8_log_15 : decode cX8_log 15 = .ok (.iload_n 3, 1) := by decide +kernel
theorem dX8_log_16 : decode cX8_log 16 = .ok (.iload 4, 2) := by decide +kernel
theorem dX8_log_18 : decode cX8_log 18 = .ok (.invokestatic 224, 3) := by decide +kernel
theorem dX8_log_21 : decode cX8_log 21 = .ok (.ifCond .eq 16, 3) := by decide +kernel
theorem dX8_log_24 : decode cX8_log 24 = .ok (.iload 6, 2) := by decide +kernel
theorem dX8_log_26 : decode cX8_log 26 = .ok (.i2l, 1) := by decide +kernel
theorem dX8_log_27 : decode cX8_log 27 = .ok (.lconst 1, 1) := by decide +kernel
theorem dX8_log_28 : decode cX8_log 28 = .ok (.ldc2_w 237, 3) := by decide +kernel
theorem dX8_log_31 : decode cX8_log 31 = .ok (.invokestatic 44, 3) := by decide +kernel
theorem dX8_log_34 : decode cX8_log 34 = .ok (.ifCond .ne 5, 3) := by decide +kernel
theorem dX8_log_37 : decode cX8_log 37 = .ok (.iconst (-1), 1) := by decide +kernel
theorem dX8_log_38 : decode cX8_log 38 = .ok (.ireturn, 1) := by decide +kernel
theorem dX8_log_39 : decode cX8_log 39 = .ok (.aload_n 0, 1) := by decide +kernel
theorem dX8_log_40 : decode cX8_log 40 = .ok (.iload_n 3, 1) := by decide +kernel
theorem dX8_log_41 : decode cX8_log 41 = .ok (.iload 4, 2) := by decide +kernel
theorem dX8_log_43 : decode cX8_log 43 = .ok (.iload 5, 2) := by decide +kernel
theorem dX8_log_45 : decode cX8_log 45 = .ok (.iload 6, 2) := by decide +kernel
theorem dX8_log_47 : decode cX8_log 47 = .ok (.invokevirtual 229, 3) := by decide +kernel
theorem dX8_log_50 : decode cX8_log 50 = .ok (.istore 7, 2) := by decide +kernel
theorem dX8_log_52 : decode cX8_log 52 = .ok (.iload 7, 2) := by decide +kernel
theorem dX8_log_54 : decode cX8_log 54 = .ok (.ifCond .ge 6, 3) := by decide +kernel
theorem dX8_log_57 : decode cX8_log 57 = .ok (.iload 7, 2) := by decide +kernel
theorem dX8_log_59 : decode cX8_log 59 = .ok (.ireturn, 1) := by decide +kernel
theorem dX8_log_60 : decode cX8_log 60 = .ok (.bipush 24, 2) := by decide +kernel
theorem dX8_log_62 : decode cX8_log 62 = .ok (.iload_n 3, 1) := by decide +kernel
theorem dX8_log_63 : decode cX8_log 63 = .ok (.imul, 1) := by decide +kernel
theorem dX8_log_64 : decode cX8_log 64 = .ok (.iload 5, 2) := by decide +kernel
theorem dX8_log_66 : decode cX8_log 66 = .ok (.iadd, 1) := by decide +kernel
theorem dX8_log_67 : decode cX8_log 67 = .ok (.istore 8, 2) := by decide +kernel
theorem dX8_log_69 : decode cX8_log 69 = .ok (.aload_n 0, 1) := by decide +kernel
theorem dX8_log_70 : decode cX8_log 70 = .ok (.iload 8, 2) := by decide +kernel
theorem dX8_log_72 : decode cX8_log 72 = .ok (.iload 6, 2) := by decide +kernel
theorem dX8_log_74 : decode cX8_log 74 = .ok (.iconst 1, 1) := by decide +kernel
theorem dX8_log_75 : decode cX8_log 75 = .ok (.invokevirtual 239, 3) := by decide +kernel
theorem dX8_log_78 : decode cX8_log 78 = .ok (.ifCond .ne 6, 3) := by decide +kernel
theorem dX8_log_81 : decode cX8_log 81 = .ok (.bipush (-2), 2) := by decide +kernel
theorem dX8_log_83 : decode cX8_log 83 = .ok (.ireturn, 1) := by decide +kernel
theorem dX8_log_84 : decode cX8_log 84 = .ok (.aload_n 0, 1) := by decide +kernel
theorem dX8_log_85 : decode cX8_log 85 = .ok (.invokevirtual 194, 3) := by decide +kernel
theorem dX8_log_88 : decode cX8_log 88 = .ok (.iconst 0, 1) := by decide +kernel
theorem dX8_log_89 : decode cX8_log 89 = .ok (.istore 9, 2) := by decide +kernel
theorem dX8_log_91 : decode cX8_log 91 = .ok (.iload 9, 2) := by decide +kernel
theorem dX8_log_93 : decode cX8_log 93 = .ok (.iload 6, 2) := by decide +kernel
theorem dX8_log_95 : decode cX8_log 95 = .ok (.if_icmp .ge 50, 3) := by decide +kernel
theorem dX8_log_98 : decode cX8_log 98 = .ok (.aload_n 0, 1) := by decide +kernel
theorem dX8_log_99 : decode cX8_log 99 = .ok (.sipush 320, 3) := by decide +kernel
theorem dX8_log_102 : decode cX8_log 102 = .ok (.iload_n 1, 1) := by decide +kernel
theorem dX8_log_103 : decode cX8_log 103 = .ok (.iload_n 2, 1) := by decide +kernel
theorem dX8_log_104 : decode cX8_log 104 = .ok (.aload_n 0, 1) := by decide +kernel
theorem dX8_log_105 : decode cX8_log 105 = .ok (.getfield 16, 3) := by decide +kernel
theorem dX8_log_108 : decode cX8_log 108 = .ok (.iload 8, 2) := by decide +kernel
theorem dX8_log_110 : decode cX8_log 110 = .ok (.iload 9, 2) := by decide +kernel
theorem dX8_log_112 : decode cX8_log 112 = .ok (.iadd, 1) := by decide +kernel
theorem dX8_log_113 : decode cX8_log 113 = .ok (.laload, 1) := by decide +kernel
theorem dX8_log_114 : decode cX8_log 114 = .ok (.l2i, 1) := by decide +kernel
theorem dX8_log_115 : decode cX8_log 115 = .ok (.invokevirtual 157, 3) := by decide +kernel
theorem dX8_log_118 : decode cX8_log 118 = .ok (.aload_n 0, 1) := by decide +kernel
theorem dX8_log_119 : decode cX8_log 119 = .ok (.getfield 16, 3) := by decide +kernel
theorem dX8_log_122 : decode cX8_log 122 = .ok (.iload 8, 2) := by decide +kernel
theorem dX8_log_124 : decode cX8_log 124 = .ok (.iload 9, 2) := by decide +kernel
theorem dX8_log_126 : decode cX8_log 126 = .ok (.iadd, 1) := by decide +kernel
theorem dX8_log_127 : decode cX8_log 127 = .ok (.aload_n 0, 1) := by decide +kernel
theorem dX8_log_128 : decode cX8_log 128 = .ok (.getfield 7, 3) := by decide +kernel
theorem dX8_log_131 : decode cX8_log 131 = .ok (.sipush 378, 3) := by decide +kernel
theorem dX8_log_134 : decode cX8_log 134 = .ok (.iload_n 1, 1) := by decide +kernel
theorem dX8_log_135 : decode cX8_log 135 = .ok (.iadd, 1) := by decide +kernel
theorem dX8_log_136 : decode cX8_log 136 = .ok (.iaload, 1) := by decide +kernel
theorem dX8_log_137 : decode cX8_log 137 = .ok (.i2l, 1) := by decide +kernel
theorem dX8_log_138 : decode cX8_log 138 = .ok (.lastore, 1) := by decide +kernel
theorem dX8_log_139 : decode cX8_log 139 = .ok (.iinc 9 1, 3) := by decide +kernel
theorem dX8_log_142 : decode cX8_log 142 = .ok (.goto (-51), 3) := by decide +kernel
theorem dX8_log_145 : decode cX8_log 145 = .ok (.iload 6, 2) := by decide +kernel
theorem dX8_log_147 : decode cX8_log 147 = .ok (.ireturn, 1) := by decide +kernel
theorem dX8_rows_0 : decode cX8_rows 0 = .ok (.aload_n 0, 1) := by decide +kernel
theorem dX8_rows_1 : decode cX8_rows 1 = .ok (.iload_n 1, 1) := by decide +kernel
theorem dX8_rows_2 : decode cX8_rows 2 = .ok (.invokevirtual 103, 3) := by decide +kernel
theorem dX8_rows_5 : decode cX8_rows 5 = .ok (.ifCond .eq 43, 3) := by decide +kernel
theorem dX8_rows_8 : decode cX8_rows 8 = .ok (.iload_n 2, 1) := by decide +kernel
theorem dX8_rows_9 : decode cX8_rows 9 = .ok (.invokestatic 118, 3) := by decide +kernel
theorem dX8_rows_12 : decode cX8_rows 12 = .ok (.ifCond .eq 36, 3) := by decide +kernel
theorem dX8_rows_15 : decode cX8_rows 15 = .ok (.iload_n 3, 1) := by decide +kernel
theorem dX8_rows_16 : decode cX8_rows 16 = .ok (.iload 4, 2) := by decide +kernel
theorem dX8_rows_18 : decode cX8_rows 18 = .ok (.invokestatic 224, 3) := by decide +kernel
theorem dX8_rows_21 : decode cX8_rows 21 = .ok (.ifCond .eq 27, 3) := by decide +kernel
theorem dX8_rows_24 : decode cX8_rows 24 = .ok (.iload 6, 2) := by decide +kernel
theorem dX8_rows_26 : decode cX8_rows 26 = .ok (.i2l, 1) := by decide +kernel
theorem dX8_rows_27 : decode cX8_rows 27 = .ok (.lconst 1, 1) := by decide +kernel
theorem dX8_rows_28 : decode cX8_rows 28 = .ok (.ldc2_w 242, 3) := by decide +kernel
theorem dX8_rows_31 : decode cX8_rows 31 = .ok (.invokestatic 44, 3) := by decide +kernel
theorem dX8_rows_34 : decode cX8_rows 34 = .ok (.ifCond .eq 14, 3) := by decide +kernel
theorem dX8_rows_37 : decode cX8_rows 37 = .ok (.iload 7, 2) := by decide +kernel
theorem dX8_rows_39 : decode cX8_rows 39 = .ok (.i2l, 1) := by decide +kernel
theorem dX8_rows_40 : decode cX8_rows 40 = .ok (.lconst 0, 1) := by decide +kernel
theorem dX8_rows_41 : decode cX8_rows 41 = .ok (.lconst 1, 1) := by decide +kernel
theorem dX8_rows_42 : decode cX8_rows 42 = .ok (.invokestatic 44, 3) := by decide +kernel
theorem dX8_rows_45 : decode cX8_rows 45 = .ok (.ifCond .ne 5, 3) := by decide +kernel
theorem dX8_rows_48 : decode cX8_rows 48 = .ok (.iconst (-1), 1) := by decide +kernel
theorem dX8_rows_49 : decode cX8_rows 49 = .ok (.ireturn, 1) := by decide +kernel
theorem dX8_rows_50 : decode cX8_rows 50 = .ok (.aload_n 0, 1) := by decide +kernel
theorem dX8_rows_51 : decode cX8_rows 51 = .ok (.iload_n 3, 1) := by decide +kernel
theorem dX8_rows_52 : decode cX8_rows 52 = .ok (.iload 4, 2) := by decide +kernel
theorem dX8_rows_54 : decode cX8_rows 54 = .ok (.iload 5, 2) := by decide +kernel
theorem dX8_rows_56 : decode cX8_rows 56 = .ok (.iload 6, 2) := by decide +kernel
theorem dX8_rows_58 : decode cX8_rows 58 = .ok (.invokevirtual 229, 3) := by decide +kernel
theorem dX8_rows_61 : decode cX8_rows 61 = .ok (.istore 8, 2) := by decide +kernel
theorem dX8_rows_63 : decode cX8_rows 63 = .ok (.iload 8, 2) := by decide +kernel
theorem dX8_rows_65 : decode cX8_rows 65 = .ok (.ifCond .ge 6, 3) := by decide +kernel
theorem dX8_rows_68 : decode cX8_rows 68 = .ok (.iload 8, 2) := by decide +kernel
theorem dX8_rows_70 : decode cX8_rows 70 = .ok (.ireturn, 1) := by decide +kernel
theorem dX8_rows_71 : decode cX8_rows 71 = .ok (.iconst 1, 1) := by decide +kernel
theorem dX8_rows_72 : decode cX8_rows 72 = .ok (.istore 9, 2) := by decide +kernel
theorem dX8_rows_74 : decode cX8_rows 74 = .ok (.iconst 0, 1) := by decide +kernel
theorem dX8_rows_75 : decode cX8_rows 75 = .ok (.istore 10, 2) := by decide +kernel
theorem dX8_rows_77 : decode cX8_rows 77 = .ok (.iload 10, 2) := by decide +kernel
theorem dX8_rows_79 : decode cX8_rows 79 = .ok (.iload 6, 2) := by decide +kernel
theorem dX8_rows_81 : decode cX8_rows 81 = .ok (.if_icmp .ge 15, 3) := by decide +kernel
theorem dX8_rows_84 : decode cX8_rows 84 = .ok (.iload 9, 2) := by decide +kernel
theorem dX8_rows_86 : decode cX8_rows 86 = .ok (.iconst 3, 1) := by decide +kernel
theorem dX8_rows_87 : decode cX8_rows 87 = .ok (.imul, 1) := by decide +kernel
theorem dX8_rows_88 : decode cX8_rows 88 = .ok (.istore 9, 2) := by decide +kernel
theorem dX8_rows_90 : decode cX8_rows 90 = .ok (.iinc 10 1, 3) := by decide +kernel
theorem dX8_rows_93 : decode cX8_rows 93 = .ok (.goto (-16), 3) := by decide +kernel
theorem dX8_rows_96 : decode cX8_rows 96 = .ok (.iconst 0, 1) := by decide +kernel
theorem dX8_rows_97 : decode cX8_rows 97 = .ok (.istore 10, 2) := by decide +kernel
theorem dX8_rows_99 : decode cX8_rows 99 = .ok (.bipush (-4), 2) := by decide +kernel
theorem dX8_rows_101 : decode cX8_rows 101 = .ok (.istore 11, 2) := by decide +kernel
theorem dX8_rows_103 : decode cX8_rows 103 = .ok (.iconst 0, 1) := by decide +kernel
theorem dX8_rows_104 : decode cX8_rows 104 = .ok (.istore 12, 2) := by decide +kernel
theorem dX8_rows_106 : decode cX8_rows 106 = .ok (.iload 12, 2) := by decide +kernel
theorem dX8_rows_108 : decode cX8_rows 108 = .ok (.iload 9, 2) := by decide +kernel
theorem dX8_rows_110 : decode cX8_rows 110 = .ok (.if_icmp .ge 134, 3) := by decide +kernel
theorem dX8_rows_113 : decode cX8_rows 113 = .ok (.aload_n 0, 1) := by decide +kernel
theorem dX8_rows_114 : decode cX8_rows 114 = .ok (.invokevirtual 194, 3) := by decide +kernel
theorem dX8_rows_117 : decode cX8_rows 117 = .ok (.iconst 1, 1) := by decide +kernel
theorem dX8_rows_118 : decode cX8_rows 118 = .ok (.istore 13, 2) := by decide +kernel
theorem dX8_rows_120 : decode cX8_rows 120 = .ok (.iload 9, 2) := by decide +kernel
theorem dX8_rows_122 : decode cX8_rows 122 = .ok (.istore 14, 2) := by decide +kernel
theorem dX8_rows_124 : decode cX8_rows 124 = .ok (.iconst 0, 1) := by decide +kernel
theorem dX8_rows_125 : decode cX8_rows 125 = .ok (.istore 15, 2) := by decide +kernel
theorem dX8_rows_127 : decode cX8_rows 127 = .ok (.iload 15, 2) := by decide +kernel
theorem dX8_rows_129 : decode cX8_rows 129 = .ok (.iload 6, 2) := by decide +kernel
theorem dX8_rows_131 : decode cX8_rows 131 = .ok (.if_icmp .ge 73, 3) := by decide +kernel
theorem dX8_rows_134 : decode cX8_rows 134 = .ok (.iload 13, 2) := by decide +kernel
theorem dX8_rows_136 : decode cX8_rows 136 = .ok (.ifCond .eq 68, 3) := by decide +kernel
theorem dX8_rows_139 : decode cX8_rows 139 = .ok (.iload 14, 2) := by decide +kernel
theorem dX8_rows_141 : decode cX8_rows 141 = .ok (.iconst 3, 1) := by decide +kernel
theorem dX8_rows_142 : decode cX8_rows 142 = .ok (.idiv, 1) := by decide +kernel
theorem dX8_rows_143 : decode cX8_rows 143 = .ok (.istore 14, 2) := by decide +kernel
theorem dX8_rows_145 : decode cX8_rows 145 = .ok (.aload_n 0, 1) := by decide +kernel
theorem dX8_rows_146 : decode cX8_rows 146 = .ok (.sipush 320, 3) := by decide +kernel
theorem dX8_rows_149 : decode cX8_rows 149 = .ok (.iload_n 1, 1) := by decide +kernel
theorem dX8_rows_150 : decode cX8_rows 150 = .ok (.iload_n 2, 1) := by decide +kernel
theorem dX8_rows_151 : decode cX8_rows 151 = .ok (.iload 12, 2) := by decide +kernel
theorem dX8_rows_153 : decode cX8_rows 153 = .ok (.iload 14, 2) := by decide +kernel
theorem dX8_rows_155 : decode cX8_rows 155 = .ok (.idiv, 1) := by decide +kernel
theorem dX8_rows_156 : decode cX8_rows 156 = .ok (.iconst 3, 1) := by decide +kernel
theorem dX8_rows_157 : decode cX8_rows 157 = .ok (.irem, 1) := by decide +kernel
theorem dX8_rows_158 : decode cX8_rows 158 = .ok (.invokevirtual 157, 3) := by decide +kernel
theorem dX8_rows_161 : decode cX8_rows 161 = .ok (.aload_n 0, 1) := by decide +kernel
theorem dX8_rows_162 : decode cX8_rows 162 = .ok (.getfield 7, 3) := by decide +kernel
theorem dX8_rows_165 : decode cX8_rows 165 = .ok (.sipush 378, 3) := by decide +kernel
theorem dX8_rows_168 : decode cX8_rows 168 = .ok (.iload_n 1, 1) := by decide +kernel
theorem dX8_rows_169 : decode cX8_rows 169 = .ok (.iadd, 1) := by decide +kernel
theorem dX8_rows_170 : decode cX8_rows 170 = .ok (.iaload, 1) := by decide +kernel
theorem dX8_rows_171 : decode cX8_rows 171 = .ok (.i2l, 1) := by decide +kernel
theorem dX8_rows_172 : decode cX8_rows 172 = .ok (.aload_n 0, 1) := by decide +kernel
theorem dX8_rows_173 : decode cX8_rows 173 = .ok (.getfield 16, 3) := by decide +kernel
theorem dX8_rows_176 : decode cX8_rows 176 = .ok (.bipush 24, 2) := by decide +kernel
theorem dX8_rows_178 : decode cX8_rows 178 = .ok (.iload_n 3, 1) := by decide +kernel
theorem dX8_rows_179 : decode cX8_rows 179 = .ok (.imul, 1) := by decide +kernel
theorem dX8_rows_180 : decode cX8_rows 180 = .ok (.iload 5, 2) := by decide +kernel
theorem dX8_rows_182 : decode cX8_rows 182 = .ok (.iadd, 1) := by decide +kernel
theorem dX8_rows_183 : decode cX8_rows 183 = .ok (.iload 15, 2) := by decide +kernel
theorem dX8_rows_185 : decode cX8_rows 185 = .ok (.iadd, 1) := by decide +kernel
theorem dX8_rows_186 : decode cX8_rows 186 = .ok (.laload, 1) := by decide +kernel
theorem dX8_rows_187 : decode cX8_rows 187 = .ok (.lcmp, 1) := by decide +kernel
theorem dX8_rows_188 : decode cX8_rows 188 = .ok (.ifCond .ne 7, 3) := by decide +kernel
theorem dX8_rows_191 : decode cX8_rows 191 = .ok (.iconst 1, 1) := by decide +kernel
theorem dX8_rows_192 : decode cX8_rows 192 = .ok (.goto 4, 3) := by decide +kernel
theorem dX8_rows_195 : decode cX8_rows 195 = .ok (.iconst 0, 1) := by decide +kernel
theorem dX8_rows_196 : decode cX8_rows 196 = .ok (.istore 13, 2) := by decide +kernel
theorem dX8_rows_198 : decode cX8_rows 198 = .ok (.iinc 15 1, 3) := by decide +kernel
theorem dX8_rows_201 : decode cX8_rows 201 = .ok (.goto (-74), 3) := by decide +kernel
theorem dX8_rows_204 : decode cX8_rows 204 = .ok (.iload 13, 2) := by decide +kernel
theorem dX8_rows_206 : decode cX8_rows 206 = .ok (.ifCond .eq 13, 3) := by decide +kernel
theorem dX8_rows_209 : decode cX8_rows 209 = .ok (.iload 10, 2) := by decide +kernel
theorem dX8_rows_211 : decode cX8_rows 211 = .ok (.ifCond .ne 8, 3) := by decide +kernel
theorem dX8_rows_214 : decode cX8_rows 214 = .ok (.iload 12, 2) := by decide +kernel
theorem dX8_rows_216 : decode cX8_rows 216 = .ok (.goto 5, 3) := by decide +kernel
theorem dX8_rows_219 : decode cX8_rows 219 = .ok (.iload 11, 2) := by decide +kernel
theorem dX8_rows_221 : decode cX8_rows 221 = .ok (.istore 11, 2) := by decide +kernel
theorem dX8_rows_223 : decode cX8_rows 223 = .ok (.iload 10, 2) := by decide +kernel
theorem dX8_rows_225 : decode cX8_rows 225 = .ok (.iload 13, 2) := by decide +kernel
theorem dX8_rows_227 : decode cX8_rows 227 = .ok (.ifCond .eq 7, 3) := by decide +kernel
theorem dX8_rows_230 : decode cX8_rows 230 = .ok (.iconst 1, 1) := by decide +kernel
theorem dX8_rows_231 : decode cX8_rows 231 = .ok (.goto 4, 3) := by decide +kernel
theorem dX8_rows_234 : decode cX8_rows 234 = .ok (.iconst 0, 1) := by decide +kernel
theorem dX8_rows_235 : decode cX8_rows 235 = .ok (.iadd, 1) := by decide +kernel
theorem dX8_rows_236 : decode cX8_rows 236 = .ok (.istore 10, 2) := by decide +kernel
theorem dX8_rows_238 : decode cX8_rows 238 = .ok (.iinc 12 1, 3) := by decide +kernel
theorem dX8_rows_241 : decode cX8_rows 241 = .ok (.goto (-135), 3) := by decide +kernel
theorem dX8_rows_244 : decode cX8_rows 244 = .ok (.iload 7, 2) := by decide +kernel
theorem dX8_rows_246 : decode cX8_rows 246 = .ok (.ifCond .ne 8, 3) := by decide +kernel
theorem dX8_rows_249 : decode cX8_rows 249 = .ok (.iload 10, 2) := by decide +kernel
theorem dX8_rows_251 : decode cX8_rows 251 = .ok (.goto 5, 3) := by decide +kernel
theorem dX8_rows_254 : decode cX8_rows 254 = .ok (.iload 11, 2) := by decide +kernel
theorem dX8_rows_256 : decode cX8_rows 256 = .ok (.ireturn, 1) := by decide +kernel
theorem dX8_isSo_0 : decode cX8_isSo 0 = .ok (.aload_n 0, 1) := by decide +kernel
theorem dX8_isSo_1 : decode cX8_isSo 1 = .ok (.invokevirtual 194, 3) := by decide +kernel
theorem dX8_isSo_4 : decode cX8_isSo 4 = .ok (.aload_n 0, 1) := by decide +kernel
theorem dX8_isSo_5 : decode cX8_isSo 5 = .ok (.getfield 7, 3) := by decide +kernel
theorem dX8_isSo_8 : decode cX8_isSo 8 = .ok (.sipush 371, 3) := by decide +kernel
theorem dX8_isSo_11 : decode cX8_isSo 11 = .ok (.iload_n 1, 1) := by decide +kernel
theorem dX8_isSo_12 : decode cX8_isSo 12 = .ok (.iadd, 1) := by decide +kernel
theorem dX8_isSo_13 : decode cX8_isSo 13 = .ok (.iload_n 3, 1) := by decide +kernel
theorem dX8_isSo_14 : decode cX8_isSo 14 = .ok (.iastore, 1) := by decide +kernel
theorem dX8_isSo_15 : decode cX8_isSo 15 = .ok (.iconst 1, 1) := by decide +kernel
theorem dX8_isSo_16 : decode cX8_isSo 16 = .ok (.istore 6, 2) := by decide +kernel
theorem dX8_isSo_18 : decode cX8_isSo 18 = .ok (.iconst 0, 1) := by decide +kernel
theorem dX8_isSo_19 : decode cX8_isSo 19 = .ok (.istore 7, 2) := by decide +kernel
theorem dX8_isSo_21 : decode cX8_isSo 21 = .ok (.iload 7, 2) := by decide +kernel
theorem dX8_isSo_23 : decode cX8_isSo 23 = .ok (.iload 5, 2) := by decide +kernel
theorem dX8_isSo_25 : decode cX8_isSo 25 = .ok (.if_icmp .ge 72, 3) := by decide +kernel
theorem dX8_isSo_28 : decode cX8_isSo 28 = .ok (.iload 6, 2) := by decide +kernel
theorem dX8_isSo_30 : decode cX8_isSo 30 = .ok (.ifCond .eq 67, 3) := by decide +kernel
theorem dX8_isSo_33 : decode cX8_isSo 33 = .ok (.aload_n 0, 1) := by decide +kernel
theorem dX8_isSo_34 : decode cX8_isSo 34 = .ok (.sipush 320, 3) := by decide +kernel
theorem dX8_isSo_37 : decode cX8_isSo 37 = .ok (.iload_n 1, 1) := by decide +kernel
theorem dX8_isSo_38 : decode cX8_isSo 38 = .ok (.iload_n 2, 1) := by decide +kernel
theorem dX8_isSo_39 : decode cX8_isSo 39 = .ok (.aload_n 0, 1) := by decide +kernel
theorem dX8_isSo_40 : decode cX8_isSo 40 = .ok (.getfield 16, 3) := by decide +kernel
theorem dX8_isSo_43 : decode cX8_isSo 43 = .ok (.iload 4, 2) := by decide +kernel
theorem dX8_isSo_45 : decode cX8_isSo 45 = .ok (.iconst 2, 1) := by decide +kernel
theorem dX8_isSo_46 : decode cX8_isSo 46 = .ok (.iload 7, 2) := by decide +kernel
theorem dX8_isSo_48 : decode cX8_isSo 48 = .ok (.imul, 1) := by decide +kernel
theorem dX8_isSo_49 : decode cX8_isSo 49 = .ok (.iadd, 1) := by decide +kernel
theorem dX8_isSo_50 : decode cX8_isSo 50 = .ok (.laload, 1) := by decide +kernel
theorem dX8_isSo_51 : decode cX8_isSo 51 = .ok (.l2i, 1) := by decide +kernel
theorem dX8_isSo_52 : decode cX8_isSo 52 = .ok (.invokevirtual 157, 3) := by decide +kernel
theorem dX8_isSo_55 : decode cX8_isSo 55 = .ok (.aload_n 0, 1) := by decide +kernel
theorem dX8_isSo_56 : decode cX8_isSo 56 = .ok (.getfield 7, 3) := by decide +kernel
theorem dX8_isSo_59 : decode cX8_isSo 59 = .ok (.sipush 378, 3) := by decide +kernel
theorem dX8_isSo_62 : decode cX8_isSo 62 = .ok (.iload_n 1, 1) := by decide +kernel
theorem dX8_isSo_63 : decode cX8_isSo 63 = .ok (.iadd, 1) := by decide +kernel
theorem dX8_isSo_64 : decode cX8_isSo 64 = .ok (.iaload, 1) := by decide +kernel
theorem dX8_isSo_65 : decode cX8_isSo 65 = .ok (.i2l, 1) := by decide +kernel
theorem dX8_isSo_66 : decode cX8_isSo 66 = .ok (.aload_n 0, 1) := by decide +kernel
theorem dX8_isSo_67 : decode cX8_isSo 67 = .ok (.getfield 16, 3) := by decide +kernel
theorem dX8_isSo_70 : decode cX8_isSo 70 = .ok (.iload 4, 2) := by decide +kernel
theorem dX8_isSo_72 : decode cX8_isSo 72 = .ok (.iconst 2, 1) := by decide +kernel
theorem dX8_isSo_73 : decode cX8_isSo 73 = .ok (.iload 7, 2) := by decide +kernel
theorem dX8_isSo_75 : decode cX8_isSo 75 = .ok (.imul, 1) := by decide +kernel
theorem dX8_isSo_76 : decode cX8_isSo 76 = .ok (.iadd, 1) := by decide +kernel
theorem dX8_isSo_77 : decode cX8_isSo 77 = .ok (.iconst 1, 1) := by decide +kernel
theorem dX8_isSo_78 : decode cX8_isSo 78 = .ok (.iadd, 1) := by decide +kernel
theorem dX8_isSo_79 : decode cX8_isSo 79 = .ok (.laload, 1) := by decide +kernel
theorem dX8_isSo_80 : decode cX8_isSo 80 = .ok (.lcmp, 1) := by decide +kernel
theorem dX8_isSo_81 : decode cX8_isSo 81 = .ok (.ifCond .ne 7, 3) := by decide +kernel
theorem dX8_isSo_84 : decode cX8_isSo 84 = .ok (.iconst 1, 1) := by decide +kernel
theorem dX8_isSo_85 : decode cX8_isSo 85 = .ok (.goto 4, 3) := by decide +kernel
theorem dX8_isSo_88 : decode cX8_isSo 88 = .ok (.iconst 0, 1) := by decide +kernel
theorem dX8_isSo_89 : decode cX8_isSo 89 = .ok (.istore 6, 2) := by decide +kernel
theorem dX8_isSo_91 : decode cX8_isSo 91 = .ok (.iinc 7 1, 3) := by decide +kernel
theorem dX8_isSo_94 : decode cX8_isSo 94 = .ok (.goto (-73), 3) := by decide +kernel
theorem dX8_isSo_97 : decode cX8_isSo 97 = .ok (.iload 6, 2) := by decide +kernel
theorem dX8_isSo_99 : decode cX8_isSo 99 = .ok (.ireturn, 1) := by decide +kernel
theorem dX8_bestTry_0 : decode cX8_bestTry 0 = .ok (.bipush (-4), 2) := by decide +kernel
theorem dX8_bestTry_2 : decode cX8_bestTry 2 = .ok (.istore 6, 2) := by decide +kernel
theorem dX8_bestTry_4 : decode cX8_bestTry 4 = .ok (.ldc 165, 2) := by decide +kernel
theorem dX8_bestTry_6 : decode cX8_bestTry 6 = .ok (.istore 7, 2) := by decide +kernel
theorem dX8_bestTry_8 : decode cX8_bestTry 8 = .ok (.iconst 0, 1) := by decide +kernel
theorem dX8_bestTry_9 : decode cX8_bestTry 9 = .ok (.istore 8, 2) := by decide +kernel
theorem dX8_bestTry_11 : decode cX8_bestTry 11 = .ok (.iload 8, 2) := by decide +kernel
theorem dX8_bestTry_13 : decode cX8_bestTry 13 = .ok (.iconst 3, 1) := by decide +kernel
theorem dX8_bestTry_14 : decode cX8_bestTry 14 = .ok (.if_icmp .ge 220, 3) := by decide +kernel
theorem dX8_bestTry_17 : decode cX8_bestTry 17 = .ok (.iload 5, 2) := by decide +kernel
theorem dX8_bestTry_19 : decode cX8_bestTry 19 = .ok (.ifCond .le 215, 3) := by decide +kernel
theorem dX8_bestTry_22 : decode cX8_bestTry 22 = .ok (.iconst 1, 1) := by decide +kernel
theorem dX8_bestTry_23 : decode cX8_bestTry 23 = .ok (.istore 9, 2) := by decide +kernel
theorem dX8_bestTry_25 : decode cX8_bestTry 25 = .ok (.iload 9, 2) := by decide +kernel
theorem dX8_bestTry_27 : decode cX8_bestTry 27 = .ok (.iconst 5, 1) := by decide +kernel
theorem dX8_bestTry_28 : decode cX8_bestTry 28 = .ok (.if_icmp .gt 69, 3) := by decide +kernel
theorem dX8_bestTry_31 : decode cX8_bestTry 31 = .ok (.iload 5, 2) := by decide +kernel
theorem dX8_bestTry_33 : decode cX8_bestTry 33 = .ok (.iload 9, 2) := by decide +kernel
theorem dX8_bestTry_35 : decode cX8_bestTry 35 = .ok (.invokestatic 174, 3) := by decide +kernel
theorem dX8_bestTry_38 : decode cX8_bestTry 38 = .ok (.ifCond .eq 53, 3) := by decide +kernel
theorem dX8_bestTry_41 : decode cX8_bestTry 41 = .ok (.aload_n 0, 1) := by decide +kernel
theorem dX8_bestTry_42 : decode cX8_bestTry 42 = .ok (.iload_n 1, 1) := by decide +kernel
theorem dX8_bestTry_43 : decode cX8_bestTry 43 = .ok (.iload_n 2, 1) := by decide +kernel
theorem dX8_bestTry_44 : decode cX8_bestTry 44 = .ok (.iload 9, 2) := by decide +kernel
theorem dX8_bestTry_46 : decode cX8_bestTry 46 = .ok (.iload_n 3, 1) := by decide +kernel
theorem dX8_bestTry_47 : decode cX8_bestTry 47 = .ok (.iload 4, 2) := by decide +kernel
theorem dX8_bestTry_49 : decode cX8_bestTry 49 = .ok (.invokevirtual 244, 3) := by decide +kernel
theorem dX8_bestTry_52 : decode cX8_bestTry 52 = .ok (.istore 10, 2) := by decide +kernel
theorem dX8_bestTry_54 : decode cX8_bestTry 54 = .ok (.aload_n 0, 1) := by decide +kernel
theorem dX8_bestTry_55 : decode cX8_bestTry 55 = .ok (.sipush 320, 3) := by decide +kernel
theorem dX8_bestTry_58 : decode cX8_bestTry 58 = .ok (.iload_n 1, 1) := by decide +kernel
theorem dX8_bestTry_59 : decode cX8_bestTry 59 = .ok (.iload_n 2, 1) := by decide +kernel
theorem dX8_bestTry_60 : decode cX8_bestTry 60 = .ok (.iload 8, 2) := by decide +kernel
theorem dX8_bestTry_62 : decode cX8_bestTry 62 = .ok (.invokevirtual 157, 3) := by decide +kernel
theorem dX8_bestTry_65 : decode cX8_bestTry 65 = .ok (.aload_n 0, 1) := by decide +kernel
theorem dX8_bestTry_66 : decode cX8_bestTry 66 = .ok (.getfield 41, 3) := by decide +kernel
theorem dX8_bestTry_69 : decode cX8_bestTry 69 = .ok (.iload 9, 2) := by decide +kernel
theorem dX8_bestTry_71 : decode cX8_bestTry 71 = .ok (.iload 10, 2) := by decide +kernel
theorem dX8_bestTry_73 : decode cX8_bestTry 73 = .ok (.ifCond .eq 16, 3) := by decide +kernel
theorem dX8_bestTry_76 : decode cX8_bestTry 76 = .ok (.aload_n 0, 1) := by decide +kernel
theorem dX8_bestTry_77 : decode cX8_bestTry 77 = .ok (.getfield 7, 3) := by decide +kernel
theorem dX8_bestTry_80 : decode cX8_bestTry 80 = .ok (.sipush 378, 3) := by decide +kernel
theorem dX8_bestTry_83 : decode cX8_bestTry 83 = .ok (.iload_n 1, 1) := by decide +kernel
theorem dX8_bestTry_84 : decode cX8_bestTry 84 = .ok (.iadd, 1) := by decide +kernel
theorem dX8_bestTry_85 : decode cX8_bestTry 85 = .ok (.iaload, 1) := by decide +kernel
theorem dX8_bestTry_86 : decode cX8_bestTry 86 = .ok (.goto 4, 3) := by decide +kernel
theorem dX8_bestTry_89 : decode cX8_bestTry 89 = .ok (.iconst (-1), 1) := by decide +kernel
theorem dX8_bestTry_90 : decode cX8_bestTry 90 = .ok (.iastore, 1) := by decide +kernel
theorem dX8_bestTry_91 : decode cX8_bestTry 91 = .ok (.iinc 9 1, 3) := by decide +kernel
theorem dX8_bestTry_94 : decode cX8_bestTry 94 = .ok (.goto (-69), 3) := by decide +kernel
theorem dX8_bestTry_97 : decode cX8_bestTry 97 = .ok (.iconst 0, 1) := by decide +kernel
theorem dX8_bestTry_98 : decode cX8_bestTry 98 = .ok (.istore 9, 2) := by decide +kernel
theorem dX8_bestTry_100 : decode cX8_bestTry 100 = .ok (.iconst 1, 1) := by decide +kernel
theorem dX8_bestTry_101 : decode cX8_bestTry 101 = .ok (.istore 10, 2) := by decide +kernel
theorem dX8_bestTry_103 : decode cX8_bestTry 103 = .ok (.iload 10, 2) := by decide +kernel
theorem dX8_bestTry_105 : decode cX8_bestTry 105 = .ok (.iconst 5, 1) := by decide +kernel
theorem dX8_bestTry_106 : decode cX8_bestTry 106 = .ok (.if_icmp .gt 90, 3) := by decide +kernel
theorem dX8_bestTry_109 : decode cX8_bestTry 109 = .ok (.iconst 0, 1) := by decide +kernel
theorem dX8_bestTry_110 : decode cX8_bestTry 110 = .ok (.istore 11, 2) := by decide +kernel
theorem dX8_bestTry_112 : decode cX8_bestTry 112 = .ok (.iconst 1, 1) := by decide +kernel
theorem dX8_bestTry_113 : decode cX8_bestTry 113 = .ok (.istore 12, 2) := by decide +kernel
theorem dX8_bestTry_115 : decode cX8_bestTry 115 = .ok (.iload 12, 2) := by decide +kernel
theorem dX8_bestTry_117 : decode cX8_bestTry 117 = .ok (.iconst 5, 1) := by decide +kernel
theorem dX8_bestTry_118 : decode cX8_bestTry 118 = .ok (.if_icmp .gt 56, 3) := by decide +kernel
theorem dX8_bestTry_121 : decode cX8_bestTry 121 = .ok (.iload 11, 2) := by decide +kernel
theorem dX8_bestTry_123 : decode cX8_bestTry 123 = .ok (.iload 5, 2) := by decide +kernel
theorem dX8_bestTry_125 : decode cX8_bestTry 125 = .ok (.iload 10, 2) := by decide +kernel
theorem dX8_bestTry_127 : decode cX8_bestTry 127 = .ok (.invokestatic 174, 3) := by decide +kernel
theorem dX8_bestTry_130 : decode cX8_bestTry 130 = .ok (.ifCond .eq 34, 3) := by decide +kernel
theorem dX8_bestTry_133 : decode cX8_bestTry 133 = .ok (.iload 5, 2) := by decide +kernel
theorem dX8_bestTry_135 : decode cX8_bestTry 135 = .ok (.iload 12, 2) := by decide +kernel
theorem dX8_bestTry_137 : decode cX8_bestTry 137 = .ok (.invokestatic 174, 3) := by decide +kernel
theorem dX8_bestTry_140 : decode cX8_bestTry 140 = .ok (.ifCond .eq 24, 3) := by decide +kernel
theorem dX8_bestTry_143 : decode cX8_bestTry 143 = .ok (.aload_n 0, 1) := by decide +kernel
theorem dX8_bestTry_144 : decode cX8_bestTry 144 = .ok (.getfield 41, 3) := by decide +kernel
theorem dX8_bestTry_147 : decode cX8_bestTry 147 = .ok (.iload 10, 2) := by decide +kernel
theorem dX8_bestTry_149 : decode cX8_bestTry 149 = .ok (.iaload, 1) := by decide +kernel
theorem dX8_bestTry_150 : decode cX8_bestTry 150 = .ok (.aload_n 0, 1) := by decide +kernel
theorem dX8_bestTry_151 : decode cX8_bestTry 151 = .ok (.getfield 41, 3) := by decide +kernel
theorem dX8_bestTry_154 : decode cX8_bestTry 154 = .ok (.iload 12, 2) := by decide +kernel
theorem dX8_bestTry_156 : decode cX8_bestTry 156 = .ok (.iaload, 1) := by decide +kernel
theorem dX8_bestTry_157 : decode cX8_bestTry 157 = .ok (.if_icmp .ne 7, 3) := by decide +kernel
theorem dX8_bestTry_160 : decode cX8_bestTry 160 = .ok (.iconst 1, 1) := by decide +kernel
theorem dX8_bestTry_161 : decode cX8_bestTry 161 = .ok (.goto 4, 3) := by decide +kernel
theorem dX8_bestTry_164 : decode cX8_bestTry 164 = .ok (.iconst 0, 1) := by decide +kernel
theorem dX8_bestTry_165 : decode cX8_bestTry 165 = .ok (.iadd, 1) := by decide +kernel
theorem dX8_bestTry_166 : decode cX8_bestTry 166 = .ok (.istore 11, 2) := by decide +kernel
theorem dX8_bestTry_168 : decode cX8_bestTry 168 = .ok (.iinc 12 1, 3) := by decide +kernel
theorem dX8_bestTry_171 : decode cX8_bestTry 171 = .ok (.goto (-56), 3) := by decide +kernel
theorem dX8_bestTry_174 : decode cX8_bestTry 174 = .ok (.iload 11, 2) := by decide +kernel
theorem dX8_bestTry_176 : decode cX8_bestTry 176 = .ok (.iload 9, 2) := by decide +kernel
theorem dX8_bestTry_178 : decode cX8_bestTry 178 = .ok (.if_icmp .le 8, 3) := by decide +kernel
theorem dX8_bestTry_181 : decode cX8_bestTry 181 = .ok (.iload 11, 2) := by decide +kernel
theorem dX8_bestTry_183 : decode cX8_bestTry 183 = .ok (.goto 5, 3) := by decide +kernel
theorem dX8_bestTry_186 : decode cX8_bestTry 186 = .ok (.iload 9, 2) := by decide +kernel
theorem dX8_bestTry_188 : decode cX8_bestTry 188 = .ok (.istore 9, 2) := by decide +kernel
theorem dX8_bestTry_190 : decode cX8_bestTry 190 = .ok (.iinc 10 1, 3) := by decide +kernel
theorem dX8_bestTry_193 : decode cX8_bestTry 193 = .ok (.goto (-90), 3) := by decide +kernel
theorem dX8_bestTry_196 : decode cX8_bestTry 196 = .ok (.iload 9, 2) := by decide +kernel
theorem dX8_bestTry_198 : decode cX8_bestTry 198 = .ok (.iload 7, 2) := by decide +kernel
theorem dX8_bestTry_200 : decode cX8_bestTry 200 = .ok (.if_icmp .ge 8, 3) := by decide +kernel
theorem dX8_bestTry_203 : decode cX8_bestTry 203 = .ok (.iload 8, 2) := by decide +kernel
theorem dX8_bestTry_205 : decode cX8_bestTry 205 = .ok (.goto 5, 3) := by decide +kernel
theorem dX8_bestTry_208 : decode cX8_bestTry 208 = .ok (.iload 6, 2) := by decide +kernel
theorem dX8_bestTry_210 : decode cX8_bestTry 210 = .ok (.istore 6, 2) := by decide +kernel
theorem dX8_bestTry_212 : decode cX8_bestTry 212 = .ok (.iload 9, 2) := by decide +kernel
theorem dX8_bestTry_214 : decode cX8_bestTry 214 = .ok (.iload 7, 2) := by decide +kernel
theorem dX8_bestTry_216 : decode cX8_bestTry 216 = .ok (.if_icmp .ge 8, 3) := by decide +kernel
theorem dX8_bestTry_219 : decode cX8_bestTry 219 = .ok (.iload 9, 2) := by decide +kernel
theorem dX8_bestTry_221 : decode cX8_bestTry 221 = .ok (.goto 5, 3) := by decide +kernel
theorem dX8_bestTry_224 : decode cX8_bestTry 224 = .ok (.iload 7, 2) := by decide +kernel
theorem dX8_bestTry_226 : decode cX8_bestTry 226 = .ok (.istore 7, 2) := by decide +kernel
theorem dX8_bestTry_228 : decode cX8_bestTry 228 = .ok (.iinc 8 1, 3) := by decide +kernel
theorem dX8_bestTry_231 : decode cX8_bestTry 231 = .ok (.goto (-220), 3) := by decide +kernel
theorem dX8_bestTry_234 : decode cX8_bestTry 234 = .ok (.iload 6, 2) := by decide +kernel
theorem dX8_bestTry_236 : decode cX8_bestTry 236 = .ok (.ireturn, 1) := by decide +kernel
theorem dX8_kinds_0 : decode cX8_kinds 0 = .ok (.aload_n 0, 1) := by decide +kernel
theorem dX8_kinds_1 : decode cX8_kinds 1 = .ok (.iload_n 1, 1) := by decide +kernel
theorem dX8_kinds_2 : decode cX8_kinds 2 = .ok (.invokevirtual 103, 3) := by decide +kernel
theorem dX8_kinds_5 : decode cX8_kinds 5 = .ok (.ifCond .eq 43, 3) := by decide +kernel
theorem dX8_kinds_8 : decode cX8_kinds 8 = .ok (.iload_n 2, 1) := by decide +kernel
theorem dX8_kinds_9 : decode cX8_kinds 9 = .ok (.invokestatic 118, 3) := by decide +kernel
theorem dX8_kinds_12 : decode cX8_kinds 12 = .ok (.ifCond .eq 36, 3) := by decide +kernel
theorem dX8_kinds_15 : decode cX8_kinds 15 = .ok (.iload_n 3, 1) := by decide +kernel
theorem dX8_kinds_16 : decode cX8_kinds 16 = .ok (.iload 4, 2) := by decide +kernel
theorem dX8_kinds_18 : decode cX8_kinds 18 = .ok (.invokestatic 224, 3) := by decide +kernel
theorem dX8_kinds_21 : decode cX8_kinds 21 = .ok (.ifCond .eq 27, 3) := by decide +kernel
theorem dX8_kinds_24 : decode cX8_kinds 24 = .ok (.iload 6, 2) := by decide +kernel
theorem dX8_kinds_26 : decode cX8_kinds 26 = .ok (.i2l, 1) := by decide +kernel
theorem dX8_kinds_27 : decode cX8_kinds 27 = .ok (.lconst 1, 1) := by decide +kernel
theorem dX8_kinds_28 : decode cX8_kinds 28 = .ok (.ldc2_w 248, 3) := by decide +kernel
theorem dX8_kinds_31 : decode cX8_kinds 31 = .ok (.invokestatic 44, 3) := by decide +kernel
theorem dX8_kinds_34 : decode cX8_kinds 34 = .ok (.ifCond .eq 14, 3) := by decide +kernel
theorem dX8_kinds_37 : decode cX8_kinds 37 = .ok (.iload 7, 2) := by decide +kernel
theorem dX8_kinds_39 : decode cX8_kinds 39 = .ok (.i2l, 1) := by decide +kernel
theorem dX8_kinds_40 : decode cX8_kinds 40 = .ok (.lconst 0, 1) := by decide +kernel
theorem dX8_kinds_41 : decode cX8_kinds 41 = .ok (.lconst 1, 1) := by decide +kernel
theorem dX8_kinds_42 : decode cX8_kinds 42 = .ok (.invokestatic 44, 3) := by decide +kernel
theorem dX8_kinds_45 : decode cX8_kinds 45 = .ok (.ifCond .ne 5, 3) := by decide +kernel
theorem dX8_kinds_48 : decode cX8_kinds 48 = .ok (.iconst (-1), 1) := by decide +kernel
theorem dX8_kinds_49 : decode cX8_kinds 49 = .ok (.ireturn, 1) := by decide +kernel
theorem dX8_kinds_50 : decode cX8_kinds 50 = .ok (.aload_n 0, 1) := by decide +kernel
theorem dX8_kinds_51 : decode cX8_kinds 51 = .ok (.iload_n 3, 1) := by decide +kernel
theorem dX8_kinds_52 : decode cX8_kinds 52 = .ok (.iload 4, 2) := by decide +kernel
theorem dX8_kinds_54 : decode cX8_kinds 54 = .ok (.iload 5, 2) := by decide +kernel
theorem dX8_kinds_56 : decode cX8_kinds 56 = .ok (.iconst 2, 1) := by decide +kernel
theorem dX8_kinds_57 : decode cX8_kinds 57 = .ok (.iload 6, 2) := by decide +kernel
theorem dX8_kinds_59 : decode cX8_kinds 59 = .ok (.imul, 1) := by decide +kernel
theorem dX8_kinds_60 : decode cX8_kinds 60 = .ok (.invokevirtual 229, 3) := by decide +kernel
theorem dX8_kinds_63 : decode cX8_kinds 63 = .ok (.istore 8, 2) := by decide +kernel
theorem dX8_kinds_65 : decode cX8_kinds 65 = .ok (.iload 8, 2) := by decide +kernel
theorem dX8_kinds_67 : decode cX8_kinds 67 = .ok (.ifCond .ge 6, 3) := by decide +kernel
theorem dX8_kinds_70 : decode cX8_kinds 70 = .ok (.iload 8, 2) := by decide +kernel
theorem dX8_kinds_72 : decode cX8_kinds 72 = .ok (.ireturn, 1) := by decide +kernel
theorem dX8_kinds_73 : decode cX8_kinds 73 = .ok (.bipush 24, 2) := by decide +kernel
theorem dX8_kinds_75 : decode cX8_kinds 75 = .ok (.iload_n 3, 1) := by decide +kernel
theorem dX8_kinds_76 : decode cX8_kinds 76 = .ok (.imul, 1) := by decide +kernel
theorem dX8_kinds_77 : decode cX8_kinds 77 = .ok (.iload 5, 2) := by decide +kernel
theorem dX8_kinds_79 : decode cX8_kinds 79 = .ok (.iadd, 1) := by decide +kernel
theorem dX8_kinds_80 : decode cX8_kinds 80 = .ok (.istore 9, 2) := by decide +kernel
theorem dX8_kinds_82 : decode cX8_kinds 82 = .ok (.aload_n 0, 1) := by decide +kernel
theorem dX8_kinds_83 : decode cX8_kinds 83 = .ok (.iload 9, 2) := by decide +kernel
theorem dX8_kinds_85 : decode cX8_kinds 85 = .ok (.iload 6, 2) := by decide +kernel
theorem dX8_kinds_87 : decode cX8_kinds 87 = .ok (.iconst 2, 1) := by decide +kernel
theorem dX8_kinds_88 : decode cX8_kinds 88 = .ok (.invokevirtual 239, 3) := by decide +kernel
theorem dX8_kinds_91 : decode cX8_kinds 91 = .ok (.ifCond .ne 6, 3) := by decide +kernel
theorem dX8_kinds_94 : decode cX8_kinds 94 = .ok (.bipush (-2), 2) := by decide +kernel
theorem dX8_kinds_96 : decode cX8_kinds 96 = .ok (.ireturn, 1) := by decide +kernel
theorem dX8_kinds_97 : decode cX8_kinds 97 = .ok (.iconst 0, 1) := by decide +kernel
theorem dX8_kinds_98 : decode cX8_kinds 98 = .ok (.istore 10, 2) := by decide +kernel
theorem dX8_kinds_100 : decode cX8_kinds 100 = .ok (.iconst 1, 1) := by decide +kernel
theorem dX8_kinds_101 : decode cX8_kinds 101 = .ok (.istore 11, 2) := by decide +kernel
theorem dX8_kinds_103 : decode cX8_kinds 103 = .ok (.iload 11, 2) := by decide +kernel
theorem dX8_kinds_105 : decode cX8_kinds 105 = .ok (.iconst 5, 1) := by decide +kernel
theorem dX8_kinds_106 : decode cX8_kinds 106 = .ok (.if_icmp .gt 37, 3) := by decide +kernel
theorem dX8_kinds_109 : decode cX8_kinds 109 = .ok (.iload 10, 2) := by decide +kernel
theorem dX8_kinds_111 : decode cX8_kinds 111 = .ok (.aload_n 0, 1) := by decide +kernel
theorem dX8_kinds_112 : decode cX8_kinds 112 = .ok (.iload_n 1, 1) := by decide +kernel
theorem dX8_kinds_113 : decode cX8_kinds 113 = .ok (.iload_n 2, 1) := by decide +kernel
theorem dX8_kinds_114 : decode cX8_kinds 114 = .ok (.iload 11, 2) := by decide +kernel
theorem dX8_kinds_116 : decode cX8_kinds 116 = .ok (.iload 9, 2) := by decide +kernel
theorem dX8_kinds_118 : decode cX8_kinds 118 = .ok (.iload 6, 2) := by decide +kernel
theorem dX8_kinds_120 : decode cX8_kinds 120 = .ok (.invokevirtual 244, 3) := by decide +kernel
theorem dX8_kinds_123 : decode cX8_kinds 123 = .ok (.ifCond .eq 10, 3) := by decide +kernel
theorem dX8_kinds_126 : decode cX8_kinds 126 = .ok (.iconst 1, 1) := by decide +kernel
theorem dX8_kinds_127 : decode cX8_kinds 127 = .ok (.iload 11, 2) := by decide +kernel
theorem dX8_kinds_129 : decode cX8_kinds 129 = .ok (.ishl, 1) := by decide +kernel
theorem dX8_kinds_130 : decode cX8_kinds 130 = .ok (.goto 4, 3) := by decide +kernel
theorem dX8_kinds_133 : decode cX8_kinds 133 = .ok (.iconst 0, 1) := by decide +kernel
theorem dX8_kinds_134 : decode cX8_kinds 134 = .ok (.ior, 1) := by decide +kernel
theorem dX8_kinds_135 : decode cX8_kinds 135 = .ok (.istore 10, 2) := by decide +kernel
theorem dX8_kinds_137 : decode cX8_kinds 137 = .ok (.iinc 11 1, 3) := by decide +kernel
theorem dX8_kinds_140 : decode cX8_kinds 140 = .ok (.goto (-37), 3) := by decide +kernel
theorem dX8_kinds_143 : decode cX8_kinds 143 = .ok (.iload 7, 2) := by decide +kernel
theorem dX8_kinds_145 : decode cX8_kinds 145 = .ok (.ifCond .ne 8, 3) := by decide +kernel
theorem dX8_kinds_148 : decode cX8_kinds 148 = .ok (.iload 10, 2) := by decide +kernel
theorem dX8_kinds_150 : decode cX8_kinds 150 = .ok (.goto 15, 3) := by decide +kernel
theorem dX8_kinds_153 : decode cX8_kinds 153 = .ok (.aload_n 0, 1) := by decide +kernel
theorem dX8_kinds_154 : decode cX8_kinds 154 = .ok (.iload_n 1, 1) := by decide +kernel
theorem dX8_kinds_155 : decode cX8_kinds 155 = .ok (.iload_n 2, 1) := by decide +kernel
theorem dX8_kinds_156 : decode cX8_kinds 156 = .ok (.iload 9, 2) := by decide +kernel
theorem dX8_kinds_158 : decode cX8_kinds 158 = .ok (.iload 6, 2) := by decide +kernel
theorem dX8_kinds_160 : decode cX8_kinds 160 = .ok (.iload 10, 2) := by decide +kernel
theorem dX8_kinds_162 : decode cX8_kinds 162 = .ok (.invokevirtual 250, 3) := by decide +kernel
theorem dX8_kinds_165 : decode cX8_kinds 165 = .ok (.ireturn, 1) := by decide +kernel
theorem dX8_fog_0 : decode cX8_fog 0 = .ok (.aload_n 0, 1) := by decide +kernel
theorem dX8_fog_1 : decode cX8_fog 1 = .ok (.iload_n 1, 1) := by decide +kernel
theorem dX8_fog_2 : decode cX8_fog 2 = .ok (.invokevirtual 103, 3) := by decide +kernel
theorem dX8_fog_5 : decode cX8_fog 5 = .ok (.ifCond .eq 63, 3) := by decide +kernel
theorem dX8_fog_8 : decode cX8_fog 8 = .ok (.iload_n 2, 1) := by decide +kernel
theorem dX8_fog_9 : decode cX8_fog 9 = .ok (.invokestatic 118, 3) := by decide +kernel
theorem dX8_fog_12 : decode cX8_fog 12 = .ok (.ifCond .eq 56, 3) := by decide +kernel
theorem dX8_fog_15 : decode cX8_fog 15 = .ok (.iload_n 3, 1) := by decide +kernel
theorem dX8_fog_16 : decode cX8_fog 16 = .ok (.invokestatic 221, 3) := by decide +kernel
theorem dX8_fog_19 : decode cX8_fog 19 = .ok (.ifCond .eq 49, 3) := by decide +kernel
theorem dX8_fog_22 : decode cX8_fog 22 = .ok (.iload 4, 2) := by decide +kernel
theorem dX8_fog_24 : decode cX8_fog 24 = .ok (.i2l, 1) := by decide +kernel
theorem dX8_fog_25 : decode cX8_fog 25 = .ok (.lconst 1, 1) := by decide +kernel
theorem dX8_fog_26 : decode cX8_fog 26 = .ok (.ldc2_w 242, 3) := by decide +kernel
theorem dX8_fog_29 : decode cX8_fog 29 = .ok (.invokestatic 44, 3) := by decide +kernel
theorem dX8_fog_32 : decode cX8_fog 32 = .ok (.ifCond .eq 36, 3) := by decide +kernel
theorem dX8_fog_35 : decode cX8_fog 35 = .ok (.aload_n 0, 1) := by decide +kernel
theorem dX8_fog_36 : decode cX8_fog 36 = .ok (.iload 5, 2) := by decide +kernel
theorem dX8_fog_38 : decode cX8_fog 38 = .ok (.invokevirtual 112, 3) := by decide +kernel
theorem dX8_fog_41 : decode cX8_fog 41 = .ok (.ifCond .eq 27, 3) := by decide +kernel
theorem dX8_fog_44 : decode cX8_fog 44 = .ok (.iload 6, 2) := by decide +kernel
theorem dX8_fog_46 : decode cX8_fog 46 = .ok (.i2l, 1) := by decide +kernel
theorem dX8_fog_47 : decode cX8_fog 47 = .ok (.lconst 0, 1) := by decide +kernel
theorem dX8_fog_48 : decode cX8_fog 48 = .ok (.ldc2_w 248, 3) := by decide +kernel
theorem dX8_fog_51 : decode cX8_fog 51 = .ok (.invokestatic 44, 3) := by decide +kernel
theorem dX8_fog_54 : decode cX8_fog 54 = .ok (.ifCond .eq 14, 3) := by decide +kernel
theorem dX8_fog_57 : decode cX8_fog 57 = .ok (.iload 7, 2) := by decide +kernel
theorem dX8_fog_59 : decode cX8_fog 59 = .ok (.i2l, 1) := by decide +kernel
theorem dX8_fog_60 : decode cX8_fog 60 = .ok (.lconst 0, 1) := by decide +kernel
theorem dX8_fog_61 : decode cX8_fog 61 = .ok (.lconst 1, 1) := by decide +kernel
theorem dX8_fog_62 : decode cX8_fog 62 = .ok (.invokestatic 44, 3) := by decide +kernel
theorem dX8_fog_65 : decode cX8_fog 65 = .ok (.ifCond .ne 5, 3) := by decide +kernel
theorem dX8_fog_68 : decode cX8_fog 68 = .ok (.iconst (-1), 1) := by decide +kernel
theorem dX8_fog_69 : decode cX8_fog 69 = .ok (.ireturn, 1) := by decide +kernel
theorem dX8_fog_70 : decode cX8_fog 70 = .ok (.aload_n 0, 1) := by decide +kernel
theorem dX8_fog_71 : decode cX8_fog 71 = .ok (.iload_n 3, 1) := by decide +kernel
theorem dX8_fog_72 : decode cX8_fog 72 = .ok (.iconst 0, 1) := by decide +kernel
theorem dX8_fog_73 : decode cX8_fog 73 = .ok (.iconst 0, 1) := by decide +kernel
theorem dX8_fog_74 : decode cX8_fog 74 = .ok (.iload 4, 2) := by decide +kernel
theorem dX8_fog_76 : decode cX8_fog 76 = .ok (.invokevirtual 229, 3) := by decide +kernel
theorem dX8_fog_79 : decode cX8_fog 79 = .ok (.istore 8, 2) := by decide +kernel
theorem dX8_fog_81 : decode cX8_fog 81 = .ok (.iload 8, 2) := by decide +kernel
theorem dX8_fog_83 : decode cX8_fog 83 = .ok (.ifCond .ge 6, 3) := by decide +kernel
theorem dX8_fog_86 : decode cX8_fog 86 = .ok (.iload 8, 2) := by decide +kernel
theorem dX8_fog_88 : decode cX8_fog 88 = .ok (.ireturn, 1) := by decide +kernel
theorem dX8_fog_89 : decode cX8_fog 89 = .ok (.bipush 24, 2) := by decide +kernel
theorem dX8_fog_91 : decode cX8_fog 91 = .ok (.iload_n 3, 1) := by decide +kernel
theorem dX8_fog_92 : decode cX8_fog 92 = .ok (.imul, 1) := by decide +kernel
theorem dX8_fog_93 : decode cX8_fog 93 = .ok (.istore 9, 2) := by decide +kernel
theorem dX8_fog_95 : decode cX8_fog 95 = .ok (.aload_n 0, 1) := by decide +kernel
theorem dX8_fog_96 : decode cX8_fog 96 = .ok (.iload 9, 2) := by decide +kernel
theorem dX8_fog_98 : decode cX8_fog 98 = .ok (.iload 4, 2) := by decide +kernel
theorem dX8_fog_100 : decode cX8_fog 100 = .ok (.iconst 1, 1) := by decide +kernel
theorem dX8_fog_101 : decode cX8_fog 101 = .ok (.invokevirtual 239, 3) := by decide +kernel
theorem dX8_fog_104 : decode cX8_fog 104 = .ok (.ifCond .ne 6, 3) := by decide +kernel
theorem dX8_fog_107 : decode cX8_fog 107 = .ok (.bipush (-2), 2) := by decide +kernel
theorem dX8_fog_109 : decode cX8_fog 109 = .ok (.ireturn, 1) := by decide +kernel
theorem dX8_fog_110 : decode cX8_fog 110 = .ok (.iconst 0, 1) := by decide +kernel
theorem dX8_fog_111 : decode cX8_fog 111 = .ok (.istore 10, 2) := by decide +kernel
theorem dX8_fog_113 : decode cX8_fog 113 = .ok (.iconst 1, 1) := by decide +kernel
theorem dX8_fog_114 : decode cX8_fog 114 = .ok (.istore 11, 2) := by decide +kernel
theorem dX8_fog_116 : decode cX8_fog 116 = .ok (.iconst 0, 1) := by decide +kernel
theorem dX8_fog_117 : decode cX8_fog 117 = .ok (.istore 12, 2) := by decide +kernel
theorem dX8_fog_119 : decode cX8_fog 119 = .ok (.iload 12, 2) := by decide +kernel
theorem dX8_fog_121 : decode cX8_fog 121 = .ok (.iload 4, 2) := by decide +kernel
theorem dX8_fog_123 : decode cX8_fog 123 = .ok (.if_icmp .ge 16, 3) := by decide +kernel
theorem dX8_fog_126 : decode cX8_fog 126 = .ok (.iload 11, 2) := by decide +kernel
theorem dX8_fog_128 : decode cX8_fog 128 = .ok (.bipush 10, 2) := by decide +kernel
theorem dX8_fog_130 : decode cX8_fog 130 = .ok (.imul, 1) := by decide +kernel
theorem dX8_fog_131 : decode cX8_fog 131 = .ok (.istore 11, 2) := by decide +kernel
theorem dX8_fog_133 : decode cX8_fog 133 = .ok (.iinc 12 1, 3) := by decide +kernel
theorem dX8_fog_136 : decode cX8_fog 136 = .ok (.goto (-17), 3) := by decide +kernel
theorem dX8_fog_139 : decode cX8_fog 139 = .ok (.iconst 0, 1) := by decide +kernel
theorem dX8_fog_140 : decode cX8_fog 140 = .ok (.istore 12, 2) := by decide +kernel
theorem dX8_fog_142 : decode cX8_fog 142 = .ok (.iload 12, 2) := by decide +kernel
theorem dX8_fog_144 : decode cX8_fog 144 = .ok (.iconst 1, 1) := by decide +kernel
theorem dX8_fog_145 : decode cX8_fog 145 = .ok (.iload 4, 2) := by decide +kernel
theorem dX8_fog_147 : decode cX8_fog 147 = .ok (.ishl, 1) := by decide +kernel
theorem dX8_fog_148 : decode cX8_fog 148 = .ok (.if_icmp .ge 125, 3) := by decide +kernel
theorem dX8_fog_151 : decode cX8_fog 151 = .ok (.iconst 1, 1) := by decide +kernel
theorem dX8_fog_152 : decode cX8_fog 152 = .ok (.istore 13, 2) := by decide +kernel
theorem dX8_fog_154 : decode cX8_fog 154 = .ok (.aload_n 0, 1) := by decide +kernel
theorem dX8_fog_155 : decode cX8_fog 155 = .ok (.invokevirtual 194, 3) := by decide +kernel
theorem dX8_fog_158 : decode cX8_fog 158 = .ok (.iconst 0, 1) := by decide +kernel
theorem dX8_fog_159 : decode cX8_fog 159 = .ok (.istore 14, 2) := by decide +kernel
theorem dX8_fog_161 : decode cX8_fog 161 = .ok (.iload 14, 2) := by decide +kernel
theorem dX8_fog_163 : decode cX8_fog 163 = .ok (.iload 4, 2) := by decide +kernel
theorem dX8_fog_165 : decode cX8_fog 165 = .ok (.if_icmp .ge 76, 3) := by decide +kernel
theorem dX8_fog_168 : decode cX8_fog 168 = .ok (.iload 13, 2) := by decide +kernel
theorem dX8_fog_170 : decode cX8_fog 170 = .ok (.iload 12, 2) := by decide +kernel
theorem dX8_fog_172 : decode cX8_fog 172 = .ok (.iload 14, 2) := by decide +kernel
theorem dX8_fog_174 : decode cX8_fog 174 = .ok (.invokestatic 174, 3) := by decide +kernel
theorem dX8_fog_177 : decode cX8_fog 177 = .ok (.ifCond .eq 8, 3) := by decide +kernel
theorem dX8_fog_180 : decode cX8_fog 180 = .ok (.iload 6, 2) := by decide +kernel
theorem dX8_fog_182 : decode cX8_fog 182 = .ok (.goto 8, 3) := by decide +kernel
theorem dX8_fog_185 : decode cX8_fog 185 = .ok (.bipush 10, 2) := by decide +kernel
theorem dX8_fog_187 : decode cX8_fog 187 = .ok (.iload 6, 2) := by decide +kernel
theorem dX8_fog_189 : decode cX8_fog 189 = .ok (.isub, 1) := by decide +kernel
theorem dX8_fog_190 : decode cX8_fog 190 = .ok (.imul, 1) := by decide +kernel
theorem dX8_fog_191 : decode cX8_fog 191 = .ok (.istore 13, 2) := by decide +kernel
theorem dX8_fog_193 : decode cX8_fog 193 = .ok (.iload 12, 2) := by decide +kernel
theorem dX8_fog_195 : decode cX8_fog 195 = .ok (.iload 14, 2) := by decide +kernel
theorem dX8_fog_197 : decode cX8_fog 197 = .ok (.invokestatic 174, 3) := by decide +kernel
theorem dX8_fog_200 : decode cX8_fog 200 = .ok (.ifCond .eq 15, 3) := by decide +kernel
theorem dX8_fog_203 : decode cX8_fog 203 = .ok (.aload_n 0, 1) := by decide +kernel
theorem dX8_fog_204 : decode cX8_fog 204 = .ok (.sipush 320, 3) := by decide +kernel
theorem dX8_fog_207 : decode cX8_fog 207 = .ok (.iload_n 1, 1) := by decide +kernel
theorem dX8_fog_208 : decode cX8_fog 208 = .ok (.invokevirtual 142, 3) := by decide +kernel
theorem dX8_fog_211 : decode cX8_fog 211 = .ok (.pop, 1) := by decide +kernel
theorem dX8_fog_212 : decode cX8_fog 212 = .ok (.goto 23, 3) := by decide +kernel
theorem dX8_fog_215 : decode cX8_fog 215 = .ok (.aload_n 0, 1) := by decide +kernel
theorem dX8_fog_216 : decode cX8_fog 216 = .ok (.sipush 320, 3) := by decide +kernel
theorem dX8_fog_219 : decode cX8_fog 219 = .ok (.iload_n 1, 1) := by decide +kernel
theorem dX8_fog_220 : decode cX8_fog 220 = .ok (.iload_n 2, 1) := by decide +kernel
theorem dX8_fog_221 : decode cX8_fog 221 = .ok (.aload_n 0, 1) := by decide +kernel
theorem dX8_fog_222 : decode cX8_fog 222 = .ok (.getfield 16, 3) := by decide +kernel
theorem dX8_fog_225 : decode cX8_fog 225 = .ok (.iload 9, 2) := by decide +kernel
theorem dX8_fog_227 : decode cX8_fog 227 = .ok (.iload 14, 2) := by decide +kernel
theorem dX8_fog_229 : decode cX8_fog 229 = .ok (.iadd, 1) := by decide +kernel
theorem dX8_fog_230 : decode cX8_fog 230 = .ok (.laload, 1) := by decide +kernel
theorem dX8_fog_231 : decode cX8_fog 231 = .ok (.l2i, 1) := by decide +kernel
theorem dX8_fog_232 : decode cX8_fog 232 = .ok (.invokevirtual 157, 3) := by decide +kernel
theorem dX8_fog_235 : decode cX8_fog 235 = .ok (.iinc 14 1, 3) := by decide +kernel
theorem dX8_fog_238 : decode cX8_fog 238 = .ok (.goto (-77), 3) := by decide +kernel
theorem dX8_fog_241 : decode cX8_fog 241 = .ok (.iload 10, 2) := by decide +kernel
theorem dX8_fog_243 : decode cX8_fog 243 = .ok (.aload_n 0, 1) := by decide +kernel
theorem dX8_fog_244 : decode cX8_fog 244 = .ok (.getfield 7, 3) := by decide +kernel
theorem dX8_fog_247 : decode cX8_fog 247 = .ok (.sipush 378, 3) := by decide +kernel
theorem dX8_fog_250 : decode cX8_fog 250 = .ok (.iload_n 1, 1) := by decide +kernel
theorem dX8_fog_251 : decode cX8_fog 251 = .ok (.iadd, 1) := by decide +kernel
theorem dX8_fog_252 : decode cX8_fog 252 = .ok (.iaload, 1) := by decide +kernel
theorem dX8_fog_253 : decode cX8_fog 253 = .ok (.iload 5, 2) := by decide +kernel
theorem dX8_fog_255 : decode cX8_fog 255 = .ok (.if_icmp .ne 8, 3) := by decide +kernel
theorem dX8_fog_258 : decode cX8_fog 258 = .ok (.iload 13, 2) := by decide +kernel
theorem dX8_fog_260 : decode cX8_fog 260 = .ok (.goto 4, 3) := by decide +kernel
theorem dX8_fog_263 : decode cX8_fog 263 = .ok (.iconst 0, 1) := by decide +kernel
theorem dX8_fog_264 : decode cX8_fog 264 = .ok (.iadd, 1) := by decide +kernel
theorem dX8_fog_265 : decode cX8_fog 265 = .ok (.istore 10, 2) := by decide +kernel
theorem dX8_fog_267 : decode cX8_fog 267 = .ok (.iinc 12 1, 3) := by decide +kernel
theorem dX8_fog_270 : decode cX8_fog 270 = .ok (.goto (-128), 3) := by decide +kernel
theorem dX8_fog_273 : decode cX8_fog 273 = .ok (.iload 10, 2) := by decide +kernel
theorem dX8_fog_275 : decode cX8_fog 275 = .ok (.istore 12, 2) := by decide +kernel
theorem dX8_fog_277 : decode cX8_fog 277 = .ok (.iload 11, 2) := by decide +kernel
theorem dX8_fog_279 : decode cX8_fog 279 = .ok (.istore 13, 2) := by decide +kernel
theorem dX8_fog_281 : decode cX8_fog 281 = .ok (.iload 13, 2) := by decide +kernel
theorem dX8_fog_283 : decode cX8_fog 283 = .ok (.ifCond .eq 21, 3) := by decide +kernel
theorem dX8_fog_286 : decode cX8_fog 286 = .ok (.iload 12, 2) := by decide +kernel
theorem dX8_fog_288 : decode cX8_fog 288 = .ok (.iload 13, 2) := by decide +kernel
theorem dX8_fog_290 : decode cX8_fog 290 = .ok (.irem, 1) := by decide +kernel
theorem dX8_fog_291 : decode cX8_fog 291 = .ok (.istore 14, 2) := by decide +kernel
theorem dX8_fog_293 : decode cX8_fog 293 = .ok (.iload 13, 2) := by decide +kernel
theorem dX8_fog_295 : decode cX8_fog 295 = .ok (.istore 12, 2) := by decide +kernel
theorem dX8_fog_297 : decode cX8_fog 297 = .ok (.iload 14, 2) := by decide +kernel
theorem dX8_fog_299 : decode cX8_fog 299 = .ok (.istore 13, 2) := by decide +kernel
theorem dX8_fog_301 : decode cX8_fog 301 = .ok (.goto (-20), 3) := by decide +kernel
theorem dX8_fog_304 : decode cX8_fog 304 = .ok (.iload 7, 2) := by decide +kernel
theorem dX8_fog_306 : decode cX8_fog 306 = .ok (.ifCond .ne 11, 3) := by decide +kernel
theorem dX8_fog_309 : decode cX8_fog 309 = .ok (.iload 10, 2) := by decide +kernel
theorem dX8_fog_311 : decode cX8_fog 311 = .ok (.iload 12, 2) := by decide +kernel
theorem dX8_fog_313 : decode cX8_fog 313 = .ok (.idiv, 1) := by decide +kernel
theorem dX8_fog_314 : decode cX8_fog 314 = .ok (.goto 8, 3) := by decide +kernel
theorem dX8_fog_317 : decode cX8_fog 317 = .ok (.iload 11, 2) := by decide +kernel
theorem dX8_fog_319 : decode cX8_fog 319 = .ok (.iload 12, 2) := by decide +kernel
theorem dX8_fog_321 : decode cX8_fog 321 = .ok (.idiv, 1) := by decide +kernel
theorem dX8_fog_322 : decode cX8_fog 322 = .ok (.ireturn, 1) := by decide +kernel
theorem dX8_harbours_0 : decode cX8_harbours 0 = .ok (.iconst 0, 1) := by decide +kernel
theorem dX8_harbours_1 : decode cX8_harbours 1 = .ok (.istore_n 1, 1) := by decide +kernel
theorem dX8_harbours_2 : decode cX8_harbours 2 = .ok (.iconst 0, 1) := by decide +kernel
theorem dX8_harbours_3 : decode cX8_harbours 3 = .ok (.istore_n 2, 1) := by decide +kernel
theorem dX8_harbours_4 : decode cX8_harbours 4 = .ok (.iload_n 2, 1) := by decide +kernel
theorem dX8_harbours_5 : decode cX8_harbours 5 = .ok (.bipush 48, 2) := by decide +kernel
theorem dX8_harbours_7 : decode cX8_harbours 7 = .ok (.if_icmp .ge 37, 3) := by decide +kernel
theorem dX8_harbours_10 : decode cX8_harbours 10 = .ok (.iload_n 1, 1) := by decide +kernel
theorem dX8_harbours_11 : decode cX8_harbours 11 = .ok (.aload_n 0, 1) := by decide +kernel
theorem dX8_harbours_12 : decode cX8_harbours 12 = .ok (.iload_n 2, 1) := by decide +kernel
theorem dX8_harbours_13 : decode cX8_harbours 13 = .ok (.invokevirtual 112, 3) := by decide +kernel
theorem dX8_harbours_16 : decode cX8_harbours 16 = .ok (.ifCond .eq 19, 3) := by decide +kernel
theorem dX8_harbours_19 : decode cX8_harbours 19 = .ok (.aload_n 0, 1) := by decide +kernel
theorem dX8_harbours_20 : decode cX8_harbours 20 = .ok (.getfield 7, 3) := by decide +kernel
theorem dX8_harbours_23 : decode cX8_harbours 23 = .ok (.iconst 3, 1) := by decide +kernel
theorem dX8_harbours_24 : decode cX8_harbours 24 = .ok (.iload_n 2, 1) := by decide +kernel
theorem dX8_harbours_25 : decode cX8_harbours 25 = .ok (.iadd, 1) := by decide +kernel
theorem dX8_harbours_26 : decode cX8_harbours 26 = .ok (.iaload, 1) := by decide +kernel
theorem dX8_harbours_27 : decode cX8_harbours 27 = .ok (.iconst 2, 1) := by decide +kernel
theorem dX8_harbours_28 : decode cX8_harbours 28 = .ok (.if_icmp .ne 7, 3) := by decide +kernel
theorem dX8_harbours_31 : decode cX8_harbours 31 = .ok (.iconst 1, 1) := by decide +kernel
theorem dX8_harbours_32 : decode cX8_harbours 32 = .ok (.goto 4, 3) := by decide +kernel
theorem dX8_harbours_35 : decode cX8_harbours 35 = .ok (.iconst 0, 1) := by decide +kernel
theorem dX8_harbours_36 : decode cX8_harbours 36 = .ok (.iadd, 1) := by decide +kernel
theorem dX8_harbours_37 : decode cX8_harbours 37 = .ok (.istore_n 1, 1) := by decide +kernel
theorem dX8_harbours_38 : decode cX8_harbours 38 = .ok (.iinc 2 1, 3) := by decide +kernel
theorem dX8_harbours_41 : decode cX8_harbours 41 = .ok (.goto (-37), 3) := by decide +kernel
theorem dX8_harbours_44 : decode cX8_harbours 44 = .ok (.iload_n 1, 1) := by decide +kernel
theorem dX8_harbours_45 : decode cX8_harbours 45 = .ok (.ireturn, 1) := by decide +kernel
theorem dX8_inHarbour_0 : decode cX8_inHarbour 0 = .ok (.iconst 0, 1) := by decide +kernel
theorem dX8_inHarbour_1 : decode cX8_inHarbour 1 = .ok (.istore_n 1, 1) := by decide +kernel
theorem dX8_inHarbour_2 : decode cX8_inHarbour 2 = .ok (.iconst 0, 1) := by decide +kernel
theorem dX8_inHarbour_3 : decode cX8_inHarbour 3 = .ok (.istore_n 2, 1) := by decide +kernel
theorem dX8_inHarbour_4 : decode cX8_inHarbour 4 = .ok (.iload_n 2, 1) := by decide +kernel
theorem dX8_inHarbour_5 : decode cX8_inHarbour 5 = .ok (.aload_n 0, 1) := by decide +kernel
theorem dX8_inHarbour_6 : decode cX8_inHarbour 6 = .ok (.getfield 7, 3) := by decide +kernel
theorem dX8_inHarbour_9 : decode cX8_inHarbour 9 = .ok (.iconst 0, 1) := by decide +kernel
theorem dX8_inHarbour_10 : decode cX8_inHarbour 10 = .ok (.iaload, 1) := by decide +kernel
theorem dX8_inHarbour_11 : decode cX8_inHarbour 11 = .ok (.if_icmp .ge 39, 3) := by decide +kernel
theorem dX8_inHarbour_14 : decode cX8_inHarbour 14 = .ok (.iload_n 1, 1) := by decide +kernel
theorem dX8_inHarbour_15 : decode cX8_inHarbour 15 = .ok (.aload_n 0, 1) := by decide +kernel
theorem dX8_inHarbour_16 : decode cX8_inHarbour 16 = .ok (.getfield 7, 3) := by decide +kernel
theorem dX8_inHarbour_19 : decode cX8_inHarbour 19 = .ok (.iconst 3, 1) := by decide +kernel
theorem dX8_inHarbour_20 : decode cX8_inHarbour 20 = .ok (.aload_n 0, 1) := by decide +kernel
theorem dX8_inHarbour_21 : decode cX8_inHarbour 21 = .ok (.getfield 7, 3) := by decide +kernel
theorem dX8_inHarbour_24 : decode cX8_inHarbour 24 = .ok (.bipush 58, 2) := by decide +kernel
theorem dX8_inHarbour_26 : decode cX8_inHarbour 26 = .ok (.iload_n 2, 1) := by decide +kernel
theorem dX8_inHarbour_27 : decode cX8_inHarbour 27 = .ok (.iadd, 1) := by decide +kernel
theorem dX8_inHarbour_28 : decode cX8_inHarbour 28 = .ok (.iaload, 1) := by decide +kernel
theorem dX8_inHarbour_29 : decode cX8_inHarbour 29 = .ok (.iadd, 1) := by decide +kernel
theorem dX8_inHarbour_30 : decode cX8_inHarbour 30 = .ok (.iaload, 1) := by decide +kernel
theorem dX8_inHarbour_31 : decode cX8_inHarbour 31 = .ok (.iconst 2, 1) := by decide +kernel
theorem dX8_inHarbour_32 : decode cX8_inHarbour 32 = .ok (.if_icmp .ne 9, 3) := by decide +kernel
theorem dX8_inHarbour_35 : decode cX8_inHarbour 35 = .ok (.iconst 1, 1) := by decide +kernel
theorem dX8_inHarbour_36 : decode cX8_inHarbour 36 = .ok (.iload_n 2, 1) := by decide +kernel
theorem dX8_inHarbour_37 : decode cX8_inHarbour 37 = .ok (.ishl, 1) := by decide +kernel
theorem dX8_inHarbour_38 : decode cX8_inHarbour 38 = .ok (.goto 4, 3) := by decide +kernel
theorem dX8_inHarbour_41 : decode cX8_inHarbour 41 = .ok (.iconst 0, 1) := by decide +kernel
theorem dX8_inHarbour_42 : decode cX8_inHarbour 42 = .ok (.ior, 1) := by decide +kernel
theorem dX8_inHarbour_43 : decode cX8_inHarbour 43 = .ok (.istore_n 1, 1) := by decide +kernel
theorem dX8_inHarbour_44 : decode cX8_inHarbour 44 = .ok (.iinc 2 1, 3) := by decide +kernel
theorem dX8_inHarbour_47 : decode cX8_inHarbour 47 = .ok (.goto (-43), 3) := by decide +kernel
theorem dX8_inHarbour_50 : decode cX8_inHarbour 50 = .ok (.iload_n 1, 1) := by decide +kernel
theorem dX8_inHarbour_51 : decode cX8_inHarbour 51 = .ok (.ireturn, 1) := by decide +kernel
theorem dX8_count_0 : decode cX8_count 0 = .ok (.iload_n 1, 1) := by decide +kernel
theorem dX8_count_1 : decode cX8_count 1 = .ok (.tableswitch 116 0 9 #[55, 62, 69, 76, 84, 90, 96, 101, 106, 111], 55) := by decide +kernel
theorem dX8_count_56 : decode cX8_count 56 = .ok (.aload_n 0, 1) := by decide +kernel
theorem dX8_count_57 : decode cX8_count 57 = .ok (.getfield 7, 3) := by decide +kernel
theorem dX8_count_60 : decode cX8_count 60 = .ok (.iconst 0, 1) := by decide +kernel
theorem dX8_count_61 : decode cX8_count 61 = .ok (.iaload, 1) := by decide +kernel
theorem dX8_count_62 : decode cX8_count 62 = .ok (.ireturn, 1) := by decide +kernel
theorem dX8_count_63 : decode cX8_count 63 = .ok (.aload_n 0, 1) := by decide +kernel
theorem dX8_count_64 : decode cX8_count 64 = .ok (.getfield 7, 3) := by decide +kernel
theorem dX8_count_67 : decode cX8_count 67 = .ok (.iconst 2, 1) := by decide +kernel
theorem dX8_count_68 : decode cX8_count 68 = .ok (.iaload, 1) := by decide +kernel
theorem dX8_count_69 : decode cX8_count 69 = .ok (.ireturn, 1) := by decide +kernel
theorem dX8_count_70 : decode cX8_count 70 = .ok (.aload_n 0, 1) := by decide +kernel
theorem dX8_count_71 : decode cX8_count 71 = .ok (.getfield 7, 3) := by decide +kernel
theorem dX8_count_74 : decode cX8_count 74 = .ok (.iconst 1, 1) := by decide +kernel
theorem dX8_count_75 : decode cX8_count 75 = .ok (.iaload, 1) := by decide +kernel
theorem dX8_count_76 : decode cX8_count 76 = .ok (.ireturn, 1) := by decide +kernel
theorem dX8_count_77 : decode cX8_count 77 = .ok (.aload_n 0, 1) := by decide +kernel
theorem dX8_count_78 : decode cX8_count 78 = .ok (.getfield 7, 3) := by decide +kernel
theorem dX8_count_81 : decode cX8_count 81 = .ok (.bipush 57, 2) := by decide +kernel
theorem dX8_count_83 : decode cX8_count 83 = .ok (.iaload, 1) := by decide +kernel
theorem dX8_count_84 : decode cX8_count 84 = .ok (.ireturn, 1) := by decide +kernel
theorem dX8_count_85 : decode cX8_count 85 = .ok (.aload_n 0, 1) := by decide +kernel
theorem dX8_count_86 : decode cX8_count 86 = .ok (.iconst 0, 1) := by decide +kernel
theorem dX8_count_87 : decode cX8_count 87 = .ok (.invokevirtual 215, 3) := by decide +kernel
theorem dX8_count_90 : decode cX8_count 90 = .ok (.ireturn, 1) := by decide +kernel
theorem dX8_count_91 : decode cX8_count 91 = .ok (.aload_n 0, 1) := by decide +kernel
theorem dX8_count_92 : decode cX8_count 92 = .ok (.iconst 0, 1) := by decide +kernel
theorem dX8_count_93 : decode cX8_count 93 = .ok (.invokevirtual 218, 3) := by decide +kernel
theorem dX8_count_96 : decode cX8_count 96 = .ok (.ireturn, 1) := by decide +kernel
theorem dX8_count_97 : decode cX8_count 97 = .ok (.aload_n 0, 1) := by decide +kernel
theorem dX8_count_98 : decode cX8_count 98 = .ok (.invokevirtual 254, 3) := by decide +kernel
theorem dX8_count_101 : decode cX8_count 101 = .ok (.ireturn, 1) := by decide +kernel
theorem dX8_count_102 : decode cX8_count 102 = .ok (.aload_n 0, 1) := by decide +kernel
theorem dX8_count_103 : decode cX8_count 103 = .ok (.invokevirtual 257, 3) := by decide +kernel
theorem dX8_count_106 : decode cX8_count 106 = .ok (.ireturn, 1) := by decide +kernel
theorem dX8_count_107 : decode cX8_count 107 = .ok (.aload_n 0, 1) := by decide +kernel
theorem dX8_count_108 : decode cX8_count 108 = .ok (.getfield 100, 3) := by decide +kernel
theorem dX8_count_111 : decode cX8_count 111 = .ok (.ireturn, 1) := by decide +kernel
theorem dX8_count_112 : decode cX8_count 112 = .ok (.aload_n 0, 1) := by decide +kernel
theorem dX8_count_113 : decode cX8_count 113 = .ok (.getfield 56, 3) := by decide +kernel
theorem dX8_count_116 : decode cX8_count 116 = .ok (.ireturn, 1) := by decide +kernel
theorem dX8_count_117 : decode cX8_count 117 = .ok (.iconst (-1), 1) := by decide +kernel
theorem dX8_count_118 : decode cX8_count 118 = .ok (.ireturn, 1) := by decide +kernel
