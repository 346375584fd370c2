theorem dX7_init_0 : decode cX7_init 0 = .ok (.aload_n 0, 1) := by decide +kernel
theorem dX7_init_1 : decode cX7_init 1 = .ok (.invokespecial 1, 3) := by decide +kernel
theorem dX7_init_4 : decode cX7_init 4 = .ok (.aload_n 0, 1) := by decide +kernel
theorem dX7_init_5 : decode cX7_init 5 = .ok (.new 7, 3) := by decide +kernel
theorem dX7_init_8 : decode cX7_init 8 = .ok (.dup, 1) := by decide +kernel
theorem dX7_init_9 : decode cX7_init 9 = .ok (.invokespecial 9, 3) := by decide +kernel
theorem dX7_init_12 : decode cX7_init 12 = .ok (.putfield 10, 3) := by decide +kernel
theorem dX7_init_15 : decode cX7_init 15 = .ok (.aload_n 0, 1) := by decide +kernel
theorem dX7_init_16 : decode cX7_init 16 = .ok (.new 16, 3) := by decide +kernel
theorem dX7_init_19 : decode cX7_init 19 = .ok (.dup, 1) := by decide +kernel
theorem dX7_init_20 : decode cX7_init 20 = .ok (.invokespecial 18, 3) := by decide +kernel
theorem dX7_init_23 : decode cX7_init 23 = .ok (.putfield 19, 3) := by decide +kernel
theorem dX7_init_26 : decode cX7_init 26 = .ok (.aload_n 0, 1) := by decide +kernel
theorem dX7_init_27 : decode cX7_init 27 = .ok (.new 16, 3) := by decide +kernel
theorem dX7_init_30 : decode cX7_init 30 = .ok (.dup, 1) := by decide +kernel
theorem dX7_init_31 : decode cX7_init 31 = .ok (.invokespecial 18, 3) := by decide +kernel
theorem dX7_init_34 : decode cX7_init 34 = .ok (.putfield 23, 3) := by decide +kernel
theorem dX7_init_37 : decode cX7_init 37 = .ok (.aload_n 0, 1) := by decide +kernel
theorem dX7_init_38 : decode cX7_init 38 = .ok (.iconst 2, 1) := by decide +kernel
theorem dX7_init_39 : decode cX7_init 39 = .ok (.anewarray 16, 3) := by decide +kernel
theorem dX7_init_42 : decode cX7_init 42 = .ok (.putfield 26, 3) := by decide +kernel
theorem dX7_init_45 : decode cX7_init 45 = .ok (.aload_n 0, 1) := by decide +kernel
theorem dX7_init_46 : decode cX7_init 46 = .ok (.new 30, 3) := by decide +kernel
theorem dX7_init_49 : decode cX7_init 49 = .ok (.dup, 1) := by decide +kernel
theorem dX7_init_50 : decode cX7_init 50 = .ok (.aload_n 0, 1) := by decide +kernel
theorem dX7_init_51 : decode cX7_init 51 = .ok (.getfield 19, 3) := by decide +kernel
theorem dX7_init_54 : decode cX7_init 54 = .ok (.getfield 32, 3) := by decide +kernel
theorem dX7_init_57 : decode cX7_init 57 = .ok (.invokespecial 36, 3) := by decide +kernel
theorem dX7_init_60 : decode cX7_init 60 = .ok (.putfield 39, 3) := by decide +kernel
theorem dX7_init_63 : decode cX7_init 63 = .ok (.aload_n 0, 1) := by decide +kernel
theorem dX7_init_64 : decode cX7_init 64 = .ok (.bipush 7, 2) := by decide +kernel
theorem dX7_init_66 : decode cX7_init 66 = .ok (.anewarray 43, 3) := by decide +kernel
theorem dX7_init_69 : decode cX7_init 69 = .ok (.putfield 45, 3) := by decide +kernel
theorem dX7_init_72 : decode cX7_init 72 = .ok (.aload_n 0, 1) := by decide +kernel
theorem dX7_init_73 : decode cX7_init 73 = .ok (.new 49, 3) := by decide +kernel
theorem dX7_init_76 : decode cX7_init 76 = .ok (.dup, 1) := by decide +kernel
theorem dX7_init_77 : decode cX7_init 77 = .ok (.aload_n 0, 1) := by decide +kernel
theorem dX7_init_78 : decode cX7_init 78 = .ok (.getfield 19, 3) := by decide +kernel
theorem dX7_init_81 : decode cX7_init 81 = .ok (.getfield 32, 3) := by decide +kernel
theorem dX7_init_84 : decode cX7_init 84 = .ok (.invokespecial 51, 3) := by decide +kernel
theorem dX7_init_87 : decode cX7_init 87 = .ok (.putfield 52, 3) := by decide +kernel
theorem dX7_init_90 : decode cX7_init 90 = .ok (.aload_n 0, 1) := by decide +kernel
theorem dX7_init_91 : decode cX7_init 91 = .ok (.iconst 4, 1) := by decide +kernel
theorem dX7_init_92 : decode cX7_init 92 = .ok (.anewarray 56, 3) := by decide +kernel
theorem dX7_init_95 : decode cX7_init 95 = .ok (.putfield 58, 3) := by decide +kernel
theorem dX7_init_98 : decode cX7_init 98 = .ok (.aload_n 0, 1) := by decide +kernel
theorem dX7_init_99 : decode cX7_init 99 = .ok (.bipush 6, 2) := by decide +kernel
theorem dX7_init_101 : decode cX7_init 101 = .ok (.newarray .int, 2) := by decide +kernel
theorem dX7_init_103 : decode cX7_init 103 = .ok (.putfield 62, 3) := by decide +kernel
theorem dX7_init_106 : decode cX7_init 106 = .ok (.iconst 0, 1) := by decide +kernel
theorem dX7_init_107 : decode cX7_init 107 = .ok (.istore_n 1, 1) := by decide +kernel
theorem dX7_init_108 : decode cX7_init 108 = .ok (.iload_n 1, 1) := by decide +kernel
theorem dX7_init_109 : decode cX7_init 109 = .ok (.iconst 2, 1) := by decide +kernel
theorem dX7_init_110 : decode cX7_init 110 = .ok (.if_icmp .ge 22, 3) := by decide +kernel
theorem dX7_init_113 : decode cX7_init 113 = .ok (.aload_n 0, 1) := by decide +kernel
theorem dX7_init_114 : decode cX7_init 114 = .ok (.getfield 26, 3) := by decide +kernel
theorem dX7_init_117 : decode cX7_init 117 = .ok (.iload_n 1, 1) := by decide +kernel
theorem dX7_init_118 : decode cX7_init 118 = .ok (.new 16, 3) := by decide +kernel
theorem dX7_init_121 : decode cX7_init 121 = .ok (.dup, 1) := by decide +kernel
theorem dX7_init_122 : decode cX7_init 122 = .ok (.invokespecial 18, 3) := by decide +kernel
theorem dX7_init_125 : decode cX7_init 125 = .ok (.aastore, 1) := by decide +kernel
theorem dX7_init_126 : decode cX7_init 126 = .ok (.iinc 1 1, 3) := by decide +kernel
theorem dX7_init_129 : decode cX7_init 129 = .ok (.goto (-21), 3) := by decide +kernel
theorem dX7_init_132 : decode cX7_init 132 = .ok (.iconst 0, 1) := by decide +kernel
theorem dX7_init_133 : decode cX7_init 133 = .ok (.istore_n 1, 1) := by decide +kernel
theorem dX7_init_134 : decode cX7_init 134 = .ok (.iload_n 1, 1) := by decide +kernel
theorem dX7_init_135 : decode cX7_init 135 = .ok (.aload_n 0, 1) := by decide +kernel
theorem dX7_init_136 : decode cX7_init 136 = .ok (.getfield 45, 3) := by decide +kernel
theorem dX7_init_139 : decode cX7_init 139 = .ok (.arraylength, 1) := by decide +kernel
theorem dX7_init_140 : decode cX7_init 140 = .ok (.if_icmp .ge 29, 3) := by decide +kernel
theorem dX7_init_143 : decode cX7_init 143 = .ok (.aload_n 0, 1) := by decide +kernel
theorem dX7_init_144 : decode cX7_init 144 = .ok (.getfield 45, 3) := by decide +kernel
theorem dX7_init_147 : decode cX7_init 147 = .ok (.iload_n 1, 1) := by decide +kernel
theorem dX7_init_148 : decode cX7_init 148 = .ok (.new 43, 3) := by decide +kernel
theorem dX7_init_151 : decode cX7_init 151 = .ok (.dup, 1) := by decide +kernel
theorem dX7_init_152 : decode cX7_init 152 = .ok (.aload_n 0, 1) := by decide +kernel
theorem dX7_init_153 : decode cX7_init 153 = .ok (.getfield 19, 3) := by decide +kernel
theorem dX7_init_156 : decode cX7_init 156 = .ok (.getfield 32, 3) := by decide +kernel
theorem dX7_init_159 : decode cX7_init 159 = .ok (.invokespecial 66, 3) := by decide +kernel
theorem dX7_init_162 : decode cX7_init 162 = .ok (.aastore, 1) := by decide +kernel
theorem dX7_init_163 : decode cX7_init 163 = .ok (.iinc 1 1, 3) := by decide +kernel
theorem dX7_init_166 : decode cX7_init 166 = .ok (.goto (-32), 3) := by decide +kernel
theorem dX7_init_169 : decode cX7_init 169 = .ok (.iconst 0, 1) := by decide +kernel
theorem dX7_init_170 : decode cX7_init 170 = .ok (.istore_n 1, 1) := by decide +kernel
theorem dX7_init_171 : decode cX7_init 171 = .ok (.iload_n 1, 1) := by decide +kernel
theorem dX7_init_172 : decode cX7_init 172 = .ok (.iconst 4, 1) := by decide +kernel
theorem dX7_init_173 : decode cX7_init 173 = .ok (.if_icmp .ge 22, 3) := by decide +kernel
theorem dX7_init_176 : decode cX7_init 176 = .ok (.aload_n 0, 1) := by decide +kernel
theorem dX7_init_177 : decode cX7_init 177 = .ok (.getfield 58, 3) := by decide +kernel
theorem dX7_init_180 : decode cX7_init 180 = .ok (.iload_n 1, 1) := by decide +kernel
theorem dX7_init_181 : decode cX7_init 181 = .ok (.new 56, 3) := by decide +kernel
theorem dX7_init_184 : decode cX7_init 184 = .ok (.dup, 1) := by decide +kernel
theorem dX7_init_185 : decode cX7_init 185 = .ok (.invokespecial 67, 3) := by decide +kernel
theorem dX7_init_188 : decode cX7_init 188 = .ok (.aastore, 1) := by decide +kernel
theorem dX7_init_189 : decode cX7_init 189 = .ok (.iinc 1 1, 3) := by decide +kernel
theorem dX7_init_192 : decode cX7_init 192 = .ok (.goto (-21), 3) := by decide +kernel
theorem dX7_init_195 : decode cX7_init 195 = .ok (.return_, 1) := by decide +kernel
theorem dX7_feed_0 : decode cX7_feed 0 = .ok (.iload_n 1, 1) := by decide +kernel
theorem dX7_feed_1 : decode cX7_feed 1 = .ok (.ifCond .lt 10, 3) := by decide +kernel
theorem dX7_feed_4 : decode cX7_feed 4 = .ok (.iload_n 1, 1) := by decide +kernel
theorem dX7_feed_5 : decode cX7_feed 5 = .ok (.sipush 255, 3) := by decide +kernel
theorem dX7_feed_8 : decode cX7_feed 8 = .ok (.if_icmp .le 5, 3) := by decide +kernel
theorem dX7_feed_11 : decode cX7_feed 11 = .ok (.iconst (-1), 1) := by decide +kernel
theorem dX7_feed_12 : decode cX7_feed 12 = .ok (.ireturn, 1) := by decide +kernel
theorem dX7_feed_13 : decode cX7_feed 13 = .ok (.aload_n 0, 1) := by decide +kernel
theorem dX7_feed_14 : decode cX7_feed 14 = .ok (.getfield 10, 3) := by decide +kernel
theorem dX7_feed_17 : decode cX7_feed 17 = .ok (.iload_n 1, 1) := by decide +kernel
theorem dX7_feed_18 : decode cX7_feed 18 = .ok (.invokevirtual 68, 3) := by decide +kernel
theorem dX7_feed_21 : decode cX7_feed 21 = .ok (.ifCond .eq 13, 3) := by decide +kernel
theorem dX7_feed_24 : decode cX7_feed 24 = .ok (.aload_n 0, 1) := by decide +kernel
theorem dX7_feed_25 : decode cX7_feed 25 = .ok (.getfield 10, 3) := by decide +kernel
theorem dX7_feed_28 : decode cX7_feed 28 = .ok (.getfield 72, 3) := by decide +kernel
theorem dX7_feed_31 : decode cX7_feed 31 = .ok (.goto 5, 3) := by decide +kernel
theorem dX7_feed_34 : decode cX7_feed 34 = .ok (.bipush (-3), 2) := by decide +kernel
theorem dX7_feed_36 : decode cX7_feed 36 = .ok (.ireturn, 1) := by decide +kernel
theorem dX7_fleet_0 : decode cX7_fleet 0 = .ok (.aload_n 0, 1) := by decide +kernel
theorem dX7_fleet_1 : decode cX7_fleet 1 = .ok (.getfield 10, 3) := by decide +kernel
theorem dX7_fleet_4 : decode cX7_fleet 4 = .ok (.aload_n 0, 1) := by decide +kernel
theorem dX7_fleet_5 : decode cX7_fleet 5 = .ok (.getfield 23, 3) := by decide +kernel
theorem dX7_fleet_8 : decode cX7_fleet 8 = .ok (.invokevirtual 76, 3) := by decide +kernel
theorem dX7_fleet_11 : decode cX7_fleet 11 = .ok (.istore_n 1, 1) := by decide +kernel
theorem dX7_fleet_12 : decode cX7_fleet 12 = .ok (.aload_n 0, 1) := by decide +kernel
theorem dX7_fleet_13 : decode cX7_fleet 13 = .ok (.getfield 10, 3) := by decide +kernel
theorem dX7_fleet_16 : decode cX7_fleet 16 = .ok (.iconst 0, 1) := by decide +kernel
theorem dX7_fleet_17 : decode cX7_fleet 17 = .ok (.putfield 72, 3) := by decide +kernel
theorem dX7_fleet_20 : decode cX7_fleet 20 = .ok (.iload_n 1, 1) := by decide +kernel
theorem dX7_fleet_21 : decode cX7_fleet 21 = .ok (.ifCond .ne 14, 3) := by decide +kernel
theorem dX7_fleet_24 : decode cX7_fleet 24 = .ok (.bipush (-100), 2) := by decide +kernel
theorem dX7_fleet_26 : decode cX7_fleet 26 = .ok (.aload_n 0, 1) := by decide +kernel
theorem dX7_fleet_27 : decode cX7_fleet 27 = .ok (.getfield 10, 3) := by decide +kernel
theorem dX7_fleet_30 : decode cX7_fleet 30 = .ok (.getfield 80, 3) := by decide +kernel
theorem dX7_fleet_33 : decode cX7_fleet 33 = .ok (.isub, 1) := by decide +kernel
theorem dX7_fleet_34 : decode cX7_fleet 34 = .ok (.ireturn, 1) := by decide +kernel
theorem dX7_fleet_35 : decode cX7_fleet 35 = .ok (.aload_n 0, 1) := by decide +kernel
theorem dX7_fleet_36 : decode cX7_fleet 36 = .ok (.getfield 19, 3) := by decide +kernel
theorem dX7_fleet_39 : decode cX7_fleet 39 = .ok (.aload_n 0, 1) := by decide +kernel
theorem dX7_fleet_40 : decode cX7_fleet 40 = .ok (.getfield 23, 3) := by decide +kernel
theorem dX7_fleet_43 : decode cX7_fleet 43 = .ok (.invokevirtual 83, 3) := by decide +kernel
theorem dX7_fleet_46 : decode cX7_fleet 46 = .ok (.aload_n 0, 1) := by decide +kernel
theorem dX7_fleet_47 : decode cX7_fleet 47 = .ok (.getfield 39, 3) := by decide +kernel
theorem dX7_fleet_50 : decode cX7_fleet 50 = .ok (.invokevirtual 87, 3) := by decide +kernel
theorem dX7_fleet_53 : decode cX7_fleet 53 = .ok (.aload_n 0, 1) := by decide +kernel
theorem dX7_fleet_54 : decode cX7_fleet 54 = .ok (.getfield 19, 3) := by decide +kernel
theorem dX7_fleet_57 : decode cX7_fleet 57 = .ok (.getfield 90, 3) := by decide +kernel
theorem dX7_fleet_60 : decode cX7_fleet 60 = .ok (.ireturn, 1) := by decide +kernel
theorem dX7_ship_0 : decode cX7_ship 0 = .ok (.aload_n 0, 1) := by decide +kernel
theorem dX7_ship_1 : decode cX7_ship 1 = .ok (.getfield 19, 3) := by decide +kernel
theorem dX7_ship_4 : decode cX7_ship 4 = .ok (.iload_n 1, 1) := by decide +kernel
theorem dX7_ship_5 : decode cX7_ship 5 = .ok (.invokevirtual 93, 3) := by decide +kernel
theorem dX7_ship_8 : decode cX7_ship 8 = .ok (.ifCond .ne 5, 3) := by decide +kernel
theorem dX7_ship_11 : decode cX7_ship 11 = .ok (.iconst (-1), 1) := by decide +kernel
theorem dX7_ship_12 : decode cX7_ship 12 = .ok (.ireturn, 1) := by decide +kernel
theorem dX7_ship_13 : decode cX7_ship 13 = .ok (.iload_n 2, 1) := by decide +kernel
theorem dX7_ship_14 : decode cX7_ship 14 = .ok (.tableswitch 70 0 3 #[30, 40, 50, 60], 30) := by decide +kernel
theorem dX7_ship_44 : decode cX7_ship 44 = .ok (.aload_n 0, 1) := by decide +kernel
theorem dX7_ship_45 : decode cX7_ship 45 = .ok (.getfield 19, 3) := by decide +kernel
theorem dX7_ship_48 : decode cX7_ship 48 = .ok (.getfield 96, 3) := by decide +kernel
theorem dX7_ship_51 : decode cX7_ship 51 = .ok (.iload_n 1, 1) := by decide +kernel
theorem dX7_ship_52 : decode cX7_ship 52 = .ok (.iaload, 1) := by decide +kernel
theorem dX7_ship_53 : decode cX7_ship 53 = .ok (.ireturn, 1) := by decide +kernel
theorem dX7_ship_54 : decode cX7_ship 54 = .ok (.aload_n 0, 1) := by decide +kernel
theorem dX7_ship_55 : decode cX7_ship 55 = .ok (.getfield 19, 3) := by decide +kernel
theorem dX7_ship_58 : decode cX7_ship 58 = .ok (.getfield 99, 3) := by decide +kernel
theorem dX7_ship_61 : decode cX7_ship 61 = .ok (.iload_n 1, 1) := by decide +kernel
theorem dX7_ship_62 : decode cX7_ship 62 = .ok (.iaload, 1) := by decide +kernel
theorem dX7_ship_63 : decode cX7_ship 63 = .ok (.ireturn, 1) := by decide +kernel
theorem dX7_ship_64 : decode cX7_ship 64 = .ok (.aload_n 0, 1) := by decide +kernel
theorem dX7_ship_65 : decode cX7_ship 65 = .ok (.getfield 19, 3) := by decide +kernel
theorem dX7_ship_68 : decode cX7_ship 68 = .ok (.getfield 102, 3) := by decide +kernel
theorem dX7_ship_71 : decode cX7_ship 71 = .ok (.iload_n 1, 1) := by decide +kernel
theorem dX7_ship_72 : decode cX7_ship 72 = .ok (.iaload, 1) := by decide +kernel
theorem dX7_ship_73 : decode cX7_ship 73 = .ok (.ireturn, 1) := by decide +kernel
theorem dX7_ship_74 : decode cX7_ship 74 = .ok (.aload_n 0, 1) := by decide +kernel
theorem dX7_ship_75 : decode cX7_ship 75 = .ok (.getfield 19, 3) := by decide +kernel
theorem dX7_ship_78 : decode cX7_ship 78 = .ok (.getfield 105, 3) := by decide +kernel
theorem dX7_ship_81 : decode cX7_ship 81 = .ok (.iload_n 1, 1) := by decide +kernel
theorem dX7_ship_82 : decode cX7_ship 82 = .ok (.iaload, 1) := by decide +kernel
theorem dX7_ship_83 : decode cX7_ship 83 = .ok (.ireturn, 1) := by decide +kernel
theorem dX7_ship_84 : decode cX7_ship 84 = .ok (.iconst (-1), 1) := by decide +kernel
theorem dX7_ship_85 : decode cX7_ship 85 = .ok (.ireturn, 1) := by decide +kernel
theorem dX7_as_0 : decode cX7_as 0 = .ok (.aload_n 0, 1) := by decide +kernel
theorem dX7_as_1 : decode cX7_as 1 = .ok (.getfield 19, 3) := by decide +kernel
theorem dX7_as_4 : decode cX7_as 4 = .ok (.iload_n 1, 1) := by decide +kernel
theorem dX7_as_5 : decode cX7_as 5 = .ok (.invokevirtual 93, 3) := by decide +kernel
theorem dX7_as_8 : decode cX7_as 8 = .ok (.ifCond .eq 13, 3) := by decide +kernel
theorem dX7_as_11 : decode cX7_as 11 = .ok (.iload_n 2, 1) := by decide +kernel
theorem dX7_as_12 : decode cX7_as 12 = .ok (.ifCond .lt 9, 3) := by decide +kernel
theorem dX7_as_15 : decode cX7_as 15 = .ok (.iload_n 2, 1) := by decide +kernel
theorem dX7_as_16 : decode cX7_as 16 = .ok (.bipush 6, 2) := by decide +kernel
theorem dX7_as_18 : decode cX7_as 18 = .ok (.if_icmp .lt 5, 3) := by decide +kernel
theorem dX7_as_21 : decode cX7_as 21 = .ok (.iconst (-1), 1) := by decide +kernel
theorem dX7_as_22 : decode cX7_as 22 = .ok (.ireturn, 1) := by decide +kernel
theorem dX7_as_23 : decode cX7_as 23 = .ok (.aload_n 0, 1) := by decide +kernel
theorem dX7_as_24 : decode cX7_as 24 = .ok (.getfield 19, 3) := by decide +kernel
theorem dX7_as_27 : decode cX7_as 27 = .ok (.getfield 96, 3) := by decide +kernel
theorem dX7_as_30 : decode cX7_as 30 = .ok (.iload_n 1, 1) := by decide +kernel
theorem dX7_as_31 : decode cX7_as 31 = .ok (.iaload, 1) := by decide +kernel
theorem dX7_as_32 : decode cX7_as 32 = .ok (.iload_n 2, 1) := by decide +kernel
theorem dX7_as_33 : decode cX7_as 33 = .ok (.invokestatic 108, 3) := by decide +kernel
theorem dX7_as_36 : decode cX7_as 36 = .ok (.ifCond .eq 7, 3) := by decide +kernel
theorem dX7_as_39 : decode cX7_as 39 = .ok (.iload_n 1, 1) := by decide +kernel
theorem dX7_as_40 : decode cX7_as 40 = .ok (.goto 5, 3) := by decide +kernel
theorem dX7_as_43 : decode cX7_as 43 = .ok (.bipush (-12), 2) := by decide +kernel
theorem dX7_as_45 : decode cX7_as 45 = .ok (.ireturn, 1) := by decide +kernel
theorem dX7_sea_0 : decode cX7_sea 0 = .ok (.aload_n 0, 1) := by decide +kernel
theorem dX7_sea_1 : decode cX7_sea 1 = .ok (.getfield 19, 3) := by decide +kernel
theorem dX7_sea_4 : decode cX7_sea 4 = .ok (.getfield 32, 3) := by decide +kernel
theorem dX7_sea_7 : decode cX7_sea 7 = .ok (.iload_n 1, 1) := by decide +kernel
theorem dX7_sea_8 : decode cX7_sea 8 = .ok (.invokevirtual 112, 3) := by decide +kernel
theorem dX7_sea_11 : decode cX7_sea 11 = .ok (.ifCond .eq 17, 3) := by decide +kernel
theorem dX7_sea_14 : decode cX7_sea 14 = .ok (.aload_n 0, 1) := by decide +kernel
theorem dX7_sea_15 : decode cX7_sea 15 = .ok (.getfield 19, 3) := by decide +kernel
theorem dX7_sea_18 : decode cX7_sea 18 = .ok (.getfield 32, 3) := by decide +kernel
theorem dX7_sea_21 : decode cX7_sea 21 = .ok (.iload_n 1, 1) := by decide +kernel
theorem dX7_sea_22 : decode cX7_sea 22 = .ok (.invokevirtual 117, 3) := by decide +kernel
theorem dX7_sea_25 : decode cX7_sea 25 = .ok (.goto 4, 3) := by decide +kernel
theorem dX7_sea_28 : decode cX7_sea 28 = .ok (.iconst (-1), 1) := by decide +kernel
theorem dX7_sea_29 : decode cX7_sea 29 = .ok (.ireturn, 1) := by decide +kernel
theorem dX7_credit_0 : decode cX7_credit 0 = .ok (.aload_n 0, 1) := by decide +kernel
theorem dX7_credit_1 : decode cX7_credit 1 = .ok (.getfield 19, 3) := by decide +kernel
theorem dX7_credit_4 : decode cX7_credit 4 = .ok (.invokevirtual 121, 3) := by decide +kernel
theorem dX7_credit_7 : decode cX7_credit 7 = .ok (.ifCond .eq 22, 3) := by decide +kernel
theorem dX7_credit_10 : decode cX7_credit 10 = .ok (.iload_n 1, 1) := by decide +kernel
theorem dX7_credit_11 : decode cX7_credit 11 = .ok (.invokestatic 125, 3) := by decide +kernel
theorem dX7_credit_14 : decode cX7_credit 14 = .ok (.ifCond .eq 15, 3) := by decide +kernel
theorem dX7_credit_17 : decode cX7_credit 17 = .ok (.aload_n 0, 1) := by decide +kernel
theorem dX7_credit_18 : decode cX7_credit 18 = .ok (.getfield 19, 3) := by decide +kernel
theorem dX7_credit_21 : decode cX7_credit 21 = .ok (.getfield 128, 3) := by decide +kernel
theorem dX7_credit_24 : decode cX7_credit 24 = .ok (.iload_n 1, 1) := by decide +kernel
theorem dX7_credit_25 : decode cX7_credit 25 = .ok (.iaload, 1) := by decide +kernel
theorem dX7_credit_26 : decode cX7_credit 26 = .ok (.goto 4, 3) := by decide +kernel
theorem dX7_credit_29 : decode cX7_credit 29 = .ok (.iconst (-1), 1) := by decide +kernel
theorem dX7_credit_30 : decode cX7_credit 30 = .ok (.ireturn, 1) := by decide +kernel
theorem dX7_doubt_0 : decode cX7_doubt 0 = .ok (.aload_n 0, 1) := by decide +kernel
theorem dX7_doubt_1 : decode cX7_doubt 1 = .ok (.getfield 19, 3) := by decide +kernel
theorem dX7_doubt_4 : decode cX7_doubt 4 = .ok (.iload_n 1, 1) := by decide +kernel
theorem dX7_doubt_5 : decode cX7_doubt 5 = .ok (.invokevirtual 93, 3) := by decide +kernel
theorem dX7_doubt_8 : decode cX7_doubt 8 = .ok (.ifCond .eq 22, 3) := by decide +kernel
theorem dX7_doubt_11 : decode cX7_doubt 11 = .ok (.iload_n 2, 1) := by decide +kernel
theorem dX7_doubt_12 : decode cX7_doubt 12 = .ok (.invokestatic 125, 3) := by decide +kernel
theorem dX7_doubt_15 : decode cX7_doubt 15 = .ok (.ifCond .eq 15, 3) := by decide +kernel
theorem dX7_doubt_18 : decode cX7_doubt 18 = .ok (.aload_n 0, 1) := by decide +kernel
theorem dX7_doubt_19 : decode cX7_doubt 19 = .ok (.getfield 19, 3) := by decide +kernel
theorem dX7_doubt_22 : decode cX7_doubt 22 = .ok (.iload_n 1, 1) := by decide +kernel
theorem dX7_doubt_23 : decode cX7_doubt 23 = .ok (.iload_n 2, 1) := by decide +kernel
theorem dX7_doubt_24 : decode cX7_doubt 24 = .ok (.invokevirtual 131, 3) := by decide +kernel
theorem dX7_doubt_27 : decode cX7_doubt 27 = .ok (.goto 4, 3) := by decide +kernel
theorem dX7_doubt_30 : decode cX7_doubt 30 = .ok (.iconst (-1), 1) := by decide +kernel
theorem dX7_doubt_31 : decode cX7_doubt 31 = .ok (.ireturn, 1) := by decide +kernel
theorem dX7_say_0 : decode cX7_say 0 = .ok (.aload_n 0, 1) := by decide +kernel
theorem dX7_say_1 : decode cX7_say 1 = .ok (.getfield 19, 3) := by decide +kernel
theorem dX7_say_4 : decode cX7_say 4 = .ok (.iload_n 1, 1) := by decide +kernel
theorem dX7_say_5 : decode cX7_say 5 = .ok (.invokevirtual 93, 3) := by decide +kernel
theorem dX7_say_8 : decode cX7_say 8 = .ok (.ifCond .eq 18, 3) := by decide +kernel
theorem dX7_say_11 : decode cX7_say 11 = .ok (.iload_n 2, 1) := by decide +kernel
theorem dX7_say_12 : decode cX7_say 12 = .ok (.invokestatic 125, 3) := by decide +kernel
theorem dX7_say_15 : decode cX7_say 15 = .ok (.ifCond .eq 11, 3) := by decide +kernel
theorem dX7_say_18 : decode cX7_say 18 = .ok (.iload_n 3, 1) := by decide +kernel
theorem dX7_say_19 : decode cX7_say 19 = .ok (.i2l, 1) := by decide +kernel
theorem dX7_say_20 : decode cX7_say 20 = .ok (.invokestatic 135, 3) := by decide +kernel
theorem dX7_say_23 : decode cX7_say 23 = .ok (.ifCond .ne 5, 3) := by decide +kernel
theorem dX7_say_26 : decode cX7_say 26 = .ok (.iconst (-1), 1) := by decide +kernel
theorem dX7_say_27 : decode cX7_say 27 = .ok (.ireturn, 1) := by decide +kernel
theorem dX7_say_28 : decode cX7_say 28 = .ok (.aload_n 0, 1) := by decide +kernel
theorem dX7_say_29 : decode cX7_say 29 = .ok (.getfield 19, 3) := by decide +kernel
theorem dX7_say_32 : decode cX7_say 32 = .ok (.getfield 139, 3) := by decide +kernel
theorem dX7_say_35 : decode cX7_say 35 = .ok (.sipush 9999, 3) := by decide +kernel
theorem dX7_say_38 : decode cX7_say 38 = .ok (.if_icmp .lt 6, 3) := by decide +kernel
theorem dX7_say_41 : decode cX7_say 41 = .ok (.bipush (-3), 2) := by decide +kernel
theorem dX7_say_43 : decode cX7_say 43 = .ok (.ireturn, 1) := by decide +kernel
theorem dX7_say_44 : decode cX7_say 44 = .ok (.aload_n 0, 1) := by decide +kernel
theorem dX7_say_45 : decode cX7_say 45 = .ok (.iload_n 1, 1) := by decide +kernel
theorem dX7_say_46 : decode cX7_say 46 = .ok (.invokevirtual 142, 3) := by decide +kernel
theorem dX7_say_49 : decode cX7_say 49 = .ok (.astore 4, 2) := by decide +kernel
theorem dX7_say_51 : decode cX7_say 51 = .ok (.aload 4, 2) := by decide +kernel
theorem dX7_say_53 : decode cX7_say 53 = .ok (.iload_n 2, 1) := by decide +kernel
theorem dX7_say_54 : decode cX7_say 54 = .ok (.iload_n 3, 1) := by decide +kernel
theorem dX7_say_55 : decode cX7_say 55 = .ok (.invokevirtual 146, 3) := by decide +kernel
theorem dX7_say_58 : decode cX7_say 58 = .ok (.aload_n 0, 1) := by decide +kernel
theorem dX7_say_59 : decode cX7_say 59 = .ok (.iload_n 1, 1) := by decide +kernel
theorem dX7_say_60 : decode cX7_say 60 = .ok (.aload 4, 2) := by decide +kernel
theorem dX7_say_62 : decode cX7_say 62 = .ok (.invokevirtual 150, 3) := by decide +kernel
theorem dX7_say_65 : decode cX7_say 65 = .ok (.ireturn, 1) := by decide +kernel
theorem dX7_storm_0 : decode cX7_storm 0 = .ok (.aload_n 0, 1) := by decide +kernel
theorem dX7_storm_1 : decode cX7_storm 1 = .ok (.getfield 19, 3) := by decide +kernel
theorem dX7_storm_4 : decode cX7_storm 4 = .ok (.iload_n 1, 1) := by decide +kernel
theorem dX7_storm_5 : decode cX7_storm 5 = .ok (.invokevirtual 93, 3) := by decide +kernel
theorem dX7_storm_8 : decode cX7_storm 8 = .ok (.ifCond .eq 41, 3) := by decide +kernel
theorem dX7_storm_11 : decode cX7_storm 11 = .ok (.iload_n 2, 1) := by decide +kernel
theorem dX7_storm_12 : decode cX7_storm 12 = .ok (.invokestatic 125, 3) := by decide +kernel
theorem dX7_storm_15 : decode cX7_storm 15 = .ok (.ifCond .eq 34, 3) := by decide +kernel
theorem dX7_storm_18 : decode cX7_storm 18 = .ok (.iload_n 3, 1) := by decide +kernel
theorem dX7_storm_19 : decode cX7_storm 19 = .ok (.i2l, 1) := by decide +kernel
theorem dX7_storm_20 : decode cX7_storm 20 = .ok (.invokestatic 135, 3) := by decide +kernel
theorem dX7_storm_23 : decode cX7_storm 23 = .ok (.ifCond .eq 26, 3) := by decide +kernel
theorem dX7_storm_26 : decode cX7_storm 26 = .ok (.iload 4, 2) := by decide +kernel
theorem dX7_storm_28 : decode cX7_storm 28 = .ok (.invokestatic 125, 3) := by decide +kernel
theorem dX7_storm_31 : decode cX7_storm 31 = .ok (.ifCond .eq 18, 3) := by decide +kernel
theorem dX7_storm_34 : decode cX7_storm 34 = .ok (.iload 5, 2) := by decide +kernel
theorem dX7_storm_36 : decode cX7_storm 36 = .ok (.i2l, 1) := by decide +kernel
theorem dX7_storm_37 : decode cX7_storm 37 = .ok (.invokestatic 135, 3) := by decide +kernel
theorem dX7_storm_40 : decode cX7_storm 40 = .ok (.ifCond .eq 9, 3) := by decide +kernel
theorem dX7_storm_43 : decode cX7_storm 43 = .ok (.iload_n 2, 1) := by decide +kernel
theorem dX7_storm_44 : decode cX7_storm 44 = .ok (.iload 4, 2) := by decide +kernel
theorem dX7_storm_46 : decode cX7_storm 46 = .ok (.if_icmp .ne 5, 3) := by decide +kernel
theorem dX7_storm_49 : decode cX7_storm 49 = .ok (.iconst (-1), 1) := by decide +kernel
theorem dX7_storm_50 : decode cX7_storm 50 = .ok (.ireturn, 1) := by decide +kernel
theorem dX7_storm_51 : decode cX7_storm 51 = .ok (.aload_n 0, 1) := by decide +kernel
theorem dX7_storm_52 : decode cX7_storm 52 = .ok (.getfield 19, 3) := by decide +kernel
theorem dX7_storm_55 : decode cX7_storm 55 = .ok (.getfield 139, 3) := by decide +kernel
theorem dX7_storm_58 : decode cX7_storm 58 = .ok (.sipush 9999, 3) := by decide +kernel
theorem dX7_storm_61 : decode cX7_storm 61 = .ok (.if_icmp .lt 6, 3) := by decide +kernel
theorem dX7_storm_64 : decode cX7_storm 64 = .ok (.bipush (-3), 2) := by decide +kernel
theorem dX7_storm_66 : decode cX7_storm 66 = .ok (.ireturn, 1) := by decide +kernel
theorem dX7_storm_67 : decode cX7_storm 67 = .ok (.aload_n 0, 1) := by decide +kernel
theorem dX7_storm_68 : decode cX7_storm 68 = .ok (.iload_n 1, 1) := by decide +kernel
theorem dX7_storm_69 : decode cX7_storm 69 = .ok (.invokevirtual 142, 3) := by decide +kernel
theorem dX7_storm_72 : decode cX7_storm 72 = .ok (.astore 6, 2) := by decide +kernel
theorem dX7_storm_74 : decode cX7_storm 74 = .ok (.aload 6, 2) := by decide +kernel
theorem dX7_storm_76 : decode cX7_storm 76 = .ok (.iload_n 2, 1) := by decide +kernel
theorem dX7_storm_77 : decode cX7_storm 77 = .ok (.iload_n 3, 1) := by decide +kernel
theorem dX7_storm_78 : decode cX7_storm 78 = .ok (.iload 4, 2) := by decide +kernel
theorem dX7_storm_80 : decode cX7_storm 80 = .ok (.iload 5, 2) := by decide +kernel
theorem dX7_storm_82 : decode cX7_storm 82 = .ok (.invokevirtual 154, 3) := by decide +kernel
theorem dX7_storm_85 : decode cX7_storm 85 = .ok (.aload_n 0, 1) := by decide +kernel
theorem dX7_storm_86 : decode cX7_storm 86 = .ok (.iload_n 1, 1) := by decide +kernel
theorem dX7_storm_87 : decode cX7_storm 87 = .ok (.aload 6, 2) := by decide +kernel
theorem dX7_storm_89 : decode cX7_storm 89 = .ok (.invokevirtual 150, 3) := by decide +kernel
theorem dX7_storm_92 : decode cX7_storm 92 = .ok (.ireturn, 1) := by decide +kernel
theorem dX7_drift_0 : decode cX7_drift 0 = .ok (.aload_n 0, 1) := by decide +kernel
theorem dX7_drift_1 : decode cX7_drift 1 = .ok (.getfield 19, 3) := by decide +kernel
theorem dX7_drift_4 : decode cX7_drift 4 = .ok (.iload_n 1, 1) := by decide +kernel
theorem dX7_drift_5 : decode cX7_drift 5 = .ok (.invokevirtual 93, 3) := by decide +kernel
theorem dX7_drift_8 : decode cX7_drift 8 = .ok (.ifCond .ne 5, 3) := by decide +kernel
theorem dX7_drift_11 : decode cX7_drift 11 = .ok (.iconst (-1), 1) := by decide +kernel
theorem dX7_drift_12 : decode cX7_drift 12 = .ok (.ireturn, 1) := by decide +kernel
theorem dX7_drift_13 : decode cX7_drift 13 = .ok (.aload_n 0, 1) := by decide +kernel
theorem dX7_drift_14 : decode cX7_drift 14 = .ok (.getfield 19, 3) := by decide +kernel
theorem dX7_drift_17 : decode cX7_drift 17 = .ok (.getfield 139, 3) := by decide +kernel
theorem dX7_drift_20 : decode cX7_drift 20 = .ok (.sipush 9999, 3) := by decide +kernel
theorem dX7_drift_23 : decode cX7_drift 23 = .ok (.if_icmp .lt 6, 3) := by decide +kernel
theorem dX7_drift_26 : decode cX7_drift 26 = .ok (.bipush (-3), 2) := by decide +kernel
theorem dX7_drift_28 : decode cX7_drift 28 = .ok (.ireturn, 1) := by decide +kernel
theorem dX7_drift_29 : decode cX7_drift 29 = .ok (.aload_n 0, 1) := by decide +kernel
theorem dX7_drift_30 : decode cX7_drift 30 = .ok (.iload_n 1, 1) := by decide +kernel
theorem dX7_drift_31 : decode cX7_drift 31 = .ok (.invokevirtual 142, 3) := by decide +kernel
theorem dX7_drift_34 : decode cX7_drift 34 = .ok (.astore_n 2, 1) := by decide +kernel
theorem dX7_drift_35 : decode cX7_drift 35 = .ok (.aload_n 2, 1) := by decide +kernel
theorem dX7_drift_36 : decode cX7_drift 36 = .ok (.invokevirtual 158, 3) := by decide +kernel
theorem dX7_drift_39 : decode cX7_drift 39 = .ok (.pop, 1) := by decide +kernel
theorem dX7_drift_40 : decode cX7_drift 40 = .ok (.aload_n 0, 1) := by decide +kernel
theorem dX7_drift_41 : decode cX7_drift 41 = .ok (.iload_n 1, 1) := by decide +kernel
theorem dX7_drift_42 : decode cX7_drift 42 = .ok (.aload_n 2, 1) := by decide +kernel
theorem dX7_drift_43 : decode cX7_drift 43 = .ok (.invokevirtual 150, 3) := by decide +kernel
theorem dX7_drift_46 : decode cX7_drift 46 = .ok (.ireturn, 1) := by decide +kernel
theorem dX7_scrape_0 : decode cX7_scrape 0 = .ok (.aload_n 0, 1) := by decide +kernel
theorem dX7_scrape_1 : decode cX7_scrape 1 = .ok (.getfield 19, 3) := by decide +kernel
theorem dX7_scrape_4 : decode cX7_scrape 4 = .ok (.iload_n 1, 1) := by decide +kernel
theorem dX7_scrape_5 : decode cX7_scrape 5 = .ok (.invokevirtual 93, 3) := by decide +kernel
theorem dX7_scrape_8 : decode cX7_scrape 8 = .ok (.ifCond .ne 5, 3) := by decide +kernel
theorem dX7_scrape_11 : decode cX7_scrape 11 = .ok (.iconst (-1), 1) := by decide +kernel
theorem dX7_scrape_12 : decode cX7_scrape 12 = .ok (.ireturn, 1) := by decide +kernel
theorem dX7_scrape_13 : decode cX7_scrape 13 = .ok (.aload_n 0, 1) := by decide +kernel
theorem dX7_scrape_14 : decode cX7_scrape 14 = .ok (.getfield 19, 3) := by decide +kernel
theorem dX7_scrape_17 : decode cX7_scrape 17 = .ok (.getfield 105, 3) := by decide +kernel
theorem dX7_scrape_20 : decode cX7_scrape 20 = .ok (.iload_n 1, 1) := by decide +kernel
theorem dX7_scrape_21 : decode cX7_scrape 21 = .ok (.iaload, 1) := by decide +kernel
theorem dX7_scrape_22 : decode cX7_scrape 22 = .ok (.ifCond .gt 6, 3) := by decide +kernel
theorem dX7_scrape_25 : decode cX7_scrape 25 = .ok (.bipush (-2), 2) := by decide +kernel
theorem dX7_scrape_27 : decode cX7_scrape 27 = .ok (.ireturn, 1) := by decide +kernel
theorem dX7_scrape_28 : decode cX7_scrape 28 = .ok (.aload_n 0, 1) := by decide +kernel
theorem dX7_scrape_29 : decode cX7_scrape 29 = .ok (.getfield 39, 3) := by decide +kernel
theorem dX7_scrape_32 : decode cX7_scrape 32 = .ok (.aload_n 0, 1) := by decide +kernel
theorem dX7_scrape_33 : decode cX7_scrape 33 = .ok (.getfield 19, 3) := by decide +kernel
theorem dX7_scrape_36 : decode cX7_scrape 36 = .ok (.iload_n 1, 1) := by decide +kernel
theorem dX7_scrape_37 : decode cX7_scrape 37 = .ok (.invokevirtual 161, 3) := by decide +kernel
theorem dX7_scrape_40 : decode cX7_scrape 40 = .ok (.aload_n 0, 1) := by decide +kernel
theorem dX7_scrape_41 : decode cX7_scrape 41 = .ok (.getfield 19, 3) := by decide +kernel
theorem dX7_scrape_44 : decode cX7_scrape 44 = .ok (.getfield 105, 3) := by decide +kernel
theorem dX7_scrape_47 : decode cX7_scrape 47 = .ok (.iload_n 1, 1) := by decide +kernel
theorem dX7_scrape_48 : decode cX7_scrape 48 = .ok (.dup2, 1) := by decide +kernel
theorem dX7_scrape_49 : decode cX7_scrape 49 = .ok (.iaload, 1) := by decide +kernel
theorem dX7_scrape_50 : decode cX7_scrape 50 = .ok (.iconst 1, 1) := by decide +kernel
theorem dX7_scrape_51 : decode cX7_scrape 51 = .ok (.isub, 1) := by decide +kernel
theorem dX7_scrape_52 : decode cX7_scrape 52 = .ok (.iastore, 1) := by decide +kernel
theorem dX7_scrape_53 : decode cX7_scrape 53 = .ok (.aload_n 0, 1) := by decide +kernel
theorem dX7_scrape_54 : decode cX7_scrape 54 = .ok (.getfield 19, 3) := by decide +kernel
theorem dX7_scrape_57 : decode cX7_scrape 57 = .ok (.getfield 105, 3) := by decide +kernel
theorem dX7_scrape_60 : decode cX7_scrape 60 = .ok (.iload_n 1, 1) := by decide +kernel
theorem dX7_scrape_61 : decode cX7_scrape 61 = .ok (.iaload, 1) := by decide +kernel
theorem dX7_scrape_62 : decode cX7_scrape 62 = .ok (.ireturn, 1) := by decide +kernel
theorem dX7_learn_0 : decode cX7_learn 0 = .ok (.aload_n 0, 1) := by decide +kernel
theorem dX7_learn_1 : decode cX7_learn 1 = .ok (.getfield 19, 3) := by decide +kernel
theorem dX7_learn_4 : decode cX7_learn 4 = .ok (.invokevirtual 121, 3) := by decide +kernel
theorem dX7_learn_7 : decode cX7_learn 7 = .ok (.ifCond .eq 10, 3) := by decide +kernel
theorem dX7_learn_10 : decode cX7_learn 10 = .ok (.iload_n 1, 1) := by decide +kernel
theorem dX7_learn_11 : decode cX7_learn 11 = .ok (.invokestatic 125, 3) := by decide +kernel
theorem dX7_learn_14 : decode cX7_learn 14 = .ok (.ifCond .ne 5, 3) := by decide +kernel
theorem dX7_learn_17 : decode cX7_learn 17 = .ok (.iconst (-1), 1) := by decide +kernel
theorem dX7_learn_18 : decode cX7_learn 18 = .ok (.ireturn, 1) := by decide +kernel
theorem dX7_learn_19 : decode cX7_learn 19 = .ok (.aload_n 0, 1) := by decide +kernel
theorem dX7_learn_20 : decode cX7_learn 20 = .ok (.getfield 19, 3) := by decide +kernel
theorem dX7_learn_23 : decode cX7_learn 23 = .ok (.getfield 128, 3) := by decide +kernel
theorem dX7_learn_26 : decode cX7_learn 26 = .ok (.iload_n 1, 1) := by decide +kernel
theorem dX7_learn_27 : decode cX7_learn 27 = .ok (.iaload, 1) := by decide +kernel
theorem dX7_learn_28 : decode cX7_learn 28 = .ok (.bipush 9, 2) := by decide +kernel
theorem dX7_learn_30 : decode cX7_learn 30 = .ok (.if_icmp .lt 6, 3) := by decide +kernel
theorem dX7_learn_33 : decode cX7_learn 33 = .ok (.bipush (-2), 2) := by decide +kernel
theorem dX7_learn_35 : decode cX7_learn 35 = .ok (.ireturn, 1) := by decide +kernel
theorem dX7_learn_36 : decode cX7_learn 36 = .ok (.aload_n 0, 1) := by decide +kernel
theorem dX7_learn_37 : decode cX7_learn 37 = .ok (.getfield 39, 3) := by decide +kernel
theorem dX7_learn_40 : decode cX7_learn 40 = .ok (.aload_n 0, 1) := by decide +kernel
theorem dX7_learn_41 : decode cX7_learn 41 = .ok (.getfield 19, 3) := by decide +kernel
theorem dX7_learn_44 : decode cX7_learn 44 = .ok (.iconst 0, 1) := by decide +kernel
theorem dX7_learn_45 : decode cX7_learn 45 = .ok (.invokevirtual 161, 3) := by decide +kernel
theorem dX7_learn_48 : decode cX7_learn 48 = .ok (.aload_n 0, 1) := by decide +kernel
theorem dX7_learn_49 : decode cX7_learn 49 = .ok (.getfield 19, 3) := by decide +kernel
theorem dX7_learn_52 : decode cX7_learn 52 = .ok (.getfield 128, 3) := by decide +kernel
theorem dX7_learn_55 : decode cX7_learn 55 = .ok (.iload_n 1, 1) := by decide +kernel
theorem dX7_learn_56 : decode cX7_learn 56 = .ok (.dup2, 1) := by decide +kernel
theorem dX7_learn_57 : decode cX7_learn 57 = .ok (.iaload, 1) := by decide +kernel
theorem dX7_learn_58 : decode cX7_learn 58 = .ok (.iconst 1, 1) := by decide +kernel
theorem dX7_learn_59 : decode cX7_learn 59 = .ok (.iadd, 1) := by decide +kernel
theorem dX7_learn_60 : decode cX7_learn 60 = .ok (.iastore, 1) := by decide +kernel
theorem dX7_learn_61 : decode cX7_learn 61 = .ok (.aload_n 0, 1) := by decide +kernel
theorem dX7_learn_62 : decode cX7_learn 62 = .ok (.getfield 19, 3) := by decide +kernel
theorem dX7_learn_65 : decode cX7_learn 65 = .ok (.getfield 128, 3) := by decide +kernel
theorem dX7_learn_68 : decode cX7_learn 68 = .ok (.iload_n 1, 1) := by decide +kernel
theorem dX7_learn_69 : decode cX7_learn 69 = .ok (.iaload, 1) := by decide +kernel
theorem dX7_learn_70 : decode cX7_learn 70 = .ok (.ireturn, 1) := by decide +kernel
theorem dX7_undo_0 : decode cX7_undo 0 = .ok (.aload_n 0, 1) := by decide +kernel
theorem dX7_undo_1 : decode cX7_undo 1 = .ok (.getfield 39, 3) := by decide +kernel
theorem dX7_undo_4 : decode cX7_undo 4 = .ok (.aload_n 0, 1) := by decide +kernel
theorem dX7_undo_5 : decode cX7_undo 5 = .ok (.getfield 19, 3) := by decide +kernel
theorem dX7_undo_8 : decode cX7_undo 8 = .ok (.invokevirtual 165, 3) := by decide +kernel
theorem dX7_undo_11 : decode cX7_undo 11 = .ok (.ifCond .eq 13, 3) := by decide +kernel
theorem dX7_undo_14 : decode cX7_undo 14 = .ok (.aload_n 0, 1) := by decide +kernel
theorem dX7_undo_15 : decode cX7_undo 15 = .ok (.getfield 39, 3) := by decide +kernel
theorem dX7_undo_18 : decode cX7_undo 18 = .ok (.getfield 168, 3) := by decide +kernel
theorem dX7_undo_21 : decode cX7_undo 21 = .ok (.goto 5, 3) := by decide +kernel
theorem dX7_undo_24 : decode cX7_undo 24 = .ok (.bipush (-4), 2) := by decide +kernel
theorem dX7_undo_26 : decode cX7_undo 26 = .ok (.ireturn, 1) := by decide +kernel
theorem dX7_image_0 : decode cX7_image 0 = .ok (.iload_n 1, 1) := by decide +kernel
theorem dX7_image_1 : decode cX7_image 1 = .ok (.ifCond .lt 8, 3) := by decide +kernel
theorem dX7_image_4 : decode cX7_image 4 = .ok (.iload_n 1, 1) := by decide +kernel
theorem dX7_image_5 : decode cX7_image 5 = .ok (.iconst 2, 1) := by decide +kernel
theorem dX7_image_6 : decode cX7_image 6 = .ok (.if_icmp .lt 5, 3) := by decide +kernel
theorem dX7_image_9 : decode cX7_image 9 = .ok (.iconst (-1), 1) := by decide +kernel
theorem dX7_image_10 : decode cX7_image 10 = .ok (.ireturn, 1) := by decide +kernel
theorem dX7_image_11 : decode cX7_image 11 = .ok (.aload_n 0, 1) := by decide +kernel
theorem dX7_image_12 : decode cX7_image 12 = .ok (.getfield 19, 3) := by decide +kernel
theorem dX7_image_15 : decode cX7_image 15 = .ok (.invokevirtual 121, 3) := by decide +kernel
theorem dX7_image_18 : decode cX7_image 18 = .ok (.ifCond .ne 6, 3) := by decide +kernel
theorem dX7_image_21 : decode cX7_image 21 = .ok (.bipush (-2), 2) := by decide +kernel
theorem dX7_image_23 : decode cX7_image 23 = .ok (.ireturn, 1) := by decide +kernel
theorem dX7_image_24 : decode cX7_image 24 = .ok (.aload_n 0, 1) := by decide +kernel
theorem dX7_image_25 : decode cX7_image 25 = .ok (.getfield 26, 3) := by decide +kernel
theorem dX7_image_28 : decode cX7_image 28 = .ok (.iload_n 1, 1) := by decide +kernel
theorem dX7_image_29 : decode cX7_image 29 = .ok (.aaload, 1) := by decide +kernel
theorem dX7_image_30 : decode cX7_image 30 = .ok (.aload_n 0, 1) := by decide +kernel
theorem dX7_image_31 : decode cX7_image 31 = .ok (.getfield 19, 3) := by decide +kernel
theorem dX7_image_34 : decode cX7_image 34 = .ok (.invokevirtual 83, 3) := by decide +kernel
theorem dX7_image_37 : decode cX7_image 37 = .ok (.aload_n 0, 1) := by decide +kernel
theorem dX7_image_38 : decode cX7_image 38 = .ok (.getfield 19, 3) := by decide +kernel
theorem dX7_image_41 : decode cX7_image 41 = .ok (.getfield 139, 3) := by decide +kernel
theorem dX7_image_44 : decode cX7_image 44 = .ok (.ireturn, 1) := by decide +kernel
theorem dX7_restore_0 : decode cX7_restore 0 = .ok (.iload_n 1, 1) := by decide +kernel
theorem dX7_restore_1 : decode cX7_restore 1 = .ok (.ifCond .lt 8, 3) := by decide +kernel
theorem dX7_restore_4 : decode cX7_restore 4 = .ok (.iload_n 1, 1) := by decide +kernel
theorem dX7_restore_5 : decode cX7_restore 5 = .ok (.iconst 2, 1) := by decide +kernel
theorem dX7_restore_6 : decode cX7_restore 6 = .ok (.if_icmp .lt 5, 3) := by decide +kernel
theorem dX7_restore_9 : decode cX7_restore 9 = .ok (.iconst (-1), 1) := by decide +kernel
theorem dX7_restore_10 : decode cX7_restore 10 = .ok (.ireturn, 1) := by decide +kernel
theorem dX7_restore_11 : decode cX7_restore 11 = .ok (.aload_n 0, 1) := by decide +kernel
theorem dX7_restore_12 : decode cX7_restore 12 = .ok (.getfield 26, 3) := by decide +kernel
theorem dX7_restore_15 : decode cX7_restore 15 = .ok (.iload_n 1, 1) := by decide +kernel
theorem dX7_restore_16 : decode cX7_restore 16 = .ok (.aaload, 1) := by decide +kernel
theorem dX7_restore_17 : decode cX7_restore 17 = .ok (.invokevirtual 121, 3) := by decide +kernel
theorem dX7_restore_20 : decode cX7_restore 20 = .ok (.ifCond .ne 6, 3) := by decide +kernel
theorem dX7_restore_23 : decode cX7_restore 23 = .ok (.bipush (-2), 2) := by decide +kernel
theorem dX7_restore_25 : decode cX7_restore 25 = .ok (.ireturn, 1) := by decide +kernel
theorem dX7_restore_26 : decode cX7_restore 26 = .ok (.aload_n 0, 1) := by decide +kernel
theorem dX7_restore_27 : decode cX7_restore 27 = .ok (.getfield 19, 3) := by decide +kernel
theorem dX7_restore_30 : decode cX7_restore 30 = .ok (.aload_n 0, 1) := by decide +kernel
theorem dX7_restore_31 : decode cX7_restore 31 = .ok (.getfield 26, 3) := by decide +kernel
theorem dX7_restore_34 : decode cX7_restore 34 = .ok (.iload_n 1, 1) := by decide +kernel
theorem dX7_restore_35 : decode cX7_restore 35 = .ok (.aaload, 1) := by decide +kernel
theorem dX7_restore_36 : decode cX7_restore 36 = .ok (.invokevirtual 83, 3) := by decide +kernel
theorem dX7_restore_39 : decode cX7_restore 39 = .ok (.aload_n 0, 1) := by decide +kernel
theorem dX7_restore_40 : decode cX7_restore 40 = .ok (.getfield 39, 3) := by decide +kernel
theorem dX7_restore_43 : decode cX7_restore 43 = .ok (.invokevirtual 87, 3) := by decide +kernel
theorem dX7_restore_46 : decode cX7_restore 46 = .ok (.aload_n 0, 1) := by decide +kernel
theorem dX7_restore_47 : decode cX7_restore 47 = .ok (.getfield 19, 3) := by decide +kernel
theorem dX7_restore_50 : decode cX7_restore 50 = .ok (.getfield 139, 3) := by decide +kernel
theorem dX7_restore_53 : decode cX7_restore 53 = .ok (.ireturn, 1) := by decide +kernel
theorem dX7_believed_0 : decode cX7_believed 0 = .ok (.aload_n 0, 1) := by decide +kernel
theorem dX7_believed_1 : decode cX7_believed 1 = .ok (.getfield 19, 3) := by decide +kernel
theorem dX7_believed_4 : decode cX7_believed 4 = .ok (.invokevirtual 121, 3) := by decide +kernel
theorem dX7_believed_7 : decode cX7_believed 7 = .ok (.ifCond .eq 10, 3) := by decide +kernel
theorem dX7_believed_10 : decode cX7_believed 10 = .ok (.iload_n 1, 1) := by decide +kernel
theorem dX7_believed_11 : decode cX7_believed 11 = .ok (.invokestatic 125, 3) := by decide +kernel
theorem dX7_believed_14 : decode cX7_believed 14 = .ok (.ifCond .ne 5, 3) := by decide +kernel
theorem dX7_believed_17 : decode cX7_believed 17 = .ok (.iconst (-1), 1) := by decide +kernel
theorem dX7_believed_18 : decode cX7_believed 18 = .ok (.ireturn, 1) := by decide +kernel
theorem dX7_believed_19 : decode cX7_believed 19 = .ok (.iconst 0, 1) := by decide +kernel
theorem dX7_believed_20 : decode cX7_believed 20 = .ok (.istore_n 2, 1) := by decide +kernel
theorem dX7_believed_21 : decode cX7_believed 21 = .ok (.iconst 0, 1) := by decide +kernel
theorem dX7_believed_22 : decode cX7_believed 22 = .ok (.istore_n 3, 1) := by decide +kernel
theorem dX7_believed_23 : decode cX7_believed 23 = .ok (.iload_n 3, 1) := by decide +kernel
theorem dX7_believed_24 : decode cX7_believed 24 = .ok (.aload_n 0, 1) := by decide +kernel
theorem dX7_believed_25 : decode cX7_believed 25 = .ok (.getfield 19, 3) := by decide +kernel
theorem dX7_believed_28 : decode cX7_believed 28 = .ok (.getfield 90, 3) := by decide +kernel
theorem dX7_believed_31 : decode cX7_believed 31 = .ok (.if_icmp .ge 27, 3) := by decide +kernel
theorem dX7_believed_34 : decode cX7_believed 34 = .ok (.aload_n 0, 1) := by decide +kernel
theorem dX7_believed_35 : decode cX7_believed 35 = .ok (.getfield 19, 3) := by decide +kernel
theorem dX7_believed_38 : decode cX7_believed 38 = .ok (.iload_n 3, 1) := by decide +kernel
theorem dX7_believed_39 : decode cX7_believed 39 = .ok (.iload_n 1, 1) := by decide +kernel
theorem dX7_believed_40 : decode cX7_believed 40 = .ok (.invokevirtual 171, 3) := by decide +kernel
theorem dX7_believed_43 : decode cX7_believed 43 = .ok (.ifCond .eq 9, 3) := by decide +kernel
theorem dX7_believed_46 : decode cX7_believed 46 = .ok (.iload_n 2, 1) := by decide +kernel
theorem dX7_believed_47 : decode cX7_believed 47 = .ok (.iconst 1, 1) := by decide +kernel
theorem dX7_believed_48 : decode cX7_believed 48 = .ok (.iload_n 3, 1) := by decide +kernel
theorem dX7_believed_49 : decode cX7_believed 49 = .ok (.ishl, 1) := by decide +kernel
theorem dX7_believed_50 : decode cX7_believed 50 = .ok (.ior, 1) := by decide +kernel
theorem dX7_believed_51 : decode cX7_believed 51 = .ok (.istore_n 2, 1) := by decide +kernel
theorem dX7_believed_52 : decode cX7_believed 52 = .ok (.iinc 3 1, 3) := by decide +kernel
theorem dX7_believed_55 : decode cX7_believed 55 = .ok (.goto (-32), 3) := by decide +kernel
theorem dX7_believed_58 : decode cX7_believed 58 = .ok (.iload_n 2, 1) := by decide +kernel
theorem dX7_believed_59 : decode cX7_believed 59 = .ok (.ireturn, 1) := by decide +kernel
theorem dX7_strikes_0 : decode cX7_strikes 0 = .ok (.aload_n 0, 1) := by decide +kernel
theorem dX7_strikes_1 : decode cX7_strikes 1 = .ok (.getfield 19, 3) := by decide +kernel
theorem dX7_strikes_4 : decode cX7_strikes 4 = .ok (.iload_n 1, 1) := by decide +kernel
theorem dX7_strikes_5 : decode cX7_strikes 5 = .ok (.invokevirtual 93, 3) := by decide +kernel
theorem dX7_strikes_8 : decode cX7_strikes 8 = .ok (.ifCond .ne 5, 3) := by decide +kernel
theorem dX7_strikes_11 : decode cX7_strikes 11 = .ok (.iconst (-1), 1) := by decide +kernel
theorem dX7_strikes_12 : decode cX7_strikes 12 = .ok (.ireturn, 1) := by decide +kernel
theorem dX7_strikes_13 : decode cX7_strikes 13 = .ok (.aload_n 0, 1) := by decide +kernel
theorem dX7_strikes_14 : decode cX7_strikes 14 = .ok (.getfield 45, 3) := by decide +kernel
theorem dX7_strikes_17 : decode cX7_strikes 17 = .ok (.iconst 0, 1) := by decide +kernel
theorem dX7_strikes_18 : decode cX7_strikes 18 = .ok (.aaload, 1) := by decide +kernel
theorem dX7_strikes_19 : decode cX7_strikes 19 = .ok (.astore_n 2, 1) := by decide +kernel
theorem dX7_strikes_20 : decode cX7_strikes 20 = .ok (.aload_n 2, 1) := by decide +kernel
theorem dX7_strikes_21 : decode cX7_strikes 21 = .ok (.aload_n 0, 1) := by decide +kernel
theorem dX7_strikes_22 : decode cX7_strikes 22 = .ok (.getfield 19, 3) := by decide +kernel
theorem dX7_strikes_25 : decode cX7_strikes 25 = .ok (.iload_n 1, 1) := by decide +kernel
theorem dX7_strikes_26 : decode cX7_strikes 26 = .ok (.invokevirtual 174, 3) := by decide +kernel
theorem dX7_strikes_29 : decode cX7_strikes 29 = .ok (.iconst 1, 1) := by decide +kernel
theorem dX7_strikes_30 : decode cX7_strikes 30 = .ok (.istore_n 3, 1) := by decide +kernel
theorem dX7_strikes_31 : decode cX7_strikes 31 = .ok (.iload_n 3, 1) := by decide +kernel
theorem dX7_strikes_32 : decode cX7_strikes 32 = .ok (.bipush 8, 2) := by decide +kernel
theorem dX7_strikes_34 : decode cX7_strikes 34 = .ok (.if_icmp .gt 16, 3) := by decide +kernel
theorem dX7_strikes_37 : decode cX7_strikes 37 = .ok (.aload_n 2, 1) := by decide +kernel
theorem dX7_strikes_38 : decode cX7_strikes 38 = .ok (.invokevirtual 158, 3) := by decide +kernel
theorem dX7_strikes_41 : decode cX7_strikes 41 = .ok (.ifCond .ne 9, 3) := by decide +kernel
theorem dX7_strikes_44 : decode cX7_strikes 44 = .ok (.iinc 3 1, 3) := by decide +kernel
theorem dX7_strikes_47 : decode cX7_strikes 47 = .ok (.goto (-16), 3) := by decide +kernel
theorem dX7_strikes_50 : decode cX7_strikes 50 = .ok (.iload_n 3, 1) := by decide +kernel
theorem dX7_strikes_51 : decode cX7_strikes 51 = .ok (.ireturn, 1) := by decide +kernel
theorem dX7_course_0 : decode cX7_course 0 = .ok (.aload_n 0, 1) := by decide +kernel
theorem dX7_course_1 : decode cX7_course 1 = .ok (.getfield 19, 3) := by decide +kernel
theorem dX7_course_4 : decode cX7_course 4 = .ok (.iload_n 1, 1) := by decide +kernel
theorem dX7_course_5 : decode cX7_course 5 = .ok (.invokevirtual 93, 3) := by decide +kernel
theorem dX7_course_8 : decode cX7_course 8 = .ok (.ifCond .eq 30, 3) := by decide +kernel
theorem dX7_course_11 : decode cX7_course 11 = .ok (.iload_n 2, 1) := by decide +kernel
theorem dX7_course_12 : decode cX7_course 12 = .ok (.invokestatic 125, 3) := by decide +kernel
theorem dX7_course_15 : decode cX7_course 15 = .ok (.ifCond .eq 23, 3) := by decide +kernel
theorem dX7_course_18 : decode cX7_course 18 = .ok (.aload_n 0, 1) := by decide +kernel
theorem dX7_course_19 : decode cX7_course 19 = .ok (.getfield 19, 3) := by decide +kernel
theorem dX7_course_22 : decode cX7_course 22 = .ok (.getfield 32, 3) := by decide +kernel
theorem dX7_course_25 : decode cX7_course 25 = .ok (.iload_n 3, 1) := by decide +kernel
theorem dX7_course_26 : decode cX7_course 26 = .ok (.invokevirtual 112, 3) := by decide +kernel
theorem dX7_course_29 : decode cX7_course 29 = .ok (.ifCond .eq 9, 3) := by decide +kernel
theorem dX7_course_32 : decode cX7_course 32 = .ok (.iload 4, 2) := by decide +kernel
theorem dX7_course_34 : decode cX7_course 34 = .ok (.iconst (-1), 1) := by decide +kernel
theorem dX7_course_35 : decode cX7_course 35 = .ok (.if_icmp .ge 5, 3) := by decide +kernel
theorem dX7_course_38 : decode cX7_course 38 = .ok (.iconst (-1), 1) := by decide +kernel
theorem dX7_course_39 : decode cX7_course 39 = .ok (.ireturn, 1) := by decide +kernel
theorem dX7_course_40 : decode cX7_course 40 = .ok (.aload_n 0, 1) := by decide +kernel
theorem dX7_course_41 : decode cX7_course 41 = .ok (.getfield 19, 3) := by decide +kernel
theorem dX7_course_44 : decode cX7_course 44 = .ok (.getfield 32, 3) := by decide +kernel
theorem dX7_course_47 : decode cX7_course 47 = .ok (.iload_n 3, 1) := by decide +kernel
theorem dX7_course_48 : decode cX7_course 48 = .ok (.invokevirtual 117, 3) := by decide +kernel
theorem dX7_course_51 : decode cX7_course 51 = .ok (.iconst 1, 1) := by decide +kernel
theorem dX7_course_52 : decode cX7_course 52 = .ok (.if_icmp .ne 6, 3) := by decide +kernel
theorem dX7_course_55 : decode cX7_course 55 = .ok (.bipush (-2), 2) := by decide +kernel
theorem dX7_course_57 : decode cX7_course 57 = .ok (.ireturn, 1) := by decide +kernel
theorem dX7_course_58 : decode cX7_course 58 = .ok (.aload_n 0, 1) := by decide +kernel
theorem dX7_course_59 : decode cX7_course 59 = .ok (.getfield 45, 3) := by decide +kernel
theorem dX7_course_62 : decode cX7_course 62 = .ok (.iconst 0, 1) := by decide +kernel
theorem dX7_course_63 : decode cX7_course 63 = .ok (.aaload, 1) := by decide +kernel
theorem dX7_course_64 : decode cX7_course 64 = .ok (.astore 5, 2) := by decide +kernel
theorem dX7_course_66 : decode cX7_course 66 = .ok (.aload 5, 2) := by decide +kernel
theorem dX7_course_68 : decode cX7_course 68 = .ok (.aload_n 0, 1) := by decide +kernel
theorem dX7_course_69 : decode cX7_course 69 = .ok (.getfield 19, 3) := by decide +kernel
theorem dX7_course_72 : decode cX7_course 72 = .ok (.iload_n 1, 1) := by decide +kernel
theorem dX7_course_73 : decode cX7_course 73 = .ok (.invokevirtual 174, 3) := by decide +kernel
theorem dX7_course_76 : decode cX7_course 76 = .ok (.aload_n 0, 1) := by decide +kernel
theorem dX7_course_77 : decode cX7_course 77 = .ok (.getfield 52, 3) := by decide +kernel
theorem dX7_course_80 : decode cX7_course 80 = .ok (.aload 5, 2) := by decide +kernel
theorem dX7_course_82 : decode cX7_course 82 = .ok (.iload_n 2, 1) := by decide +kernel
theorem dX7_course_83 : decode cX7_course 83 = .ok (.iload_n 3, 1) := by decide +kernel
theorem dX7_course_84 : decode cX7_course 84 = .ok (.invokevirtual 177, 3) := by decide +kernel
theorem dX7_course_87 : decode cX7_course 87 = .ok (.istore 6, 2) := by decide +kernel
theorem dX7_course_89 : decode cX7_course 89 = .ok (.iload 6, 2) := by decide +kernel
theorem dX7_course_91 : decode cX7_course 91 = .ok (.ifCond .ge 6, 3) := by decide +kernel
theorem dX7_course_94 : decode cX7_course 94 = .ok (.bipush (-4), 2) := by decide +kernel
theorem dX7_course_96 : decode cX7_course 96 = .ok (.ireturn, 1) := by decide +kernel
theorem dX7_course_97 : decode cX7_course 97 = .ok (.iload 4, 2) := by decide +kernel
theorem dX7_course_99 : decode cX7_course 99 = .ok (.ifCond .ge 16, 3) := by decide +kernel
theorem dX7_course_102 : decode cX7_course 102 = .ok (.aload_n 0, 1) := by decide +kernel
theorem dX7_course_103 : decode cX7_course 103 = .ok (.getfield 52, 3) := by decide +kernel
theorem dX7_course_106 : decode cX7_course 106 = .ok (.getfield 181, 3) := by decide +kernel
theorem dX7_course_109 : decode cX7_course 109 = .ok (.iload 6, 2) := by decide +kernel
theorem dX7_course_111 : decode cX7_course 111 = .ok (.iaload, 1) := by decide +kernel
theorem dX7_course_112 : decode cX7_course 112 = .ok (.goto 14, 3) := by decide +kernel
theorem dX7_course_115 : decode cX7_course 115 = .ok (.aload_n 0, 1) := by decide +kernel
theorem dX7_course_116 : decode cX7_course 116 = .ok (.getfield 52, 3) := by decide +kernel
theorem dX7_course_119 : decode cX7_course 119 = .ok (.iload 6, 2) := by decide +kernel
theorem dX7_course_121 : decode cX7_course 121 = .ok (.iload 4, 2) := by decide +kernel
theorem dX7_course_123 : decode cX7_course 123 = .ok (.invokevirtual 184, 3) := by decide +kernel
theorem dX7_course_126 : decode cX7_course 126 = .ok (.ireturn, 1) := by decide +kernel
theorem dX7_crew_0 : decode cX7_crew 0 = .ok (.iload_n 1, 1) := by decide +kernel
theorem dX7_crew_1 : decode cX7_crew 1 = .ok (.iconst (-1), 1) := by decide +kernel
theorem dX7_crew_2 : decode cX7_crew 2 = .ok (.if_icmp .ne 25, 3) := by decide +kernel
theorem dX7_crew_5 : decode cX7_crew 5 = .ok (.aload_n 0, 1) := by decide +kernel
theorem dX7_crew_6 : decode cX7_crew 6 = .ok (.getfield 19, 3) := by decide +kernel
theorem dX7_crew_9 : decode cX7_crew 9 = .ok (.invokevirtual 121, 3) := by decide +kernel
theorem dX7_crew_12 : decode cX7_crew 12 = .ok (.ifCond .eq 12, 3) := by decide +kernel
theorem dX7_crew_15 : decode cX7_crew 15 = .ok (.aload_n 0, 1) := by decide +kernel
theorem dX7_crew_16 : decode cX7_crew 16 = .ok (.iconst 0, 1) := by decide +kernel
theorem dX7_crew_17 : decode cX7_crew 17 = .ok (.iconst 0, 1) := by decide +kernel
theorem dX7_crew_18 : decode cX7_crew 18 = .ok (.invokevirtual 187, 3) := by decide +kernel
theorem dX7_crew_21 : decode cX7_crew 21 = .ok (.goto 5, 3) := by decide +kernel
theorem dX7_crew_24 : decode cX7_crew 24 = .ok (.bipush (-2), 2) := by decide +kernel
theorem dX7_crew_26 : decode cX7_crew 26 = .ok (.ireturn, 1) := by decide +kernel
theorem dX7_crew_27 : decode cX7_crew 27 = .ok (.aload_n 0, 1) := by decide +kernel
theorem dX7_crew_28 : decode cX7_crew 28 = .ok (.getfield 19, 3) := by decide +kernel
theorem dX7_crew_31 : decode cX7_crew 31 = .ok (.iload_n 1, 1) := by decide +kernel
theorem dX7_crew_32 : decode cX7_crew 32 = .ok (.invokevirtual 93, 3) := by decide +kernel
theorem dX7_crew_35 : decode cX7_crew 35 = .ok (.ifCond .eq 11, 3) := by decide +kernel
theorem dX7_crew_38 : decode cX7_crew 38 = .ok (.aload_n 0, 1) := by decide +kernel
theorem dX7_crew_39 : decode cX7_crew 39 = .ok (.iload_n 1, 1) := by decide +kernel
theorem dX7_crew_40 : decode cX7_crew 40 = .ok (.invokevirtual 190, 3) := by decide +kernel
theorem dX7_crew_43 : decode cX7_crew 43 = .ok (.goto 4, 3) := by decide +kernel
theorem dX7_crew_46 : decode cX7_crew 46 = .ok (.iconst (-1), 1) := by decide +kernel
theorem dX7_crew_47 : decode cX7_crew 47 = .ok (.ireturn, 1) := by decide +kernel
theorem dX7_hears_0 : decode cX7_hears 0 = .ok (.aload_n 0, 1) := by decide +kernel
theorem dX7_hears_1 : decode cX7_hears 1 = .ok (.getfield 19, 3) := by decide +kernel
theorem dX7_hears_4 : decode cX7_hears 4 = .ok (.iload_n 1, 1) := by decide +kernel
theorem dX7_hears_5 : decode cX7_hears 5 = .ok (.invokevirtual 93, 3) := by decide +kernel
theorem dX7_hears_8 : decode cX7_hears 8 = .ok (.ifCond .eq 10, 3) := by decide +kernel
theorem dX7_hears_11 : decode cX7_hears 11 = .ok (.iload_n 2, 1) := by decide +kernel
theorem dX7_hears_12 : decode cX7_hears 12 = .ok (.invokestatic 193, 3) := by decide +kernel
theorem dX7_hears_15 : decode cX7_hears 15 = .ok (.ifCond .ne 5, 3) := by decide +kernel
theorem dX7_hears_18 : decode cX7_hears 18 = .ok (.iconst (-1), 1) := by decide +kernel
theorem dX7_hears_19 : decode cX7_hears 19 = .ok (.ireturn, 1) := by decide +kernel
theorem dX7_hears_20 : decode cX7_hears 20 = .ok (.aload_n 0, 1) := by decide +kernel
theorem dX7_hears_21 : decode cX7_hears 21 = .ok (.getfield 19, 3) := by decide +kernel
theorem dX7_hears_24 : decode cX7_hears 24 = .ok (.iload_n 1, 1) := by decide +kernel
theorem dX7_hears_25 : decode cX7_hears 25 = .ok (.aload_n 0, 1) := by decide +kernel
theorem dX7_hears_26 : decode cX7_hears 26 = .ok (.getfield 19, 3) := by decide +kernel
theorem dX7_hears_29 : decode cX7_hears 29 = .ok (.invokevirtual 196, 3) := by decide +kernel
theorem dX7_hears_32 : decode cX7_hears 32 = .ok (.iload_n 2, 1) := by decide +kernel
theorem dX7_hears_33 : decode cX7_hears 33 = .ok (.invokevirtual 200, 3) := by decide +kernel
theorem dX7_hears_36 : decode cX7_hears 36 = .ok (.ireturn, 1) := by decide +kernel
theorem dX7_links_0 : decode cX7_links 0 = .ok (.iload_n 1, 1) := by decide +kernel
theorem dX7_links_1 : decode cX7_links 1 = .ok (.invokestatic 193, 3) := by decide +kernel
theorem dX7_links_4 : decode cX7_links 4 = .ok (.ifCond .ne 5, 3) := by decide +kernel
theorem dX7_links_7 : decode cX7_links 7 = .ok (.iconst (-1), 1) := by decide +kernel
theorem dX7_links_8 : decode cX7_links 8 = .ok (.ireturn, 1) := by decide +kernel
theorem dX7_links_9 : decode cX7_links 9 = .ok (.aload_n 0, 1) := by decide +kernel
theorem dX7_links_10 : decode cX7_links 10 = .ok (.getfield 19, 3) := by decide +kernel
theorem dX7_links_13 : decode cX7_links 13 = .ok (.invokevirtual 121, 3) := by decide +kernel
theorem dX7_links_16 : decode cX7_links 16 = .ok (.ifCond .ne 6, 3) := by decide +kernel
theorem dX7_links_19 : decode cX7_links 19 = .ok (.bipush (-2), 2) := by decide +kernel
theorem dX7_links_21 : decode cX7_links 21 = .ok (.ireturn, 1) := by decide +kernel
theorem dX7_links_22 : decode cX7_links 22 = .ok (.iconst 0, 1) := by decide +kernel
theorem dX7_links_23 : decode cX7_links 23 = .ok (.istore_n 2, 1) := by decide +kernel
theorem dX7_links_24 : decode cX7_links 24 = .ok (.iconst 0, 1) := by decide +kernel
theorem dX7_links_25 : decode cX7_links 25 = .ok (.istore_n 3, 1) := by decide +kernel
theorem dX7_links_26 : decode cX7_links 26 = .ok (.iload_n 3, 1) := by decide +kernel
theorem dX7_links_27 : decode cX7_links 27 = .ok (.aload_n 0, 1) := by decide +kernel
theorem dX7_links_28 : decode cX7_links 28 = .ok (.getfield 19, 3) := by decide +kernel
theorem dX7_links_31 : decode cX7_links 31 = .ok (.getfield 90, 3) := by decide +kernel
theorem dX7_links_34 : decode cX7_links 34 = .ok (.if_icmp .ge 27, 3) := by decide +kernel
theorem dX7_links_37 : decode cX7_links 37 = .ok (.aload_n 0, 1) := by decide +kernel
theorem dX7_links_38 : decode cX7_links 38 = .ok (.getfield 19, 3) := by decide +kernel
theorem dX7_links_41 : decode cX7_links 41 = .ok (.iload_n 3, 1) := by decide +kernel
theorem dX7_links_42 : decode cX7_links 42 = .ok (.iload_n 1, 1) := by decide +kernel
theorem dX7_links_43 : decode cX7_links 43 = .ok (.invokevirtual 204, 3) := by decide +kernel
theorem dX7_links_46 : decode cX7_links 46 = .ok (.ifCond .eq 9, 3) := by decide +kernel
theorem dX7_links_49 : decode cX7_links 49 = .ok (.iload_n 2, 1) := by decide +kernel
theorem dX7_links_50 : decode cX7_links 50 = .ok (.iconst 1, 1) := by decide +kernel
theorem dX7_links_51 : decode cX7_links 51 = .ok (.iload_n 3, 1) := by decide +kernel
theorem dX7_links_52 : decode cX7_links 52 = .ok (.ishl, 1) := by decide +kernel
theorem dX7_links_53 : decode cX7_links 53 = .ok (.ior, 1) := by decide +kernel
theorem dX7_links_54 : decode cX7_links 54 = .ok (.istore_n 2, 1) := by decide +kernel
theorem dX7_links_55 : decode cX7_links 55 = .ok (.iinc 3 1, 3) := by decide +kernel
theorem dX7_links_58 : decode cX7_links 58 = .ok (.goto (-32), 3) := by decide +kernel
theorem dX7_links_61 : decode cX7_links 61 = .ok (.iload_n 2, 1) := by decide +kernel
theorem dX7_links_62 : decode cX7_links 62 = .ok (.ireturn, 1) := by decide +kernel
theorem dX7_talk_0 : decode cX7_talk 0 = .ok (.aload_n 0, 1) := by decide +kernel
theorem dX7_talk_1 : decode cX7_talk 1 = .ok (.getfield 19, 3) := by decide +kernel
theorem dX7_talk_4 : decode cX7_talk 4 = .ok (.iload_n 1, 1) := by decide +kernel
theorem dX7_talk_5 : decode cX7_talk 5 = .ok (.invokevirtual 93, 3) := by decide +kernel
theorem dX7_talk_8 : decode cX7_talk 8 = .ok (.ifCond .eq 33, 3) := by decide +kernel
theorem dX7_talk_11 : decode cX7_talk 11 = .ok (.iload_n 2, 1) := by decide +kernel
theorem dX7_talk_12 : decode cX7_talk 12 = .ok (.invokestatic 125, 3) := by decide +kernel
theorem dX7_talk_15 : decode cX7_talk 15 = .ok (.ifCond .eq 26, 3) := by decide +kernel
theorem dX7_talk_18 : decode cX7_talk 18 = .ok (.iload_n 3, 1) := by decide +kernel
theorem dX7_talk_19 : decode cX7_talk 19 = .ok (.invokestatic 125, 3) := by decide +kernel
theorem dX7_talk_22 : decode cX7_talk 22 = .ok (.ifCond .eq 19, 3) := by decide +kernel
theorem dX7_talk_25 : decode cX7_talk 25 = .ok (.iload_n 2, 1) := by decide +kernel
theorem dX7_talk_26 : decode cX7_talk 26 = .ok (.iload_n 3, 1) := by decide +kernel
theorem dX7_talk_27 : decode cX7_talk 27 = .ok (.if_icmp .eq 14, 3) := by decide +kernel
theorem dX7_talk_30 : decode cX7_talk 30 = .ok (.iload 4, 2) := by decide +kernel
theorem dX7_talk_32 : decode cX7_talk 32 = .ok (.ifCond .lt 9, 3) := by decide +kernel
theorem dX7_talk_35 : decode cX7_talk 35 = .ok (.iload 4, 2) := by decide +kernel
theorem dX7_talk_37 : decode cX7_talk 37 = .ok (.iconst 3, 1) := by decide +kernel
theorem dX7_talk_38 : decode cX7_talk 38 = .ok (.if_icmp .le 5, 3) := by decide +kernel
theorem dX7_talk_41 : decode cX7_talk 41 = .ok (.iconst (-1), 1) := by decide +kernel
theorem dX7_talk_42 : decode cX7_talk 42 = .ok (.ireturn, 1) := by decide +kernel
theorem dX7_talk_43 : decode cX7_talk 43 = .ok (.aload_n 0, 1) := by decide +kernel
theorem dX7_talk_44 : decode cX7_talk 44 = .ok (.getfield 19, 3) := by decide +kernel
theorem dX7_talk_47 : decode cX7_talk 47 = .ok (.getfield 32, 3) := by decide +kernel
theorem dX7_talk_50 : decode cX7_talk 50 = .ok (.invokevirtual 207, 3) := by decide +kernel
theorem dX7_talk_53 : decode cX7_talk 53 = .ok (.ifCond .ne 6, 3) := by decide +kernel
theorem dX7_talk_56 : decode cX7_talk 56 = .ok (.bipush (-4), 2) := by decide +kernel
theorem dX7_talk_58 : decode cX7_talk 58 = .ok (.ireturn, 1) := by decide +kernel
theorem dX7_talk_59 : decode cX7_talk 59 = .ok (.aload_n 0, 1) := by decide +kernel
theorem dX7_talk_60 : decode cX7_talk 60 = .ok (.getfield 45, 3) := by decide +kernel
theorem dX7_talk_63 : decode cX7_talk 63 = .ok (.iconst 0, 1) := by decide +kernel
theorem dX7_talk_64 : decode cX7_talk 64 = .ok (.aaload, 1) := by decide +kernel
theorem dX7_talk_65 : decode cX7_talk 65 = .ok (.aload_n 0, 1) := by decide +kernel
theorem dX7_talk_66 : decode cX7_talk 66 = .ok (.getfield 19, 3) := by decide +kernel
theorem dX7_talk_69 : decode cX7_talk 69 = .ok (.iload_n 1, 1) := by decide +kernel
theorem dX7_talk_70 : decode cX7_talk 70 = .ok (.invokevirtual 174, 3) := by decide +kernel
theorem dX7_talk_73 : decode cX7_talk 73 = .ok (.aload_n 0, 1) := by decide +kernel
theorem dX7_talk_74 : decode cX7_talk 74 = .ok (.iconst 0, 1) := by decide +kernel
theorem dX7_talk_75 : decode cX7_talk 75 = .ok (.iconst 2, 1) := by decide +kernel
theorem dX7_talk_76 : decode cX7_talk 76 = .ok (.iload 4, 2) := by decide +kernel
theorem dX7_talk_78 : decode cX7_talk 78 = .ok (.imul, 1) := by decide +kernel
theorem dX7_talk_79 : decode cX7_talk 79 = .ok (.iload_n 2, 1) := by decide +kernel
theorem dX7_talk_80 : decode cX7_talk 80 = .ok (.iload_n 3, 1) := by decide +kernel
theorem dX7_talk_81 : decode cX7_talk 81 = .ok (.invokevirtual 210, 3) := by decide +kernel
theorem dX7_talk_84 : decode cX7_talk 84 = .ok (.ireturn, 1) := by decide +kernel
theorem dX7_decades_0 : decode cX7_decades 0 = .ok (.iload_n 1, 1) := by decide +kernel
theorem dX7_decades_1 : decode cX7_decades 1 = .ok (.ifCond .lt 27, 3) := by decide +kernel
theorem dX7_decades_4 : decode cX7_decades 4 = .ok (.iload_n 1, 1) := by decide +kernel
theorem dX7_decades_5 : decode cX7_decades 5 = .ok (.bipush 60, 2) := by decide +kernel
theorem dX7_decades_7 : decode cX7_decades 7 = .ok (.if_icmp .gt 21, 3) := by decide +kernel
theorem dX7_decades_10 : decode cX7_decades 10 = .ok (.iload_n 2, 1) := by decide +kernel
theorem dX7_decades_11 : decode cX7_decades 11 = .ok (.iconst 1, 1) := by decide +kernel
theorem dX7_decades_12 : decode cX7_decades 12 = .ok (.if_icmp .lt 16, 3) := by decide +kernel
theorem dX7_decades_15 : decode cX7_decades 15 = .ok (.iload_n 2, 1) := by decide +kernel
theorem dX7_decades_16 : decode cX7_decades 16 = .ok (.ldc 214, 2) := by decide +kernel
theorem dX7_decades_18 : decode cX7_decades 18 = .ok (.if_icmp .gt 10, 3) := by decide +kernel
theorem dX7_decades_21 : decode cX7_decades 21 = .ok (.iload_n 3, 1) := by decide +kernel
theorem dX7_decades_22 : decode cX7_decades 22 = .ok (.invokestatic 215, 3) := by decide +kernel
theorem dX7_decades_25 : decode cX7_decades 25 = .ok (.ifCond .ne 5, 3) := by decide +kernel
theorem dX7_decades_28 : decode cX7_decades 28 = .ok (.iconst (-1), 1) := by decide +kernel
theorem dX7_decades_29 : decode cX7_decades 29 = .ok (.ireturn, 1) := by decide +kernel
theorem dX7_decades_30 : decode cX7_decades 30 = .ok (.aload_n 0, 1) := by decide +kernel
theorem dX7_decades_31 : decode cX7_decades 31 = .ok (.getfield 19, 3) := by decide +kernel
theorem dX7_decades_34 : decode cX7_decades 34 = .ok (.invokevirtual 121, 3) := by decide +kernel
theorem dX7_decades_37 : decode cX7_decades 37 = .ok (.ifCond .ne 6, 3) := by decide +kernel
theorem dX7_decades_40 : decode cX7_decades 40 = .ok (.bipush (-2), 2) := by decide +kernel
theorem dX7_decades_42 : decode cX7_decades 42 = .ok (.ireturn, 1) := by decide +kernel
theorem dX7_decades_43 : decode cX7_decades 43 = .ok (.aload_n 0, 1) := by decide +kernel
theorem dX7_decades_44 : decode cX7_decades 44 = .ok (.getfield 23, 3) := by decide +kernel
theorem dX7_decades_47 : decode cX7_decades 47 = .ok (.aload_n 0, 1) := by decide +kernel
theorem dX7_decades_48 : decode cX7_decades 48 = .ok (.getfield 19, 3) := by decide +kernel
theorem dX7_decades_51 : decode cX7_decades 51 = .ok (.invokevirtual 83, 3) := by decide +kernel
theorem dX7_decades_54 : decode cX7_decades 54 = .ok (.iload_n 2, 1) := by decide +kernel
theorem dX7_decades_55 : decode cX7_decades 55 = .ok (.i2l, 1) := by decide +kernel
theorem dX7_decades_56 : decode cX7_decades 56 = .ok (.lstore 4, 2) := by decide +kernel
theorem dX7_decades_58 : decode cX7_decades 58 = .ok (.iconst 0, 1) := by decide +kernel
theorem dX7_decades_59 : decode cX7_decades 59 = .ok (.istore 6, 2) := by decide +kernel
theorem dX7_decades_61 : decode cX7_decades 61 = .ok (.iload 6, 2) := by decide +kernel
theorem dX7_decades_63 : decode cX7_decades 63 = .ok (.iload_n 1, 1) := by decide +kernel
theorem dX7_decades_64 : decode cX7_decades 64 = .ok (.if_icmp .ge 27, 3) := by decide +kernel
theorem dX7_decades_67 : decode cX7_decades 67 = .ok (.ldc2_w 218, 3) := by decide +kernel
theorem dX7_decades_70 : decode cX7_decades 70 = .ok (.lload 4, 2) := by decide +kernel
theorem dX7_decades_72 : decode cX7_decades 72 = .ok (.lmul, 1) := by decide +kernel
theorem dX7_decades_73 : decode cX7_decades 73 = .ok (.ldc2_w 220, 3) := by decide +kernel
theorem dX7_decades_76 : decode cX7_decades 76 = .ok (.lrem, 1) := by decide +kernel
theorem dX7_decades_77 : decode cX7_decades 77 = .ok (.lstore 4, 2) := by decide +kernel
theorem dX7_decades_79 : decode cX7_decades 79 = .ok (.aload_n 0, 1) := by decide +kernel
theorem dX7_decades_80 : decode cX7_decades 80 = .ok (.lload 4, 2) := by decide +kernel
theorem dX7_decades_82 : decode cX7_decades 82 = .ok (.invokevirtual 222, 3) := by decide +kernel
theorem dX7_decades_85 : decode cX7_decades 85 = .ok (.iinc 6 1, 3) := by decide +kernel
theorem dX7_decades_88 : decode cX7_decades 88 = .ok (.goto (-27), 3) := by decide +kernel
theorem dX7_decades_91 : decode cX7_decades 91 = .ok (.iload_n 3, 1) := by decide +kernel
theorem dX7_decades_92 : decode cX7_decades 92 = .ok (.ifCond .ne 13, 3) := by decide +kernel
theorem dX7_decades_95 : decode cX7_decades 95 = .ok (.aload_n 0, 1) := by decide +kernel
theorem dX7_decades_96 : decode cX7_decades 96 = .ok (.getfield 23, 3) := by decide +kernel
theorem dX7_decades_99 : decode cX7_decades 99 = .ok (.invokevirtual 226, 3) := by decide +kernel
theorem dX7_decades_102 : decode cX7_decades 102 = .ok (.goto 10, 3) := by decide +kernel
theorem dX7_decades_105 : decode cX7_decades 105 = .ok (.aload_n 0, 1) := by decide +kernel
theorem dX7_decades_106 : decode cX7_decades 106 = .ok (.getfield 23, 3) := by decide +kernel
theorem dX7_decades_109 : decode cX7_decades 109 = .ok (.invokevirtual 229, 3) := by decide +kernel
theorem dX7_decades_112 : decode cX7_decades 112 = .ok (.ireturn, 1) := by decide +kernel
theorem dX7_sheet_0 : decode cX7_sheet 0 = .ok (.iload_n 1, 1) := by decide +kernel
theorem dX7_sheet_1 : decode cX7_sheet 1 = .ok (.invokestatic 232, 3) := by decide +kernel
theorem dX7_sheet_4 : decode cX7_sheet 4 = .ok (.ifCond .eq 16, 3) := by decide +kernel
theorem dX7_sheet_7 : decode cX7_sheet 7 = .ok (.iload_n 2, 1) := by decide +kernel
theorem dX7_sheet_8 : decode cX7_sheet 8 = .ok (.invokestatic 235, 3) := by decide +kernel
theorem dX7_sheet_11 : decode cX7_sheet 11 = .ok (.ifCond .eq 9, 3) := by decide +kernel
theorem dX7_sheet_14 : decode cX7_sheet 14 = .ok (.iload_n 3, 1) := by decide +kernel
theorem dX7_sheet_15 : decode cX7_sheet 15 = .ok (.bipush 24, 2) := by decide +kernel
theorem dX7_sheet_17 : decode cX7_sheet 17 = .ok (.if_icmp .le 5, 3) := by decide +kernel
theorem dX7_sheet_20 : decode cX7_sheet 20 = .ok (.iconst (-1), 1) := by decide +kernel
theorem dX7_sheet_21 : decode cX7_sheet 21 = .ok (.ireturn, 1) := by decide +kernel
theorem dX7_sheet_22 : decode cX7_sheet 22 = .ok (.iload_n 3, 1) := by decide +kernel
theorem dX7_sheet_23 : decode cX7_sheet 23 = .ok (.ifCond .ge 6, 3) := by decide +kernel
theorem dX7_sheet_26 : decode cX7_sheet 26 = .ok (.bipush (-14), 2) := by decide +kernel
theorem dX7_sheet_28 : decode cX7_sheet 28 = .ok (.ireturn, 1) := by decide +kernel
theorem dX7_sheet_29 : decode cX7_sheet 29 = .ok (.aload_n 0, 1) := by decide +kernel
theorem dX7_sheet_30 : decode cX7_sheet 30 = .ok (.getfield 58, 3) := by decide +kernel
theorem dX7_sheet_33 : decode cX7_sheet 33 = .ok (.iload_n 1, 1) := by decide +kernel
theorem dX7_sheet_34 : decode cX7_sheet 34 = .ok (.aaload, 1) := by decide +kernel
theorem dX7_sheet_35 : decode cX7_sheet 35 = .ok (.iload_n 2, 1) := by decide +kernel
theorem dX7_sheet_36 : decode cX7_sheet 36 = .ok (.iload_n 3, 1) := by decide +kernel
theorem dX7_sheet_37 : decode cX7_sheet 37 = .ok (.invokevirtual 238, 3) := by decide +kernel
theorem dX7_sheet_40 : decode cX7_sheet 40 = .ok (.iload_n 3, 1) := by decide +kernel
theorem dX7_sheet_41 : decode cX7_sheet 41 = .ok (.ireturn, 1) := by decide +kernel
theorem dX7_drop_0 : decode cX7_drop 0 = .ok (.iload_n 1, 1) := by decide +kernel
theorem dX7_drop_1 : decode cX7_drop 1 = .ok (.invokestatic 232, 3) := by decide +kernel
theorem dX7_drop_4 : decode cX7_drop 4 = .ok (.ifCond .ne 5, 3) := by decide +kernel
theorem dX7_drop_7 : decode cX7_drop 7 = .ok (.iconst (-1), 1) := by decide +kernel
theorem dX7_drop_8 : decode cX7_drop 8 = .ok (.ireturn, 1) := by decide +kernel
theorem dX7_drop_9 : decode cX7_drop 9 = .ok (.aload_n 0, 1) := by decide +kernel
theorem dX7_drop_10 : decode cX7_drop 10 = .ok (.getfield 58, 3) := by decide +kernel
theorem dX7_drop_13 : decode cX7_drop 13 = .ok (.iload_n 1, 1) := by decide +kernel
theorem dX7_drop_14 : decode cX7_drop 14 = .ok (.aaload, 1) := by decide +kernel
theorem dX7_drop_15 : decode cX7_drop 15 = .ok (.astore_n 2, 1) := by decide +kernel
theorem dX7_drop_16 : decode cX7_drop 16 = .ok (.aload_n 2, 1) := by decide +kernel
theorem dX7_drop_17 : decode cX7_drop 17 = .ok (.getfield 241, 3) := by decide +kernel
theorem dX7_drop_20 : decode cX7_drop 20 = .ok (.ifCond .ne 6, 3) := by decide +kernel
theorem dX7_drop_23 : decode cX7_drop 23 = .ok (.bipush (-11), 2) := by decide +kernel
theorem dX7_drop_25 : decode cX7_drop 25 = .ok (.ireturn, 1) := by decide +kernel
theorem dX7_drop_26 : decode cX7_drop 26 = .ok (.aload_n 2, 1) := by decide +kernel
theorem dX7_drop_27 : decode cX7_drop 27 = .ok (.iconst 0, 1) := by decide +kernel
theorem dX7_drop_28 : decode cX7_drop 28 = .ok (.putfield 241, 3) := by decide +kernel
theorem dX7_drop_31 : decode cX7_drop 31 = .ok (.aload_n 2, 1) := by decide +kernel
theorem dX7_drop_32 : decode cX7_drop 32 = .ok (.getfield 245, 3) := by decide +kernel
theorem dX7_drop_35 : decode cX7_drop 35 = .ok (.ireturn, 1) := by decide +kernel
theorem dX7_item_0 : decode cX7_item 0 = .ok (.iload_n 1, 1) := by decide +kernel
theorem dX7_item_1 : decode cX7_item 1 = .ok (.invokestatic 232, 3) := by decide +kernel
theorem dX7_item_4 : decode cX7_item 4 = .ok (.ifCond .eq 10, 3) := by decide +kernel
theorem dX7_item_7 : decode cX7_item 7 = .ok (.iload_n 2, 1) := by decide +kernel
theorem dX7_item_8 : decode cX7_item 8 = .ok (.invokestatic 235, 3) := by decide +kernel
theorem dX7_item_11 : decode cX7_item 11 = .ok (.ifCond .ne 7, 3) := by decide +kernel
theorem dX7_item_14 : decode cX7_item 14 = .ok (.ldc2_w 246, 3) := by decide +kernel
theorem dX7_item_17 : decode cX7_item 17 = .ok (.lreturn, 1) := by decide +kernel
theorem dX7_item_18 : decode cX7_item 18 = .ok (.aload_n 0, 1) := by decide +kernel
theorem dX7_item_19 : decode cX7_item 19 = .ok (.iload_n 1, 1) := by decide +kernel
theorem dX7_item_20 : decode cX7_item 20 = .ok (.iload_n 2, 1) := by decide +kernel
theorem dX7_item_21 : decode cX7_item 21 = .ok (.iload_n 3, 1) := by decide +kernel
theorem dX7_item_22 : decode cX7_item 22 = .ok (.iconst 1, 1) := by decide +kernel
theorem dX7_item_23 : decode cX7_item 23 = .ok (.invokevirtual 248, 3) := by decide +kernel
theorem dX7_item_26 : decode cX7_item 26 = .ok (.istore 6, 2) := by decide +kernel
theorem dX7_item_28 : decode cX7_item 28 = .ok (.iload 6, 2) := by decide +kernel
theorem dX7_item_30 : decode cX7_item 30 = .ok (.ifCond .ge 9, 3) := by decide +kernel
theorem dX7_item_33 : decode cX7_item 33 = .ok (.iload 6, 2) := by decide +kernel
theorem dX7_item_35 : decode cX7_item 35 = .ok (.i2l, 1) := by decide +kernel
theorem dX7_item_36 : decode cX7_item 36 = .ok (.goto 15, 3) := by decide +kernel
theorem dX7_item_39 : decode cX7_item 39 = .ok (.aload_n 0, 1) := by decide +kernel
theorem dX7_item_40 : decode cX7_item 40 = .ok (.getfield 58, 3) := by decide +kernel
theorem dX7_item_43 : decode cX7_item 43 = .ok (.iload_n 1, 1) := by decide +kernel
theorem dX7_item_44 : decode cX7_item 44 = .ok (.aaload, 1) := by decide +kernel
theorem dX7_item_45 : decode cX7_item 45 = .ok (.iload_n 3, 1) := by decide +kernel
theorem dX7_item_46 : decode cX7_item 46 = .ok (.lload 4, 2) := by decide +kernel
theorem dX7_item_48 : decode cX7_item 48 = .ok (.invokevirtual 251, 3) := by decide +kernel
theorem dX7_item_51 : decode cX7_item 51 = .ok (.lreturn, 1) := by decide +kernel
theorem dX7_copy_0 : decode cX7_copy 0 = .ok (.iload_n 1, 1) := by decide +kernel
theorem dX7_copy_1 : decode cX7_copy 1 = .ok (.invokestatic 232, 3) := by decide +kernel
theorem dX7_copy_4 : decode cX7_copy 4 = .ok (.ifCond .eq 10, 3) := by decide +kernel
theorem dX7_copy_7 : decode cX7_copy 7 = .ok (.iload_n 3, 1) := by decide +kernel
theorem dX7_copy_8 : decode cX7_copy 8 = .ok (.invokestatic 232, 3) := by decide +kernel
theorem dX7_copy_11 : decode cX7_copy 11 = .ok (.ifCond .ne 5, 3) := by decide +kernel
theorem dX7_copy_14 : decode cX7_copy 14 = .ok (.iconst (-1), 1) := by decide +kernel
theorem dX7_copy_15 : decode cX7_copy 15 = .ok (.ireturn, 1) := by decide +kernel
theorem dX7_copy_16 : decode cX7_copy 16 = .ok (.aload_n 0, 1) := by decide +kernel
theorem dX7_copy_17 : decode cX7_copy 17 = .ok (.getfield 58, 3) := by decide +kernel
theorem dX7_copy_20 : decode cX7_copy 20 = .ok (.iload_n 1, 1) := by decide +kernel
theorem dX7_copy_21 : decode cX7_copy 21 = .ok (.aaload, 1) := by decide +kernel
theorem dX7_copy_22 : decode cX7_copy 22 = .ok (.astore 6, 2) := by decide +kernel
theorem dX7_copy_24 : decode cX7_copy 24 = .ok (.aload_n 0, 1) := by decide +kernel
theorem dX7_copy_25 : decode cX7_copy 25 = .ok (.getfield 58, 3) := by decide +kernel
theorem dX7_copy_28 : decode cX7_copy 28 = .ok (.iload_n 3, 1) := by decide +kernel
theorem dX7_copy_29 : decode cX7_copy 29 = .ok (.aaload, 1) := by decide +kernel
theorem dX7_copy_30 : decode cX7_copy 30 = .ok (.astore 7, 2) := by decide +kernel
theorem dX7_copy_32 : decode cX7_copy 32 = .ok (.aload 6, 2) := by decide +kernel
theorem dX7_copy_34 : decode cX7_copy 34 = .ok (.getfield 241, 3) := by decide +kernel
theorem dX7_copy_37 : decode cX7_copy 37 = .ok (.ifCond .eq 11, 3) := by decide +kernel
theorem dX7_copy_40 : decode cX7_copy 40 = .ok (.aload 7, 2) := by decide +kernel
theorem dX7_copy_42 : decode cX7_copy 42 = .ok (.getfield 241, 3) := by decide +kernel
theorem dX7_copy_45 : decode cX7_copy 45 = .ok (.ifCond .ne 6, 3) := by decide +kernel
theorem dX7_copy_48 : decode cX7_copy 48 = .ok (.bipush (-11), 2) := by decide +kernel
theorem dX7_copy_50 : decode cX7_copy 50 = .ok (.ireturn, 1) := by decide +kernel
theorem dX7_copy_51 : decode cX7_copy 51 = .ok (.aload 6, 2) := by decide +kernel
theorem dX7_copy_53 : decode cX7_copy 53 = .ok (.getfield 255, 3) := by decide +kernel
theorem dX7_copy_56 : decode cX7_copy 56 = .ok (.aload 7, 2) := by decide +kernel
theorem dX7_copy_58 : decode cX7_copy 58 = .ok (.getfield 255, 3) := by decide +kernel
theorem dX7_copy_61 : decode cX7_copy 61 = .ok (.if_icmp .eq 6, 3) := by decide +kernel
theorem dX7_copy_64 : decode cX7_copy 64 = .ok (.bipush (-12), 2) := by decide +kernel
theorem dX7_copy_66 : decode cX7_copy 66 = .ok (.ireturn, 1) := by decide +kernel
theorem dX7_copy_67 : decode cX7_copy 67 = .ok (.aload 6, 2) := by decide +kernel
theorem dX7_copy_69 : decode cX7_copy 69 = .ok (.iload_n 2, 1) := by decide +kernel
theorem dX7_copy_70 : decode cX7_copy 70 = .ok (.iload 5, 2) := by decide +kernel
theorem dX7_copy_72 : decode cX7_copy 72 = .ok (.invokevirtual 258, 3) := by decide +kernel
theorem dX7_copy_75 : decode cX7_copy 75 = .ok (.ifCond .eq 15, 3) := by decide +kernel
theorem dX7_copy_78 : decode cX7_copy 78 = .ok (.aload 7, 2) := by decide +kernel
theorem dX7_copy_80 : decode cX7_copy 80 = .ok (.iload 4, 2) := by decide +kernel
theorem dX7_copy_82 : decode cX7_copy 82 = .ok (.iload 5, 2) := by decide +kernel
theorem dX7_copy_84 : decode cX7_copy 84 = .ok (.invokevirtual 258, 3) := by decide +kernel
theorem dX7_copy_87 : decode cX7_copy 87 = .ok (.ifCond .ne 6, 3) := by decide +kernel
theorem dX7_copy_90 : decode cX7_copy 90 = .ok (.bipush (-13), 2) := by decide +kernel
theorem dX7_copy_92 : decode cX7_copy 92 = .ok (.ireturn, 1) := by decide +kernel
theorem dX7_copy_93 : decode cX7_copy 93 = .ok (.aload 6, 2) := by decide +kernel
theorem dX7_copy_95 : decode cX7_copy 95 = .ok (.getfield 261, 3) := by decide +kernel
theorem dX7_copy_98 : decode cX7_copy 98 = .ok (.iload_n 2, 1) := by decide +kernel
theorem dX7_copy_99 : decode cX7_copy 99 = .ok (.aload 7, 2) := by decide +kernel
theorem dX7_copy_101 : decode cX7_copy 101 = .ok (.getfield 261, 3) := by decide +kernel
theorem dX7_copy_104 : decode cX7_copy 104 = .ok (.iload 4, 2) := by decide +kernel
theorem dX7_copy_106 : decode cX7_copy 106 = .ok (.iload 5, 2) := by decide +kernel
theorem dX7_copy_108 : decode cX7_copy 108 = .ok (.invokestatic 265, 3) := by decide +kernel
theorem dX7_copy_111 : decode cX7_copy 111 = .ok (.iload 5, 2) := by decide +kernel
theorem dX7_copy_113 : decode cX7_copy 113 = .ok (.ireturn, 1) := by decide +kernel
theorem dX7_log_0 : decode cX7_log 0 = .ok (.aload_n 0, 1) := by decide +kernel
theorem dX7_log_1 : decode cX7_log 1 = .ok (.iload_n 1, 1) := by decide +kernel
theorem dX7_log_2 : decode cX7_log 2 = .ok (.iload_n 2, 1) := by decide +kernel
theorem dX7_log_3 : decode cX7_log 3 = .ok (.iload_n 3, 1) := by decide +kernel
theorem dX7_log_4 : decode cX7_log 4 = .ok (.iload 4, 2) := by decide +kernel
theorem dX7_log_6 : decode cX7_log 6 = .ok (.invokevirtual 271, 3) := by decide +kernel
theorem dX7_log_9 : decode cX7_log 9 = .ok (.ifCond .eq 16, 3) := by decide +kernel
theorem dX7_log_12 : decode cX7_log 12 = .ok (.iload 6, 2) := by decide +kernel
theorem dX7_log_14 : decode cX7_log 14 = .ok (.iconst 1, 1) := by decide +kernel
theorem dX7_log_15 : decode cX7_log 15 = .ok (.if_icmp .lt 10, 3) := by decide +kernel
theorem dX7_log_18 : decode cX7_log 18 = .ok (.iload 6, 2) := by decide +kernel
theorem dX7_log_20 : decode cX7_log 20 = .ok (.bipush 24, 2) := by decide +kernel
theorem dX7_log_22 : decode cX7_log 22 = .ok (.if_icmp .le 5, 3) := by decide +kernel
theorem dX7_log_25 : decode cX7_log 25 = .ok (.iconst (-1), 1) := by decide +kernel
theorem dX7_log_26 : decode cX7_log 26 = .ok (.ireturn, 1) := by decide +kernel
theorem dX7_log_27 : decode cX7_log 27 = .ok (.aload_n 0, 1) := by decide +kernel
theorem dX7_log_28 : decode cX7_log 28 = .ok (.iload_n 3, 1) := by decide +kernel
theorem dX7_log_29 : decode cX7_log 29 = .ok (.iload 4, 2) := by decide +kernel
theorem dX7_log_31 : decode cX7_log 31 = .ok (.iload 5, 2) := by decide +kernel
theorem dX7_log_33 : decode cX7_log 33 = .ok (.iload 6, 2) := by decide +kernel
theorem dX7_log_35 : decode cX7_log 35 = .ok (.invokevirtual 248, 3) := by decide +kernel
theorem dX7_log_38 : decode cX7_log 38 = .ok (.istore 7, 2) := by decide +kernel
theorem dX7_log_40 : decode cX7_log 40 = .ok (.iload 7, 2) := by decide +kernel
theorem dX7_log_42 : decode cX7_log 42 = .ok (.ifCond .ge 6, 3) := by decide +kernel
theorem dX7_log_45 : decode cX7_log 45 = .ok (.iload 7, 2) := by decide +kernel
theorem dX7_log_47 : decode cX7_log 47 = .ok (.ireturn, 1) := by decide +kernel
theorem dX7_log_48 : decode cX7_log 48 = .ok (.aload_n 0, 1) := by decide +kernel
theorem dX7_log_49 : decode cX7_log 49 = .ok (.getfield 58, 3) := by decide +kernel
theorem dX7_log_52 : decode cX7_log 52 = .ok (.iload_n 3, 1) := by decide +kernel
theorem dX7_log_53 : decode cX7_log 53 = .ok (.aaload, 1) := by decide +kernel
theorem dX7_log_54 : decode cX7_log 54 = .ok (.astore 8, 2) := by decide +kernel
theorem dX7_log_56 : decode cX7_log 56 = .ok (.aload 8, 2) := by decide +kernel
theorem dX7_log_58 : decode cX7_log 58 = .ok (.iload 5, 2) := by decide +kernel
theorem dX7_log_60 : decode cX7_log 60 = .ok (.iload 6, 2) := by decide +kernel
theorem dX7_log_62 : decode cX7_log 62 = .ok (.iconst 1, 1) := by decide +kernel
theorem dX7_log_63 : decode cX7_log 63 = .ok (.invokevirtual 275, 3) := by decide +kernel
theorem dX7_log_66 : decode cX7_log 66 = .ok (.ifCond .ne 6, 3) := by decide +kernel
theorem dX7_log_69 : decode cX7_log 69 = .ok (.bipush (-2), 2) := by decide +kernel
theorem dX7_log_71 : decode cX7_log 71 = .ok (.ireturn, 1) := by decide +kernel
theorem dX7_log_72 : decode cX7_log 72 = .ok (.aload_n 0, 1) := by decide +kernel
theorem dX7_log_73 : decode cX7_log 73 = .ok (.getfield 45, 3) := by decide +kernel
theorem dX7_log_76 : decode cX7_log 76 = .ok (.iconst 0, 1) := by decide +kernel
theorem dX7_log_77 : decode cX7_log 77 = .ok (.aaload, 1) := by decide +kernel
theorem dX7_log_78 : decode cX7_log 78 = .ok (.astore 9, 2) := by decide +kernel
theorem dX7_log_80 : decode cX7_log 80 = .ok (.aload 9, 2) := by decide +kernel
theorem dX7_log_82 : decode cX7_log 82 = .ok (.aload_n 0, 1) := by decide +kernel
theorem dX7_log_83 : decode cX7_log 83 = .ok (.getfield 19, 3) := by decide +kernel
theorem dX7_log_86 : decode cX7_log 86 = .ok (.iload_n 1, 1) := by decide +kernel
theorem dX7_log_87 : decode cX7_log 87 = .ok (.invokevirtual 174, 3) := by decide +kernel
theorem dX7_log_90 : decode cX7_log 90 = .ok (.iload 5, 2) := by decide +kernel
theorem dX7_log_92 : decode cX7_log 92 = .ok (.istore 10, 2) := by decide +kernel
theorem dX7_log_94 : decode cX7_log 94 = .ok (.iload 10, 2) := by decide +kernel
theorem dX7_log_96 : decode cX7_log 96 = .ok (.iload 5, 2) := by decide +kernel
theorem dX7_log_98 : decode cX7_log 98 = .ok (.iload 6, 2) := by decide +kernel
theorem dX7_log_100 : decode cX7_log 100 = .ok (.iadd, 1) := by decide +kernel
theorem dX7_log_101 : decode cX7_log 101 = .ok (.if_icmp .ge 38, 3) := by decide +kernel
theorem dX7_log_104 : decode cX7_log 104 = .ok (.aload 9, 2) := by decide +kernel
theorem dX7_log_106 : decode cX7_log 106 = .ok (.iload_n 2, 1) := by decide +kernel
theorem dX7_log_107 : decode cX7_log 107 = .ok (.aload 8, 2) := by decide +kernel
theorem dX7_log_109 : decode cX7_log 109 = .ok (.getfield 261, 3) := by decide +kernel
theorem dX7_log_112 : decode cX7_log 112 = .ok (.iload 10, 2) := by decide +kernel
theorem dX7_log_114 : decode cX7_log 114 = .ok (.laload, 1) := by decide +kernel
theorem dX7_log_115 : decode cX7_log 115 = .ok (.l2i, 1) := by decide +kernel
theorem dX7_log_116 : decode cX7_log 116 = .ok (.invokevirtual 146, 3) := by decide +kernel
theorem dX7_log_119 : decode cX7_log 119 = .ok (.aload 8, 2) := by decide +kernel
theorem dX7_log_121 : decode cX7_log 121 = .ok (.iload 10, 2) := by decide +kernel
theorem dX7_log_123 : decode cX7_log 123 = .ok (.aload 9, 2) := by decide +kernel
theorem dX7_log_125 : decode cX7_log 125 = .ok (.getfield 279, 3) := by decide +kernel
theorem dX7_log_128 : decode cX7_log 128 = .ok (.i2l, 1) := by decide +kernel
theorem dX7_log_129 : decode cX7_log 129 = .ok (.invokevirtual 251, 3) := by decide +kernel
theorem dX7_log_132 : decode cX7_log 132 = .ok (.pop2, 1) := by decide +kernel
theorem dX7_log_133 : decode cX7_log 133 = .ok (.iinc 10 1, 3) := by decide +kernel
theorem dX7_log_136 : decode cX7_log 136 = .ok (.goto (-42), 3) := by decide +kernel
theorem dX7_log_139 : decode cX7_log 139 = .ok (.iload 6, 2) := by decide +kernel
theorem dX7_log_141 : decode cX7_log 141 = .ok (.ireturn, 1) := by decide +kernel
theorem dX7_rows_0 : decode cX7_rows 0 = .ok (.aload_n 0, 1) := by decide +kernel
theorem dX7_rows_1 : decode cX7_rows 1 = .ok (.iload_n 1, 1) := by decide +kernel
theorem dX7_rows_2 : decode cX7_rows 2 = .ok (.iload_n 2, 1) := by decide +kernel
theorem dX7_rows_3 : decode cX7_rows 3 = .ok (.iload_n 3, 1) := by decide +kernel
theorem dX7_rows_4 : decode cX7_rows 4 = .ok (.iload 4, 2) := by decide +kernel
theorem dX7_rows_6 : decode cX7_rows 6 = .ok (.invokevirtual 271, 3) := by decide +kernel
theorem dX7_rows_9 : decode cX7_rows 9 = .ok (.ifCond .eq 24, 3) := by decide +kernel
theorem dX7_rows_12 : decode cX7_rows 12 = .ok (.iload 6, 2) := by decide +kernel
theorem dX7_rows_14 : decode cX7_rows 14 = .ok (.iconst 1, 1) := by decide +kernel
theorem dX7_rows_15 : decode cX7_rows 15 = .ok (.if_icmp .lt 18, 3) := by decide +kernel
theorem dX7_rows_18 : decode cX7_rows 18 = .ok (.iload 6, 2) := by decide +kernel
theorem dX7_rows_20 : decode cX7_rows 20 = .ok (.bipush 6, 2) := by decide +kernel
theorem dX7_rows_22 : decode cX7_rows 22 = .ok (.if_icmp .gt 11, 3) := by decide +kernel
theorem dX7_rows_25 : decode cX7_rows 25 = .ok (.iload 7, 2) := by decide +kernel
theorem dX7_rows_27 : decode cX7_rows 27 = .ok (.invokestatic 215, 3) := by decide +kernel
theorem dX7_rows_30 : decode cX7_rows 30 = .ok (.ifCond .ne 5, 3) := by decide +kernel
theorem dX7_rows_33 : decode cX7_rows 33 = .ok (.iconst (-1), 1) := by decide +kernel
theorem dX7_rows_34 : decode cX7_rows 34 = .ok (.ireturn, 1) := by decide +kernel
theorem dX7_rows_35 : decode cX7_rows 35 = .ok (.aload_n 0, 1) := by decide +kernel
theorem dX7_rows_36 : decode cX7_rows 36 = .ok (.iload_n 3, 1) := by decide +kernel
theorem dX7_rows_37 : decode cX7_rows 37 = .ok (.iload 4, 2) := by decide +kernel
theorem dX7_rows_39 : decode cX7_rows 39 = .ok (.iload 5, 2) := by decide +kernel
theorem dX7_rows_41 : decode cX7_rows 41 = .ok (.iload 6, 2) := by decide +kernel
theorem dX7_rows_43 : decode cX7_rows 43 = .ok (.invokevirtual 248, 3) := by decide +kernel
theorem dX7_rows_46 : decode cX7_rows 46 = .ok (.istore 8, 2) := by decide +kernel
theorem dX7_rows_48 : decode cX7_rows 48 = .ok (.iload 8, 2) := by decide +kernel
theorem dX7_rows_50 : decode cX7_rows 50 = .ok (.ifCond .ge 6, 3) := by decide +kernel
theorem dX7_rows_53 : decode cX7_rows 53 = .ok (.iload 8, 2) := by decide +kernel
theorem dX7_rows_55 : decode cX7_rows 55 = .ok (.ireturn, 1) := by decide +kernel
theorem dX7_rows_56 : decode cX7_rows 56 = .ok (.aload_n 0, 1) := by decide +kernel
theorem dX7_rows_57 : decode cX7_rows 57 = .ok (.getfield 45, 3) := by decide +kernel
theorem dX7_rows_60 : decode cX7_rows 60 = .ok (.iconst 0, 1) := by decide +kernel
theorem dX7_rows_61 : decode cX7_rows 61 = .ok (.aaload, 1) := by decide +kernel
theorem dX7_rows_62 : decode cX7_rows 62 = .ok (.aload_n 0, 1) := by decide +kernel
theorem dX7_rows_63 : decode cX7_rows 63 = .ok (.getfield 19, 3) := by decide +kernel
theorem dX7_rows_66 : decode cX7_rows 66 = .ok (.iload_n 1, 1) := by decide +kernel
theorem dX7_rows_67 : decode cX7_rows 67 = .ok (.invokevirtual 174, 3) := by decide +kernel
theorem dX7_rows_70 : decode cX7_rows 70 = .ok (.iload 7, 2) := by decide +kernel
theorem dX7_rows_72 : decode cX7_rows 72 = .ok (.ifCond .ne 22, 3) := by decide +kernel
theorem dX7_rows_75 : decode cX7_rows 75 = .ok (.aload_n 0, 1) := by decide +kernel
theorem dX7_rows_76 : decode cX7_rows 76 = .ok (.iconst 0, 1) := by decide +kernel
theorem dX7_rows_77 : decode cX7_rows 77 = .ok (.iload_n 2, 1) := by decide +kernel
theorem dX7_rows_78 : decode cX7_rows 78 = .ok (.aload_n 0, 1) := by decide +kernel
theorem dX7_rows_79 : decode cX7_rows 79 = .ok (.getfield 58, 3) := by decide +kernel
theorem dX7_rows_82 : decode cX7_rows 82 = .ok (.iload_n 3, 1) := by decide +kernel
theorem dX7_rows_83 : decode cX7_rows 83 = .ok (.aaload, 1) := by decide +kernel
theorem dX7_rows_84 : decode cX7_rows 84 = .ok (.iload 5, 2) := by decide +kernel
theorem dX7_rows_86 : decode cX7_rows 86 = .ok (.iload 6, 2) := by decide +kernel
theorem dX7_rows_88 : decode cX7_rows 88 = .ok (.invokevirtual 281, 3) := by decide +kernel
theorem dX7_rows_91 : decode cX7_rows 91 = .ok (.goto 20, 3) := by decide +kernel
theorem dX7_rows_94 : decode cX7_rows 94 = .ok (.aload_n 0, 1) := by decide +kernel
theorem dX7_rows_95 : decode cX7_rows 95 = .ok (.iconst 0, 1) := by decide +kernel
theorem dX7_rows_96 : decode cX7_rows 96 = .ok (.iconst 0, 1) := by decide +kernel
theorem dX7_rows_97 : decode cX7_rows 97 = .ok (.iload_n 2, 1) := by decide +kernel
theorem dX7_rows_98 : decode cX7_rows 98 = .ok (.aload_n 0, 1) := by decide +kernel
theorem dX7_rows_99 : decode cX7_rows 99 = .ok (.getfield 58, 3) := by decide +kernel
theorem dX7_rows_102 : decode cX7_rows 102 = .ok (.iload_n 3, 1) := by decide +kernel
theorem dX7_rows_103 : decode cX7_rows 103 = .ok (.aaload, 1) := by decide +kernel
theorem dX7_rows_104 : decode cX7_rows 104 = .ok (.iload 5, 2) := by decide +kernel
theorem dX7_rows_106 : decode cX7_rows 106 = .ok (.iload 6, 2) := by decide +kernel
theorem dX7_rows_108 : decode cX7_rows 108 = .ok (.invokevirtual 285, 3) := by decide +kernel
theorem dX7_rows_111 : decode cX7_rows 111 = .ok (.ireturn, 1) := by decide +kernel
theorem dX7_kinds_0 : decode cX7_kinds 0 = .ok (.aload_n 0, 1) := by decide +kernel
theorem dX7_kinds_1 : decode cX7_kinds 1 = .ok (.iload_n 1, 1) := by decide +kernel
theorem dX7_kinds_2 : decode cX7_kinds 2 = .ok (.iload_n 2, 1) := by decide +kernel
theorem dX7_kinds_3 : decode cX7_kinds 3 = .ok (.iload_n 3, 1) := by decide +kernel
theorem dX7_kinds_4 : decode cX7_kinds 4 = .ok (.iload 4, 2) := by decide +kernel
theorem dX7_kinds_6 : decode cX7_kinds 6 = .ok (.invokevirtual 271, 3) := by decide +kernel
theorem dX7_kinds_9 : decode cX7_kinds 9 = .ok (.ifCond .eq 24, 3) := by decide +kernel
theorem dX7_kinds_12 : decode cX7_kinds 12 = .ok (.iload 6, 2) := by decide +kernel
theorem dX7_kinds_14 : decode cX7_kinds 14 = .ok (.iconst 1, 1) := by decide +kernel
theorem dX7_kinds_15 : decode cX7_kinds 15 = .ok (.if_icmp .lt 18, 3) := by decide +kernel
theorem dX7_kinds_18 : decode cX7_kinds 18 = .ok (.iload 6, 2) := by decide +kernel
theorem dX7_kinds_20 : decode cX7_kinds 20 = .ok (.bipush 10, 2) := by decide +kernel
theorem dX7_kinds_22 : decode cX7_kinds 22 = .ok (.if_icmp .gt 11, 3) := by decide +kernel
theorem dX7_kinds_25 : decode cX7_kinds 25 = .ok (.iload 7, 2) := by decide +kernel
theorem dX7_kinds_27 : decode cX7_kinds 27 = .ok (.invokestatic 215, 3) := by decide +kernel
theorem dX7_kinds_30 : decode cX7_kinds 30 = .ok (.ifCond .ne 5, 3) := by decide +kernel
theorem dX7_kinds_33 : decode cX7_kinds 33 = .ok (.iconst (-1), 1) := by decide +kernel
theorem dX7_kinds_34 : decode cX7_kinds 34 = .ok (.ireturn, 1) := by decide +kernel
theorem dX7_kinds_35 : decode cX7_kinds 35 = .ok (.aload_n 0, 1) := by decide +kernel
theorem dX7_kinds_36 : decode cX7_kinds 36 = .ok (.iload_n 3, 1) := by decide +kernel
theorem dX7_kinds_37 : decode cX7_kinds 37 = .ok (.iload 4, 2) := by decide +kernel
theorem dX7_kinds_39 : decode cX7_kinds 39 = .ok (.iload 5, 2) := by decide +kernel
theorem dX7_kinds_41 : decode cX7_kinds 41 = .ok (.iconst 2, 1) := by decide +kernel
theorem dX7_kinds_42 : decode cX7_kinds 42 = .ok (.iload 6, 2) := by decide +kernel
theorem dX7_kinds_44 : decode cX7_kinds 44 = .ok (.imul, 1) := by decide +kernel
theorem dX7_kinds_45 : decode cX7_kinds 45 = .ok (.invokevirtual 248, 3) := by decide +kernel
theorem dX7_kinds_48 : decode cX7_kinds 48 = .ok (.istore 8, 2) := by decide +kernel
theorem dX7_kinds_50 : decode cX7_kinds 50 = .ok (.iload 8, 2) := by decide +kernel
theorem dX7_kinds_52 : decode cX7_kinds 52 = .ok (.ifCond .ge 6, 3) := by decide +kernel
theorem dX7_kinds_55 : decode cX7_kinds 55 = .ok (.iload 8, 2) := by decide +kernel
theorem dX7_kinds_57 : decode cX7_kinds 57 = .ok (.ireturn, 1) := by decide +kernel
theorem dX7_kinds_58 : decode cX7_kinds 58 = .ok (.aload_n 0, 1) := by decide +kernel
theorem dX7_kinds_59 : decode cX7_kinds 59 = .ok (.getfield 58, 3) := by decide +kernel
theorem dX7_kinds_62 : decode cX7_kinds 62 = .ok (.iload_n 3, 1) := by decide +kernel
theorem dX7_kinds_63 : decode cX7_kinds 63 = .ok (.aaload, 1) := by decide +kernel
theorem dX7_kinds_64 : decode cX7_kinds 64 = .ok (.iload 5, 2) := by decide +kernel
theorem dX7_kinds_66 : decode cX7_kinds 66 = .ok (.iload 6, 2) := by decide +kernel
theorem dX7_kinds_68 : decode cX7_kinds 68 = .ok (.iconst 2, 1) := by decide +kernel
theorem dX7_kinds_69 : decode cX7_kinds 69 = .ok (.invokevirtual 275, 3) := by decide +kernel
theorem dX7_kinds_72 : decode cX7_kinds 72 = .ok (.ifCond .ne 6, 3) := by decide +kernel
theorem dX7_kinds_75 : decode cX7_kinds 75 = .ok (.bipush (-2), 2) := by decide +kernel
theorem dX7_kinds_77 : decode cX7_kinds 77 = .ok (.ireturn, 1) := by decide +kernel
theorem dX7_kinds_78 : decode cX7_kinds 78 = .ok (.aload_n 0, 1) := by decide +kernel
theorem dX7_kinds_79 : decode cX7_kinds 79 = .ok (.iload_n 1, 1) := by decide +kernel
theorem dX7_kinds_80 : decode cX7_kinds 80 = .ok (.iload_n 2, 1) := by decide +kernel
theorem dX7_kinds_81 : decode cX7_kinds 81 = .ok (.aload_n 0, 1) := by decide +kernel
theorem dX7_kinds_82 : decode cX7_kinds 82 = .ok (.getfield 58, 3) := by decide +kernel
theorem dX7_kinds_85 : decode cX7_kinds 85 = .ok (.iload_n 3, 1) := by decide +kernel
theorem dX7_kinds_86 : decode cX7_kinds 86 = .ok (.aaload, 1) := by decide +kernel
theorem dX7_kinds_87 : decode cX7_kinds 87 = .ok (.iload 5, 2) := by decide +kernel
theorem dX7_kinds_89 : decode cX7_kinds 89 = .ok (.iload 6, 2) := by decide +kernel
theorem dX7_kinds_91 : decode cX7_kinds 91 = .ok (.invokevirtual 289, 3) := by decide +kernel
theorem dX7_kinds_94 : decode cX7_kinds 94 = .ok (.istore 9, 2) := by decide +kernel
theorem dX7_kinds_96 : decode cX7_kinds 96 = .ok (.iload 7, 2) := by decide +kernel
theorem dX7_kinds_98 : decode cX7_kinds 98 = .ok (.ifCond .ne 8, 3) := by decide +kernel
theorem dX7_kinds_101 : decode cX7_kinds 101 = .ok (.iload 9, 2) := by decide +kernel
theorem dX7_kinds_103 : decode cX7_kinds 103 = .ok (.goto 10, 3) := by decide +kernel
theorem dX7_kinds_106 : decode cX7_kinds 106 = .ok (.aload_n 0, 1) := by decide +kernel
theorem dX7_kinds_107 : decode cX7_kinds 107 = .ok (.iload 9, 2) := by decide +kernel
theorem dX7_kinds_109 : decode cX7_kinds 109 = .ok (.iload_n 2, 1) := by decide +kernel
theorem dX7_kinds_110 : decode cX7_kinds 110 = .ok (.invokevirtual 292, 3) := by decide +kernel
theorem dX7_kinds_113 : decode cX7_kinds 113 = .ok (.ireturn, 1) := by decide +kernel
theorem dX7_fog_0 : decode cX7_fog 0 = .ok (.aload_n 0, 1) := by decide +kernel
theorem dX7_fog_1 : decode cX7_fog 1 = .ok (.iload_n 1, 1) := by decide +kernel
theorem dX7_fog_2 : decode cX7_fog 2 = .ok (.iload_n 2, 1) := by decide +kernel
theorem dX7_fog_3 : decode cX7_fog 3 = .ok (.iload_n 3, 1) := by decide +kernel
theorem dX7_fog_4 : decode cX7_fog 4 = .ok (.iconst 0, 1) := by decide +kernel
theorem dX7_fog_5 : decode cX7_fog 5 = .ok (.invokevirtual 271, 3) := by decide +kernel
theorem dX7_fog_8 : decode cX7_fog 8 = .ok (.ifCond .eq 51, 3) := by decide +kernel
theorem dX7_fog_11 : decode cX7_fog 11 = .ok (.iload 4, 2) := by decide +kernel
theorem dX7_fog_13 : decode cX7_fog 13 = .ok (.iconst 1, 1) := by decide +kernel
theorem dX7_fog_14 : decode cX7_fog 14 = .ok (.if_icmp .lt 45, 3) := by decide +kernel
theorem dX7_fog_17 : decode cX7_fog 17 = .ok (.iload 4, 2) := by decide +kernel
theorem dX7_fog_19 : decode cX7_fog 19 = .ok (.bipush 6, 2) := by decide +kernel
theorem dX7_fog_21 : decode cX7_fog 21 = .ok (.if_icmp .gt 38, 3) := by decide +kernel
theorem dX7_fog_24 : decode cX7_fog 24 = .ok (.aload_n 0, 1) := by decide +kernel
theorem dX7_fog_25 : decode cX7_fog 25 = .ok (.getfield 19, 3) := by decide +kernel
theorem dX7_fog_28 : decode cX7_fog 28 = .ok (.getfield 32, 3) := by decide +kernel
theorem dX7_fog_31 : decode cX7_fog 31 = .ok (.iload 5, 2) := by decide +kernel
theorem dX7_fog_33 : decode cX7_fog 33 = .ok (.invokevirtual 112, 3) := by decide +kernel
theorem dX7_fog_36 : decode cX7_fog 36 = .ok (.ifCond .eq 23, 3) := by decide +kernel
theorem dX7_fog_39 : decode cX7_fog 39 = .ok (.iload 6, 2) := by decide +kernel
theorem dX7_fog_41 : decode cX7_fog 41 = .ok (.ifCond .lt 18, 3) := by decide +kernel
theorem dX7_fog_44 : decode cX7_fog 44 = .ok (.iload 6, 2) := by decide +kernel
theorem dX7_fog_46 : decode cX7_fog 46 = .ok (.bipush 10, 2) := by decide +kernel
theorem dX7_fog_48 : decode cX7_fog 48 = .ok (.if_icmp .gt 11, 3) := by decide +kernel
theorem dX7_fog_51 : decode cX7_fog 51 = .ok (.iload 7, 2) := by decide +kernel
theorem dX7_fog_53 : decode cX7_fog 53 = .ok (.invokestatic 215, 3) := by decide +kernel
theorem dX7_fog_56 : decode cX7_fog 56 = .ok (.ifCond .ne 5, 3) := by decide +kernel
theorem dX7_fog_59 : decode cX7_fog 59 = .ok (.iconst (-1), 1) := by decide +kernel
theorem dX7_fog_60 : decode cX7_fog 60 = .ok (.ireturn, 1) := by decide +kernel
theorem dX7_fog_61 : decode cX7_fog 61 = .ok (.aload_n 0, 1) := by decide +kernel
theorem dX7_fog_62 : decode cX7_fog 62 = .ok (.iload_n 3, 1) := by decide +kernel
theorem dX7_fog_63 : decode cX7_fog 63 = .ok (.iconst 0, 1) := by decide +kernel
theorem dX7_fog_64 : decode cX7_fog 64 = .ok (.iconst 0, 1) := by decide +kernel
theorem dX7_fog_65 : decode cX7_fog 65 = .ok (.iload 4, 2) := by decide +kernel
theorem dX7_fog_67 : decode cX7_fog 67 = .ok (.invokevirtual 248, 3) := by decide +kernel
theorem dX7_fog_70 : decode cX7_fog 70 = .ok (.istore 8, 2) := by decide +kernel
theorem dX7_fog_72 : decode cX7_fog 72 = .ok (.iload 8, 2) := by decide +kernel
theorem dX7_fog_74 : decode cX7_fog 74 = .ok (.ifCond .ge 6, 3) := by decide +kernel
theorem dX7_fog_77 : decode cX7_fog 77 = .ok (.iload 8, 2) := by decide +kernel
theorem dX7_fog_79 : decode cX7_fog 79 = .ok (.ireturn, 1) := by decide +kernel
theorem dX7_fog_80 : decode cX7_fog 80 = .ok (.aload_n 0, 1) := by decide +kernel
theorem dX7_fog_81 : decode cX7_fog 81 = .ok (.getfield 58, 3) := by decide +kernel
theorem dX7_fog_84 : decode cX7_fog 84 = .ok (.iload_n 3, 1) := by decide +kernel
theorem dX7_fog_85 : decode cX7_fog 85 = .ok (.aaload, 1) := by decide +kernel
theorem dX7_fog_86 : decode cX7_fog 86 = .ok (.iconst 0, 1) := by decide +kernel
theorem dX7_fog_87 : decode cX7_fog 87 = .ok (.iload 4, 2) := by decide +kernel
theorem dX7_fog_89 : decode cX7_fog 89 = .ok (.iconst 1, 1) := by decide +kernel
theorem dX7_fog_90 : decode cX7_fog 90 = .ok (.invokevirtual 275, 3) := by decide +kernel
theorem dX7_fog_93 : decode cX7_fog 93 = .ok (.ifCond .ne 6, 3) := by decide +kernel
theorem dX7_fog_96 : decode cX7_fog 96 = .ok (.bipush (-2), 2) := by decide +kernel
theorem dX7_fog_98 : decode cX7_fog 98 = .ok (.ireturn, 1) := by decide +kernel
theorem dX7_fog_99 : decode cX7_fog 99 = .ok (.aload_n 0, 1) := by decide +kernel
theorem dX7_fog_100 : decode cX7_fog 100 = .ok (.getfield 45, 3) := by decide +kernel
theorem dX7_fog_103 : decode cX7_fog 103 = .ok (.iconst 0, 1) := by decide +kernel
theorem dX7_fog_104 : decode cX7_fog 104 = .ok (.aaload, 1) := by decide +kernel
theorem dX7_fog_105 : decode cX7_fog 105 = .ok (.aload_n 0, 1) := by decide +kernel
theorem dX7_fog_106 : decode cX7_fog 106 = .ok (.getfield 19, 3) := by decide +kernel
theorem dX7_fog_109 : decode cX7_fog 109 = .ok (.iload_n 1, 1) := by decide +kernel
theorem dX7_fog_110 : decode cX7_fog 110 = .ok (.invokevirtual 174, 3) := by decide +kernel
theorem dX7_fog_113 : decode cX7_fog 113 = .ok (.aload_n 0, 1) := by decide +kernel
theorem dX7_fog_114 : decode cX7_fog 114 = .ok (.iconst 0, 1) := by decide +kernel
theorem dX7_fog_115 : decode cX7_fog 115 = .ok (.iload_n 2, 1) := by decide +kernel
theorem dX7_fog_116 : decode cX7_fog 116 = .ok (.aload_n 0, 1) := by decide +kernel
theorem dX7_fog_117 : decode cX7_fog 117 = .ok (.getfield 58, 3) := by decide +kernel
theorem dX7_fog_120 : decode cX7_fog 120 = .ok (.iload_n 3, 1) := by decide +kernel
theorem dX7_fog_121 : decode cX7_fog 121 = .ok (.aaload, 1) := by decide +kernel
theorem dX7_fog_122 : decode cX7_fog 122 = .ok (.iload 4, 2) := by decide +kernel
theorem dX7_fog_124 : decode cX7_fog 124 = .ok (.iload 5, 2) := by decide +kernel
theorem dX7_fog_126 : decode cX7_fog 126 = .ok (.iload 6, 2) := by decide +kernel
theorem dX7_fog_128 : decode cX7_fog 128 = .ok (.invokevirtual 295, 3) := by decide +kernel
theorem dX7_fog_131 : decode cX7_fog 131 = .ok (.istore 9, 2) := by decide +kernel
theorem dX7_fog_133 : decode cX7_fog 133 = .ok (.iload 4, 2) := by decide +kernel
theorem dX7_fog_135 : decode cX7_fog 135 = .ok (.invokestatic 299, 3) := by decide +kernel
theorem dX7_fog_138 : decode cX7_fog 138 = .ok (.istore 10, 2) := by decide +kernel
theorem dX7_fog_140 : decode cX7_fog 140 = .ok (.iload 9, 2) := by decide +kernel
theorem dX7_fog_142 : decode cX7_fog 142 = .ok (.iload 10, 2) := by decide +kernel
theorem dX7_fog_144 : decode cX7_fog 144 = .ok (.invokestatic 302, 3) := by decide +kernel
theorem dX7_fog_147 : decode cX7_fog 147 = .ok (.istore 11, 2) := by decide +kernel
theorem dX7_fog_149 : decode cX7_fog 149 = .ok (.iload 11, 2) := by decide +kernel
theorem dX7_fog_151 : decode cX7_fog 151 = .ok (.ifCond .gt 5, 3) := by decide +kernel
theorem dX7_fog_154 : decode cX7_fog 154 = .ok (.iconst (-1), 1) := by decide +kernel
theorem dX7_fog_155 : decode cX7_fog 155 = .ok (.ireturn, 1) := by decide +kernel
theorem dX7_fog_156 : decode cX7_fog 156 = .ok (.iload 7, 2) := by decide +kernel
theorem dX7_fog_158 : decode cX7_fog 158 = .ok (.ifCond .ne 8, 3) := by decide +kernel
theorem dX7_fog_161 : decode cX7_fog 161 = .ok (.iload 9, 2) := by decide +kernel
theorem dX7_fog_163 : decode cX7_fog 163 = .ok (.goto 5, 3) := by decide +kernel
theorem dX7_fog_166 : decode cX7_fog 166 = .ok (.iload 10, 2) := by decide +kernel
theorem dX7_fog_168 : decode cX7_fog 168 = .ok (.iload 11, 2) := by decide +kernel
theorem dX7_fog_170 : decode cX7_fog 170 = .ok (.idiv, 1) := by decide +kernel
theorem dX7_fog_171 : decode cX7_fog 171 = .ok (.ireturn, 1) := by decide +kernel
theorem dX7_count_0 : decode cX7_count 0 = .ok (.iload_n 1, 1) := by decide +kernel
theorem dX7_count_1 : decode cX7_count 1 = .ok (.tableswitch 144 0 9 #[55, 63, 74, 85, 93, 101, 109, 120, 128, 136], 55) := by decide +kernel
theorem dX7_count_56 : decode cX7_count 56 = .ok (.aload_n 0, 1) := by decide +kernel
theorem dX7_count_57 : decode cX7_count 57 = .ok (.getfield 19, 3) := by decide +kernel
theorem dX7_count_60 : decode cX7_count 60 = .ok (.getfield 90, 3) := by decide +kernel
theorem dX7_count_63 : decode cX7_count 63 = .ok (.ireturn, 1) := by decide +kernel
theorem dX7_count_64 : decode cX7_count 64 = .ok (.aload_n 0, 1) := by decide +kernel
theorem dX7_count_65 : decode cX7_count 65 = .ok (.getfield 19, 3) := by decide +kernel
theorem dX7_count_68 : decode cX7_count 68 = .ok (.getfield 32, 3) := by decide +kernel
theorem dX7_count_71 : decode cX7_count 71 = .ok (.getfield 305, 3) := by decide +kernel
theorem dX7_count_74 : decode cX7_count 74 = .ok (.ireturn, 1) := by decide +kernel
theorem dX7_count_75 : decode cX7_count 75 = .ok (.aload_n 0, 1) := by decide +kernel
theorem dX7_count_76 : decode cX7_count 76 = .ok (.getfield 19, 3) := by decide +kernel
theorem dX7_count_79 : decode cX7_count 79 = .ok (.getfield 32, 3) := by decide +kernel
theorem dX7_count_82 : decode cX7_count 82 = .ok (.getfield 308, 3) := by decide +kernel
theorem dX7_count_85 : decode cX7_count 85 = .ok (.ireturn, 1) := by decide +kernel
theorem dX7_count_86 : decode cX7_count 86 = .ok (.aload_n 0, 1) := by decide +kernel
theorem dX7_count_87 : decode cX7_count 87 = .ok (.getfield 19, 3) := by decide +kernel
theorem dX7_count_90 : decode cX7_count 90 = .ok (.getfield 139, 3) := by decide +kernel
theorem dX7_count_93 : decode cX7_count 93 = .ok (.ireturn, 1) := by decide +kernel
theorem dX7_count_94 : decode cX7_count 94 = .ok (.aload_n 0, 1) := by decide +kernel
theorem dX7_count_95 : decode cX7_count 95 = .ok (.getfield 19, 3) := by decide +kernel
theorem dX7_count_98 : decode cX7_count 98 = .ok (.invokevirtual 226, 3) := by decide +kernel
theorem dX7_count_101 : decode cX7_count 101 = .ok (.ireturn, 1) := by decide +kernel
theorem dX7_count_102 : decode cX7_count 102 = .ok (.aload_n 0, 1) := by decide +kernel
theorem dX7_count_103 : decode cX7_count 103 = .ok (.getfield 19, 3) := by decide +kernel
theorem dX7_count_106 : decode cX7_count 106 = .ok (.invokevirtual 229, 3) := by decide +kernel
theorem dX7_count_109 : decode cX7_count 109 = .ok (.ireturn, 1) := by decide +kernel
theorem dX7_count_110 : decode cX7_count 110 = .ok (.aload_n 0, 1) := by decide +kernel
theorem dX7_count_111 : decode cX7_count 111 = .ok (.getfield 19, 3) := by decide +kernel
theorem dX7_count_114 : decode cX7_count 114 = .ok (.getfield 32, 3) := by decide +kernel
theorem dX7_count_117 : decode cX7_count 117 = .ok (.invokevirtual 207, 3) := by decide +kernel
theorem dX7_count_120 : decode cX7_count 120 = .ok (.ireturn, 1) := by decide +kernel
theorem dX7_count_121 : decode cX7_count 121 = .ok (.aload_n 0, 1) := by decide +kernel
theorem dX7_count_122 : decode cX7_count 122 = .ok (.getfield 19, 3) := by decide +kernel
theorem dX7_count_125 : decode cX7_count 125 = .ok (.invokevirtual 311, 3) := by decide +kernel
theorem dX7_count_128 : decode cX7_count 128 = .ok (.ireturn, 1) := by decide +kernel
theorem dX7_count_129 : decode cX7_count 129 = .ok (.aload_n 0, 1) := by decide +kernel
theorem dX7_count_130 : decode cX7_count 130 = .ok (.getfield 39, 3) := by decide +kernel
theorem dX7_count_133 : decode cX7_count 133 = .ok (.getfield 168, 3) := by decide +kernel
theorem dX7_count_136 : decode cX7_count 136 = .ok (.ireturn, 1) := by decide +kernel
theorem dX7_count_137 : decode cX7_count 137 = .ok (.aload_n 0, 1) := by decide +kernel
theorem dX7_count_138 : decode cX7_count 138 = .ok (.getfield 10, 3) := by decide +kernel
theorem dX7_count_141 : decode cX7_count 141 = .ok (.getfield 72, 3) := by decide +kernel
theorem dX7_count_144 : decode cX7_count 144 = .ok (.ireturn, 1) := by decide +kernel
theorem dX7_count_145 : decode cX7_count 145 = .ok (.iconst (-1), 1) := by decide +kernel
theorem dX7_count_146 : decode cX7_count 146 = .ok (.ireturn, 1) := by decide +kernel
theorem dX7_isTeller_0 : decode cX7_isTeller 0 = .ok (.iload_n 0, 1) := by decide +kernel
theorem dX7_isTeller_1 : decode cX7_isTeller 1 = .ok (.ifCond .lt 12, 3) := by decide +kernel
theorem dX7_isTeller_4 : decode cX7_isTeller 4 = .ok (.iload_n 0, 1) := by decide +kernel
theorem dX7_isTeller_5 : decode cX7_isTeller 5 = .ok (.iconst 4, 1) := by decide +kernel
theorem dX7_isTeller_6 : decode cX7_isTeller 6 = .ok (.if_icmp .ge 7, 3) := by decide +kernel
theorem dX7_isTeller_9 : decode cX7_isTeller 9 = .ok (.iconst 1, 1) := by decide +kernel
theorem dX7_isTeller_10 : decode cX7_isTeller 10 = .ok (.goto 4, 3) := by decide +kernel
theorem dX7_isTeller_13 : decode cX7_isTeller 13 = .ok (.iconst 0, 1) := by decide +kernel
theorem dX7_isTeller_14 : decode cX7_isTeller 14 = .ok (.ireturn, 1) := by decide +kernel
theorem dX7_isWord_0 : decode cX7_isWord 0 = .ok (.lload_n 0, 1) := by decide +kernel
theorem dX7_isWord_1 : decode cX7_isWord 1 = .ok (.lconst 0, 1) := by decide +kernel
theorem dX7_isWord_2 : decode cX7_isWord 2 = .ok (.lcmp, 1) := by decide +kernel
theorem dX7_isWord_3 : decode cX7_isWord 3 = .ok (.ifCond .lt 15, 3) := by decide +kernel
theorem dX7_isWord_6 : decode cX7_isWord 6 = .ok (.lload_n 0, 1) := by decide +kernel
theorem dX7_isWord_7 : decode cX7_isWord 7 = .ok (.ldc2_w 314, 3) := by decide +kernel
theorem dX7_isWord_10 : decode cX7_isWord 10 = .ok (.lcmp, 1) := by decide +kernel
theorem dX7_isWord_11 : decode cX7_isWord 11 = .ok (.ifCond .ge 7, 3) := by decide +kernel
theorem dX7_isWord_14 : decode cX7_isWord 14 = .ok (.iconst 1, 1) := by decide +kernel
theorem dX7_isWord_15 : decode cX7_isWord 15 = .ok (.goto 4, 3) := by decide +kernel
theorem dX7_isWord_18 : decode cX7_isWord 18 = .ok (.iconst 0, 1) := by decide +kernel
theorem dX7_isWord_19 : decode cX7_isWord 19 = .ok (.ireturn, 1) := by decide +kernel
theorem dX7_isPart_0 : decode cX7_isPart 0 = .ok (.iload_n 0, 1) := by decide +kernel
theorem dX7_isPart_1 : decode cX7_isPart 1 = .ok (.ifCond .eq 8, 3) := by decide +kernel
theorem dX7_isPart_4 : decode cX7_isPart 4 = .ok (.iload_n 0, 1) := by decide +kernel
theorem dX7_isPart_5 : decode cX7_isPart 5 = .ok (.iconst 1, 1) := by decide +kernel
theorem dX7_isPart_6 : decode cX7_isPart 6 = .ok (.if_icmp .ne 7, 3) := by decide +kernel
theorem dX7_isPart_9 : decode cX7_isPart 9 = .ok (.iconst 1, 1) := by decide +kernel
theorem dX7_isPart_10 : decode cX7_isPart 10 = .ok (.goto 4, 3) := by decide +kernel
theorem dX7_isPart_13 : decode cX7_isPart 13 = .ok (.iconst 0, 1) := by decide +kernel
theorem dX7_isPart_14 : decode cX7_isPart 14 = .ok (.ireturn, 1) := by decide +kernel
theorem dX7_isHearing_0 : decode cX7_isHearing 0 = .ok (.iload_n 0, 1) := by decide +kernel
theorem dX7_isHearing_1 : decode cX7_isHearing 1 = .ok (.ifCond .lt 13, 3) := by decide +kernel
theorem dX7_isHearing_4 : decode cX7_isHearing 4 = .ok (.iload_n 0, 1) := by decide +kernel
theorem dX7_isHearing_5 : decode cX7_isHearing 5 = .ok (.bipush 12, 2) := by decide +kernel
theorem dX7_isHearing_7 : decode cX7_isHearing 7 = .ok (.if_icmp .gt 7, 3) := by decide +kernel
theorem dX7_isHearing_10 : decode cX7_isHearing 10 = .ok (.iconst 1, 1) := by decide +kernel
theorem dX7_isHearing_11 : decode cX7_isHearing 11 = .ok (.goto 4, 3) := by decide +kernel
theorem dX7_isHearing_14 : decode cX7_isHearing 14 = .ok (.iconst 0, 1) := by decide +kernel
theorem dX7_isHearing_15 : decode cX7_isHearing 15 = .ok (.ireturn, 1) := by decide +kernel
theorem dX7_isSheet_0 : decode cX7_isSheet 0 = .ok (.iload_n 0, 1) := by decide +kernel
theorem dX7_isSheet_1 : decode cX7_isSheet 1 = .ok (.ifCond .lt 12, 3) := by decide +kernel
theorem dX7_isSheet_4 : decode cX7_isSheet 4 = .ok (.iload_n 0, 1) := by decide +kernel
theorem dX7_isSheet_5 : decode cX7_isSheet 5 = .ok (.iconst 4, 1) := by decide +kernel
theorem dX7_isSheet_6 : decode cX7_isSheet 6 = .ok (.if_icmp .ge 7, 3) := by decide +kernel
theorem dX7_isSheet_9 : decode cX7_isSheet 9 = .ok (.iconst 1, 1) := by decide +kernel
theorem dX7_isSheet_10 : decode cX7_isSheet 10 = .ok (.goto 4, 3) := by decide +kernel
theorem dX7_isSheet_13 : decode cX7_isSheet 13 = .ok (.iconst 0, 1) := by decide +kernel
theorem dX7_isSheet_14 : decode cX7_isSheet 14 = .ok (.ireturn, 1) := by decide +kernel
theorem dX7_isLane_0 : decode cX7_isLane 0 = .ok (.iload_n 0, 1) := by decide +kernel
theorem dX7_isLane_1 : decode cX7_isLane 1 = .ok (.ifCond .lt 12, 3) := by decide +kernel
theorem dX7_isLane_4 : decode cX7_isLane 4 = .ok (.iload_n 0, 1) := by decide +kernel
theorem dX7_isLane_5 : decode cX7_isLane 5 = .ok (.iconst 4, 1) := by decide +kernel
theorem dX7_isLane_6 : decode cX7_isLane 6 = .ok (.if_icmp .ge 7, 3) := by decide +kernel
theorem dX7_isLane_9 : decode cX7_isLane 9 = .ok (.iconst 1, 1) := by decide +kernel
theorem dX7_isLane_10 : decode cX7_isLane 10 = .ok (.goto 4, 3) := by decide +kernel
theorem dX7_isLane_13 : decode cX7_isLane 13 = .ok (.iconst 0, 1) := by decide +kernel
theorem dX7_isLane_14 : decode cX7_isLane 14 = .ok (.ireturn, 1) := by decide +kernel
theorem dX7_canTell_0 : decode cX7_canTell 0 = .ok (.aload_n 0, 1) := by decide +kernel
theorem dX7_canTell_1 : decode cX7_canTell 1 = .ok (.getfield 19, 3) := by decide +kernel
theorem dX7_canTell_4 : decode cX7_canTell 4 = .ok (.iload_n 1, 1) := by decide +kernel
theorem dX7_canTell_5 : decode cX7_canTell 5 = .ok (.invokevirtual 93, 3) := by decide +kernel
theorem dX7_canTell_8 : decode cX7_canTell 8 = .ok (.ifCond .eq 29, 3) := by decide +kernel
theorem dX7_canTell_11 : decode cX7_canTell 11 = .ok (.iload_n 2, 1) := by decide +kernel
theorem dX7_canTell_12 : decode cX7_canTell 12 = .ok (.invokestatic 125, 3) := by decide +kernel
theorem dX7_canTell_15 : decode cX7_canTell 15 = .ok (.ifCond .eq 22, 3) := by decide +kernel
theorem dX7_canTell_18 : decode cX7_canTell 18 = .ok (.iload_n 3, 1) := by decide +kernel
theorem dX7_canTell_19 : decode cX7_canTell 19 = .ok (.invokestatic 232, 3) := by decide +kernel
theorem dX7_canTell_22 : decode cX7_canTell 22 = .ok (.ifCond .eq 15, 3) := by decide +kernel
theorem dX7_canTell_25 : decode cX7_canTell 25 = .ok (.iload 4, 2) := by decide +kernel
theorem dX7_canTell_27 : decode cX7_canTell 27 = .ok (.invokestatic 235, 3) := by decide +kernel
theorem dX7_canTell_30 : decode cX7_canTell 30 = .ok (.ifCond .eq 7, 3) := by decide +kernel
theorem dX7_canTell_33 : decode cX7_canTell 33 = .ok (.iconst 1, 1) := by decide +kernel
theorem dX7_canTell_34 : decode cX7_canTell 34 = .ok (.goto 4, 3) := by decide +kernel
theorem dX7_canTell_37 : decode cX7_canTell 37 = .ok (.iconst 0, 1) := by decide +kernel
theorem dX7_canTell_38 : decode cX7_canTell 38 = .ok (.ireturn, 1) := by decide +kernel
theorem dX7_refusalOf_0 : decode cX7_refusalOf 0 = .ok (.aload_n 0, 1) := by decide +kernel
theorem dX7_refusalOf_1 : decode cX7_refusalOf 1 = .ok (.getfield 58, 3) := by decide +kernel
theorem dX7_refusalOf_4 : decode cX7_refusalOf 4 = .ok (.iload_n 1, 1) := by decide +kernel
theorem dX7_refusalOf_5 : decode cX7_refusalOf 5 = .ok (.aaload, 1) := by decide +kernel
theorem dX7_refusalOf_6 : decode cX7_refusalOf 6 = .ok (.astore 5, 2) := by decide +kernel
theorem dX7_refusalOf_8 : decode cX7_refusalOf 8 = .ok (.aload 5, 2) := by decide +kernel
theorem dX7_refusalOf_10 : decode cX7_refusalOf 10 = .ok (.getfield 241, 3) := by decide +kernel
theorem dX7_refusalOf_13 : decode cX7_refusalOf 13 = .ok (.ifCond .ne 6, 3) := by decide +kernel
theorem dX7_refusalOf_16 : decode cX7_refusalOf 16 = .ok (.bipush (-11), 2) := by decide +kernel
theorem dX7_refusalOf_18 : decode cX7_refusalOf 18 = .ok (.ireturn, 1) := by decide +kernel
theorem dX7_refusalOf_19 : decode cX7_refusalOf 19 = .ok (.aload 5, 2) := by decide +kernel
theorem dX7_refusalOf_21 : decode cX7_refusalOf 21 = .ok (.getfield 255, 3) := by decide +kernel
theorem dX7_refusalOf_24 : decode cX7_refusalOf 24 = .ok (.iload_n 2, 1) := by decide +kernel
theorem dX7_refusalOf_25 : decode cX7_refusalOf 25 = .ok (.if_icmp .eq 6, 3) := by decide +kernel
theorem dX7_refusalOf_28 : decode cX7_refusalOf 28 = .ok (.bipush (-12), 2) := by decide +kernel
theorem dX7_refusalOf_30 : decode cX7_refusalOf 30 = .ok (.ireturn, 1) := by decide +kernel
theorem dX7_refusalOf_31 : decode cX7_refusalOf 31 = .ok (.aload 5, 2) := by decide +kernel
theorem dX7_refusalOf_33 : decode cX7_refusalOf 33 = .ok (.iload_n 3, 1) := by decide +kernel
theorem dX7_refusalOf_34 : decode cX7_refusalOf 34 = .ok (.iload 4, 2) := by decide +kernel
theorem dX7_refusalOf_36 : decode cX7_refusalOf 36 = .ok (.invokevirtual 258, 3) := by decide +kernel
theorem dX7_refusalOf_39 : decode cX7_refusalOf 39 = .ok (.ifCond .eq 7, 3) := by decide +kernel
theorem dX7_refusalOf_42 : decode cX7_refusalOf 42 = .ok (.iconst 0, 1) := by decide +kernel
theorem dX7_refusalOf_43 : decode cX7_refusalOf 43 = .ok (.goto 5, 3) := by decide +kernel
theorem dX7_refusalOf_46 : decode cX7_refusalOf 46 = .ok (.bipush (-13), 2) := by decide +kernel
theorem dX7_refusalOf_48 : decode cX7_refusalOf 48 = .ok (.ireturn, 1) := by decide +kernel
theorem dX7_isUnder_0 : decode cX7_isUnder 0 = .ok (.iload_n 0, 1) := by decide +kernel
theorem dX7_isUnder_1 : decode cX7_isUnder 1 = .ok (.istore_n 2, 1) := by decide +kernel
theorem dX7_isUnder_2 : decode cX7_isUnder 2 = .ok (.iconst 0, 1) := by decide +kernel
theorem dX7_isUnder_3 : decode cX7_isUnder 3 = .ok (.istore_n 3, 1) := by decide +kernel
theorem dX7_isUnder_4 : decode cX7_isUnder 4 = .ok (.iload_n 3, 1) := by decide +kernel
theorem dX7_isUnder_5 : decode cX7_isUnder 5 = .ok (.bipush 6, 2) := by decide +kernel
theorem dX7_isUnder_7 : decode cX7_isUnder 7 = .ok (.if_icmp .ge 32, 3) := by decide +kernel
theorem dX7_isUnder_10 : decode cX7_isUnder 10 = .ok (.iload_n 2, 1) := by decide +kernel
theorem dX7_isUnder_11 : decode cX7_isUnder 11 = .ok (.ifCond .lt 28, 3) := by decide +kernel
theorem dX7_isUnder_14 : decode cX7_isUnder 14 = .ok (.iload_n 2, 1) := by decide +kernel
theorem dX7_isUnder_15 : decode cX7_isUnder 15 = .ok (.bipush 6, 2) := by decide +kernel
theorem dX7_isUnder_17 : decode cX7_isUnder 17 = .ok (.if_icmp .ge 22, 3) := by decide +kernel
theorem dX7_isUnder_20 : decode cX7_isUnder 20 = .ok (.iload_n 2, 1) := by decide +kernel
theorem dX7_isUnder_21 : decode cX7_isUnder 21 = .ok (.iload_n 1, 1) := by decide +kernel
theorem dX7_isUnder_22 : decode cX7_isUnder 22 = .ok (.if_icmp .ne 5, 3) := by decide +kernel
theorem dX7_isUnder_25 : decode cX7_isUnder 25 = .ok (.iconst 1, 1) := by decide +kernel
theorem dX7_isUnder_26 : decode cX7_isUnder 26 = .ok (.ireturn, 1) := by decide +kernel
theorem dX7_isUnder_27 : decode cX7_isUnder 27 = .ok (.getstatic 316, 3) := by decide +kernel
theorem dX7_isUnder_30 : decode cX7_isUnder 30 = .ok (.iload_n 2, 1) := by decide +kernel
theorem dX7_isUnder_31 : decode cX7_isUnder 31 = .ok (.iaload, 1) := by decide +kernel
theorem dX7_isUnder_32 : decode cX7_isUnder 32 = .ok (.istore_n 2, 1) := by decide +kernel
theorem dX7_isUnder_33 : decode cX7_isUnder 33 = .ok (.iinc 3 1, 3) := by decide +kernel
theorem dX7_isUnder_36 : decode cX7_isUnder 36 = .ok (.goto (-32), 3) := by decide +kernel
theorem dX7_isUnder_39 : decode cX7_isUnder 39 = .ok (.iconst 0, 1) := by decide +kernel
theorem dX7_isUnder_40 : decode cX7_isUnder 40 = .ok (.ireturn, 1) := by decide +kernel
theorem dX7_doubtBy_0 : decode cX7_doubtBy 0 = .ok (.iconst 3, 1) := by decide +kernel
theorem dX7_doubtBy_1 : decode cX7_doubtBy 1 = .ok (.iload_n 1, 1) := by decide +kernel
theorem dX7_doubtBy_2 : decode cX7_doubtBy 2 = .ok (.iadd, 1) := by decide +kernel
theorem dX7_doubtBy_3 : decode cX7_doubtBy 3 = .ok (.istore_n 3, 1) := by decide +kernel
theorem dX7_doubtBy_4 : decode cX7_doubtBy 4 = .ok (.iload_n 0, 1) := by decide +kernel
theorem dX7_doubtBy_5 : decode cX7_doubtBy 5 = .ok (.tableswitch 58 1 5 #[35, 37, 58, 45, 41], 35) := by decide +kernel
theorem dX7_doubtBy_40 : decode cX7_doubtBy 40 = .ok (.iload_n 3, 1) := by decide +kernel
theorem dX7_doubtBy_41 : decode cX7_doubtBy 41 = .ok (.ireturn, 1) := by decide +kernel
theorem dX7_doubtBy_42 : decode cX7_doubtBy 42 = .ok (.iload_n 3, 1) := by decide +kernel
theorem dX7_doubtBy_43 : decode cX7_doubtBy 43 = .ok (.iconst 2, 1) := by decide +kernel
theorem dX7_doubtBy_44 : decode cX7_doubtBy 44 = .ok (.isub, 1) := by decide +kernel
theorem dX7_doubtBy_45 : decode cX7_doubtBy 45 = .ok (.ireturn, 1) := by decide +kernel
theorem dX7_doubtBy_46 : decode cX7_doubtBy 46 = .ok (.iload_n 3, 1) := by decide +kernel
theorem dX7_doubtBy_47 : decode cX7_doubtBy 47 = .ok (.iconst 2, 1) := by decide +kernel
theorem dX7_doubtBy_48 : decode cX7_doubtBy 48 = .ok (.isub, 1) := by decide +kernel
theorem dX7_doubtBy_49 : decode cX7_doubtBy 49 = .ok (.ireturn, 1) := by decide +kernel
theorem dX7_doubtBy_50 : decode cX7_doubtBy 50 = .ok (.iload_n 2, 1) := by decide +kernel
theorem dX7_doubtBy_51 : decode cX7_doubtBy 51 = .ok (.ifCond .ne 9, 3) := by decide +kernel
theorem dX7_doubtBy_54 : decode cX7_doubtBy 54 = .ok (.iload_n 3, 1) := by decide +kernel
theorem dX7_doubtBy_55 : decode cX7_doubtBy 55 = .ok (.iconst 3, 1) := by decide +kernel
theorem dX7_doubtBy_56 : decode cX7_doubtBy 56 = .ok (.isub, 1) := by decide +kernel
theorem dX7_doubtBy_57 : decode cX7_doubtBy 57 = .ok (.goto 5, 3) := by decide +kernel
theorem dX7_doubtBy_60 : decode cX7_doubtBy 60 = .ok (.bipush 10, 2) := by decide +kernel
theorem dX7_doubtBy_62 : decode cX7_doubtBy 62 = .ok (.ireturn, 1) := by decide +kernel
theorem dX7_doubtBy_63 : decode cX7_doubtBy 63 = .ok (.bipush 10, 2) := by decide +kernel
theorem dX7_doubtBy_65 : decode cX7_doubtBy 65 = .ok (.ireturn, 1) := by decide +kernel
theorem dX7_turned_0 : decode cX7_turned 0 = .ok (.iload_n 0, 1) := by decide +kernel
theorem dX7_turned_1 : decode cX7_turned 1 = .ok (.iconst 5, 1) := by decide +kernel
theorem dX7_turned_2 : decode cX7_turned 2 = .ok (.if_icmp .ne 10, 3) := by decide +kernel
theorem dX7_turned_5 : decode cX7_turned 5 = .ok (.iload_n 2, 1) := by decide +kernel
theorem dX7_turned_6 : decode cX7_turned 6 = .ok (.invokestatic 319, 3) := by decide +kernel
theorem dX7_turned_9 : decode cX7_turned 9 = .ok (.goto 4, 3) := by decide +kernel
theorem dX7_turned_12 : decode cX7_turned 12 = .ok (.iload_n 2, 1) := by decide +kernel
theorem dX7_turned_13 : decode cX7_turned 13 = .ok (.istore_n 3, 1) := by decide +kernel
theorem dX7_turned_14 : decode cX7_turned 14 = .ok (.iload_n 3, 1) := by decide +kernel
theorem dX7_turned_15 : decode cX7_turned 15 = .ok (.iconst 1, 1) := by decide +kernel
theorem dX7_turned_16 : decode cX7_turned 16 = .ok (.if_icmp .ne 9, 3) := by decide +kernel
theorem dX7_turned_19 : decode cX7_turned 19 = .ok (.iload_n 1, 1) := by decide +kernel
theorem dX7_turned_20 : decode cX7_turned 20 = .ok (.iconst 3, 1) := by decide +kernel
theorem dX7_turned_21 : decode cX7_turned 21 = .ok (.iadd, 1) := by decide +kernel
theorem dX7_turned_22 : decode cX7_turned 22 = .ok (.iconst 4, 1) := by decide +kernel
theorem dX7_turned_23 : decode cX7_turned 23 = .ok (.irem, 1) := by decide +kernel
theorem dX7_turned_24 : decode cX7_turned 24 = .ok (.ireturn, 1) := by decide +kernel
theorem dX7_turned_25 : decode cX7_turned 25 = .ok (.iload_n 3, 1) := by decide +kernel
theorem dX7_turned_26 : decode cX7_turned 26 = .ok (.iconst 2, 1) := by decide +kernel
theorem dX7_turned_27 : decode cX7_turned 27 = .ok (.if_icmp .ne 11, 3) := by decide +kernel
theorem dX7_turned_30 : decode cX7_turned 30 = .ok (.iload_n 1, 1) := by decide +kernel
theorem dX7_turned_31 : decode cX7_turned 31 = .ok (.iconst 1, 1) := by decide +kernel
theorem dX7_turned_32 : decode cX7_turned 32 = .ok (.iadd, 1) := by decide +kernel
theorem dX7_turned_33 : decode cX7_turned 33 = .ok (.iconst 4, 1) := by decide +kernel
theorem dX7_turned_34 : decode cX7_turned 34 = .ok (.irem, 1) := by decide +kernel
theorem dX7_turned_35 : decode cX7_turned 35 = .ok (.goto 4, 3) := by decide +kernel
theorem dX7_turned_38 : decode cX7_turned 38 = .ok (.iload_n 1, 1) := by decide +kernel
theorem dX7_turned_39 : decode cX7_turned 39 = .ok (.ireturn, 1) := by decide +kernel
theorem dX7_mirrored_0 : decode cX7_mirrored 0 = .ok (.iload_n 0, 1) := by decide +kernel
theorem dX7_mirrored_1 : decode cX7_mirrored 1 = .ok (.iconst 1, 1) := by decide +kernel
theorem dX7_mirrored_2 : decode cX7_mirrored 2 = .ok (.if_icmp .ne 5, 3) := by decide +kernel
theorem dX7_mirrored_5 : decode cX7_mirrored 5 = .ok (.iconst 2, 1) := by decide +kernel
theorem dX7_mirrored_6 : decode cX7_mirrored 6 = .ok (.ireturn, 1) := by decide +kernel
theorem dX7_mirrored_7 : decode cX7_mirrored 7 = .ok (.iload_n 0, 1) := by decide +kernel
theorem dX7_mirrored_8 : decode cX7_mirrored 8 = .ok (.iconst 2, 1) := by decide +kernel
theorem dX7_mirrored_9 : decode cX7_mirrored 9 = .ok (.if_icmp .ne 7, 3) := by decide +kernel
theorem dX7_mirrored_12 : decode cX7_mirrored 12 = .ok (.iconst 1, 1) := by decide +kernel
theorem dX7_mirrored_13 : decode cX7_mirrored 13 = .ok (.goto 4, 3) := by decide +kernel
theorem dX7_mirrored_16 : decode cX7_mirrored 16 = .ok (.iload_n 0, 1) := by decide +kernel
theorem dX7_mirrored_17 : decode cX7_mirrored 17 = .ok (.ireturn, 1) := by decide +kernel
theorem dX7_setOut_0 : decode cX7_setOut 0 = .ok (.aload_n 0, 1) := by decide +kernel
theorem dX7_setOut_1 : decode cX7_setOut 1 = .ok (.getfield 39, 3) := by decide +kernel
theorem dX7_setOut_4 : decode cX7_setOut 4 = .ok (.aload_n 0, 1) := by decide +kernel
theorem dX7_setOut_5 : decode cX7_setOut 5 = .ok (.getfield 19, 3) := by decide +kernel
theorem dX7_setOut_8 : decode cX7_setOut 8 = .ok (.iload_n 1, 1) := by decide +kernel
theorem dX7_setOut_9 : decode cX7_setOut 9 = .ok (.invokevirtual 161, 3) := by decide +kernel
theorem dX7_setOut_12 : decode cX7_setOut 12 = .ok (.aload_n 0, 1) := by decide +kernel
theorem dX7_setOut_13 : decode cX7_setOut 13 = .ok (.getfield 45, 3) := by decide +kernel
theorem dX7_setOut_16 : decode cX7_setOut 16 = .ok (.iconst 0, 1) := by decide +kernel
theorem dX7_setOut_17 : decode cX7_setOut 17 = .ok (.aaload, 1) := by decide +kernel
theorem dX7_setOut_18 : decode cX7_setOut 18 = .ok (.astore_n 2, 1) := by decide +kernel
theorem dX7_setOut_19 : decode cX7_setOut 19 = .ok (.aload_n 2, 1) := by decide +kernel
theorem dX7_setOut_20 : decode cX7_setOut 20 = .ok (.aload_n 0, 1) := by decide +kernel
theorem dX7_setOut_21 : decode cX7_setOut 21 = .ok (.getfield 19, 3) := by decide +kernel
theorem dX7_setOut_24 : decode cX7_setOut 24 = .ok (.iload_n 1, 1) := by decide +kernel
theorem dX7_setOut_25 : decode cX7_setOut 25 = .ok (.invokevirtual 174, 3) := by decide +kernel
theorem dX7_setOut_28 : decode cX7_setOut 28 = .ok (.aload_n 2, 1) := by decide +kernel
theorem dX7_setOut_29 : decode cX7_setOut 29 = .ok (.areturn, 1) := by decide +kernel
theorem dX7_arrive_0 : decode cX7_arrive 0 = .ok (.aload_n 2, 1) := by decide +kernel
theorem dX7_arrive_1 : decode cX7_arrive 1 = .ok (.aload_n 0, 1) := by decide +kernel
theorem dX7_arrive_2 : decode cX7_arrive 2 = .ok (.getfield 19, 3) := by decide +kernel
theorem dX7_arrive_5 : decode cX7_arrive 5 = .ok (.iload_n 1, 1) := by decide +kernel
theorem dX7_arrive_6 : decode cX7_arrive 6 = .ok (.invokevirtual 322, 3) := by decide +kernel
theorem dX7_arrive_9 : decode cX7_arrive 9 = .ok (.aload_n 0, 1) := by decide +kernel
theorem dX7_arrive_10 : decode cX7_arrive 10 = .ok (.getfield 19, 3) := by decide +kernel
theorem dX7_arrive_13 : decode cX7_arrive 13 = .ok (.dup, 1) := by decide +kernel
theorem dX7_arrive_14 : decode cX7_arrive 14 = .ok (.getfield 139, 3) := by decide +kernel
theorem dX7_arrive_17 : decode cX7_arrive 17 = .ok (.iconst 1, 1) := by decide +kernel
theorem dX7_arrive_18 : decode cX7_arrive 18 = .ok (.iadd, 1) := by decide +kernel
theorem dX7_arrive_19 : decode cX7_arrive 19 = .ok (.putfield 139, 3) := by decide +kernel
theorem dX7_arrive_22 : decode cX7_arrive 22 = .ok (.aload_n 2, 1) := by decide +kernel
theorem dX7_arrive_23 : decode cX7_arrive 23 = .ok (.getfield 279, 3) := by decide +kernel
theorem dX7_arrive_26 : decode cX7_arrive 26 = .ok (.ireturn, 1) := by decide +kernel
theorem dX7_mostCrewed_0 : decode cX7_mostCrewed 0 = .ok (.iload_n 1, 1) := by decide +kernel
theorem dX7_mostCrewed_1 : decode cX7_mostCrewed 1 = .ok (.aload_n 0, 1) := by decide +kernel
theorem dX7_mostCrewed_2 : decode cX7_mostCrewed 2 = .ok (.getfield 19, 3) := by decide +kernel
theorem dX7_mostCrewed_5 : decode cX7_mostCrewed 5 = .ok (.getfield 90, 3) := by decide +kernel
theorem dX7_mostCrewed_8 : decode cX7_mostCrewed 8 = .ok (.if_icmp .ge 9, 3) := by decide +kernel
theorem dX7_mostCrewed_11 : decode cX7_mostCrewed 11 = .ok (.iload_n 1, 1) := by decide +kernel
theorem dX7_mostCrewed_12 : decode cX7_mostCrewed 12 = .ok (.bipush 6, 2) := by decide +kernel
theorem dX7_mostCrewed_14 : decode cX7_mostCrewed 14 = .ok (.if_icmp .lt 5, 3) := by decide +kernel
theorem dX7_mostCrewed_17 : decode cX7_mostCrewed 17 = .ok (.iconst 0, 1) := by decide +kernel
theorem dX7_mostCrewed_18 : decode cX7_mostCrewed 18 = .ok (.ireturn, 1) := by decide +kernel
theorem dX7_mostCrewed_19 : decode cX7_mostCrewed 19 = .ok (.aload_n 0, 1) := by decide +kernel
theorem dX7_mostCrewed_20 : decode cX7_mostCrewed 20 = .ok (.iload_n 1, 1) := by decide +kernel
theorem dX7_mostCrewed_21 : decode cX7_mostCrewed 21 = .ok (.iconst 1, 1) := by decide +kernel
theorem dX7_mostCrewed_22 : decode cX7_mostCrewed 22 = .ok (.iadd, 1) := by decide +kernel
theorem dX7_mostCrewed_23 : decode cX7_mostCrewed 23 = .ok (.iload_n 2, 1) := by decide +kernel
theorem dX7_mostCrewed_24 : decode cX7_mostCrewed 24 = .ok (.invokevirtual 187, 3) := by decide +kernel
theorem dX7_mostCrewed_27 : decode cX7_mostCrewed 27 = .ok (.istore_n 3, 1) := by decide +kernel
theorem dX7_mostCrewed_28 : decode cX7_mostCrewed 28 = .ok (.iconst 0, 1) := by decide +kernel
theorem dX7_mostCrewed_29 : decode cX7_mostCrewed 29 = .ok (.istore 4, 2) := by decide +kernel
theorem dX7_mostCrewed_31 : decode cX7_mostCrewed 31 = .ok (.iload 4, 2) := by decide +kernel
theorem dX7_mostCrewed_33 : decode cX7_mostCrewed 33 = .ok (.iconst 4, 1) := by decide +kernel
theorem dX7_mostCrewed_34 : decode cX7_mostCrewed 34 = .ok (.if_icmp .ge 40, 3) := by decide +kernel
theorem dX7_mostCrewed_37 : decode cX7_mostCrewed 37 = .ok (.aload_n 0, 1) := by decide +kernel
theorem dX7_mostCrewed_38 : decode cX7_mostCrewed 38 = .ok (.iload_n 1, 1) := by decide +kernel
theorem dX7_mostCrewed_39 : decode cX7_mostCrewed 39 = .ok (.iload 4, 2) := by decide +kernel
theorem dX7_mostCrewed_41 : decode cX7_mostCrewed 41 = .ok (.iload_n 2, 1) := by decide +kernel
theorem dX7_mostCrewed_42 : decode cX7_mostCrewed 42 = .ok (.invokevirtual 325, 3) := by decide +kernel
theorem dX7_mostCrewed_45 : decode cX7_mostCrewed 45 = .ok (.ifCond .eq 23, 3) := by decide +kernel
theorem dX7_mostCrewed_48 : decode cX7_mostCrewed 48 = .ok (.iload_n 3, 1) := by decide +kernel
theorem dX7_mostCrewed_49 : decode cX7_mostCrewed 49 = .ok (.iconst 1, 1) := by decide +kernel
theorem dX7_mostCrewed_50 : decode cX7_mostCrewed 50 = .ok (.aload_n 0, 1) := by decide +kernel
theorem dX7_mostCrewed_51 : decode cX7_mostCrewed 51 = .ok (.iload_n 1, 1) := by decide +kernel
theorem dX7_mostCrewed_52 : decode cX7_mostCrewed 52 = .ok (.iconst 1, 1) := by decide +kernel
theorem dX7_mostCrewed_53 : decode cX7_mostCrewed 53 = .ok (.iadd, 1) := by decide +kernel
theorem dX7_mostCrewed_54 : decode cX7_mostCrewed 54 = .ok (.iload_n 2, 1) := by decide +kernel
theorem dX7_mostCrewed_55 : decode cX7_mostCrewed 55 = .ok (.iconst 1, 1) := by decide +kernel
theorem dX7_mostCrewed_56 : decode cX7_mostCrewed 56 = .ok (.iload 4, 2) := by decide +kernel
theorem dX7_mostCrewed_58 : decode cX7_mostCrewed 58 = .ok (.ishl, 1) := by decide +kernel
theorem dX7_mostCrewed_59 : decode cX7_mostCrewed 59 = .ok (.ior, 1) := by decide +kernel
theorem dX7_mostCrewed_60 : decode cX7_mostCrewed 60 = .ok (.invokevirtual 187, 3) := by decide +kernel
theorem dX7_mostCrewed_63 : decode cX7_mostCrewed 63 = .ok (.iadd, 1) := by decide +kernel
theorem dX7_mostCrewed_64 : decode cX7_mostCrewed 64 = .ok (.invokestatic 328, 3) := by decide +kernel
theorem dX7_mostCrewed_67 : decode cX7_mostCrewed 67 = .ok (.istore_n 3, 1) := by decide +kernel
theorem dX7_mostCrewed_68 : decode cX7_mostCrewed 68 = .ok (.iinc 4 1, 3) := by decide +kernel
theorem dX7_mostCrewed_71 : decode cX7_mostCrewed 71 = .ok (.goto (-40), 3) := by decide +kernel
theorem dX7_mostCrewed_74 : decode cX7_mostCrewed 74 = .ok (.iload_n 3, 1) := by decide +kernel
theorem dX7_mostCrewed_75 : decode cX7_mostCrewed 75 = .ok (.ireturn, 1) := by decide +kernel
theorem dX7_mayTake_0 : decode cX7_mayTake 0 = .ok (.iload_n 3, 1) := by decide +kernel
theorem dX7_mayTake_1 : decode cX7_mayTake 1 = .ok (.iconst 1, 1) := by decide +kernel
theorem dX7_mayTake_2 : decode cX7_mayTake 2 = .ok (.iload_n 2, 1) := by decide +kernel
theorem dX7_mayTake_3 : decode cX7_mayTake 3 = .ok (.ishl, 1) := by decide +kernel
theorem dX7_mayTake_4 : decode cX7_mayTake 4 = .ok (.iand, 1) := by decide +kernel
theorem dX7_mayTake_5 : decode cX7_mayTake 5 = .ok (.ifCond .ne 19, 3) := by decide +kernel
theorem dX7_mayTake_8 : decode cX7_mayTake 8 = .ok (.aload_n 0, 1) := by decide +kernel
theorem dX7_mayTake_9 : decode cX7_mayTake 9 = .ok (.getfield 19, 3) := by decide +kernel
theorem dX7_mayTake_12 : decode cX7_mayTake 12 = .ok (.iload_n 1, 1) := by decide +kernel
theorem dX7_mayTake_13 : decode cX7_mayTake 13 = .ok (.iload_n 2, 1) := by decide +kernel
theorem dX7_mayTake_14 : decode cX7_mayTake 14 = .ok (.invokevirtual 171, 3) := by decide +kernel
theorem dX7_mayTake_17 : decode cX7_mayTake 17 = .ok (.ifCond .eq 7, 3) := by decide +kernel
theorem dX7_mayTake_20 : decode cX7_mayTake 20 = .ok (.iconst 1, 1) := by decide +kernel
theorem dX7_mayTake_21 : decode cX7_mayTake 21 = .ok (.goto 4, 3) := by decide +kernel
theorem dX7_mayTake_24 : decode cX7_mayTake 24 = .ok (.iconst 0, 1) := by decide +kernel
theorem dX7_mayTake_25 : decode cX7_mayTake 25 = .ok (.ireturn, 1) := by decide +kernel
theorem dX7_crewOf_0 : decode cX7_crewOf 0 = .ok (.iconst 0, 1) := by decide +kernel
theorem dX7_crewOf_1 : decode cX7_crewOf 1 = .ok (.istore_n 2, 1) := by decide +kernel
theorem dX7_crewOf_2 : decode cX7_crewOf 2 = .ok (.iconst 0, 1) := by decide +kernel
theorem dX7_crewOf_3 : decode cX7_crewOf 3 = .ok (.istore_n 3, 1) := by decide +kernel
theorem dX7_crewOf_4 : decode cX7_crewOf 4 = .ok (.iload_n 3, 1) := by decide +kernel
theorem dX7_crewOf_5 : decode cX7_crewOf 5 = .ok (.iload_n 1, 1) := by decide +kernel
theorem dX7_crewOf_6 : decode cX7_crewOf 6 = .ok (.if_icmp .ge 29, 3) := by decide +kernel
theorem dX7_crewOf_9 : decode cX7_crewOf 9 = .ok (.aload_n 0, 1) := by decide +kernel
theorem dX7_crewOf_10 : decode cX7_crewOf 10 = .ok (.iload_n 3, 1) := by decide +kernel
theorem dX7_crewOf_11 : decode cX7_crewOf 11 = .ok (.iload_n 2, 1) := by decide +kernel
theorem dX7_crewOf_12 : decode cX7_crewOf 12 = .ok (.invokevirtual 333, 3) := by decide +kernel
theorem dX7_crewOf_15 : decode cX7_crewOf 15 = .ok (.istore 4, 2) := by decide +kernel
theorem dX7_crewOf_17 : decode cX7_crewOf 17 = .ok (.iload 4, 2) := by decide +kernel
theorem dX7_crewOf_19 : decode cX7_crewOf 19 = .ok (.ifCond .lt 10, 3) := by decide +kernel
theorem dX7_crewOf_22 : decode cX7_crewOf 22 = .ok (.iload_n 2, 1) := by decide +kernel
theorem dX7_crewOf_23 : decode cX7_crewOf 23 = .ok (.iconst 1, 1) := by decide +kernel
theorem dX7_crewOf_24 : decode cX7_crewOf 24 = .ok (.iload 4, 2) := by decide +kernel
theorem dX7_crewOf_26 : decode cX7_crewOf 26 = .ok (.ishl, 1) := by decide +kernel
theorem dX7_crewOf_27 : decode cX7_crewOf 27 = .ok (.ior, 1) := by decide +kernel
theorem dX7_crewOf_28 : decode cX7_crewOf 28 = .ok (.istore_n 2, 1) := by decide +kernel
theorem dX7_crewOf_29 : decode cX7_crewOf 29 = .ok (.iinc 3 1, 3) := by decide +kernel
theorem dX7_crewOf_32 : decode cX7_crewOf 32 = .ok (.goto (-28), 3) := by decide +kernel
theorem dX7_crewOf_35 : decode cX7_crewOf 35 = .ok (.aload_n 0, 1) := by decide +kernel
theorem dX7_crewOf_36 : decode cX7_crewOf 36 = .ok (.iload_n 1, 1) := by decide +kernel
theorem dX7_crewOf_37 : decode cX7_crewOf 37 = .ok (.iload_n 2, 1) := by decide +kernel
theorem dX7_crewOf_38 : decode cX7_crewOf 38 = .ok (.invokevirtual 333, 3) := by decide +kernel
theorem dX7_crewOf_41 : decode cX7_crewOf 41 = .ok (.ireturn, 1) := by decide +kernel
theorem dX7_firstTeller_0 : decode cX7_firstTeller 0 = .ok (.aload_n 0, 1) := by decide +kernel
theorem dX7_firstTeller_1 : decode cX7_firstTeller 1 = .ok (.iload_n 1, 1) := by decide +kernel
theorem dX7_firstTeller_2 : decode cX7_firstTeller 2 = .ok (.iload_n 2, 1) := by decide +kernel
theorem dX7_firstTeller_3 : decode cX7_firstTeller 3 = .ok (.invokevirtual 187, 3) := by decide +kernel
theorem dX7_firstTeller_6 : decode cX7_firstTeller 6 = .ok (.istore_n 3, 1) := by decide +kernel
theorem dX7_firstTeller_7 : decode cX7_firstTeller 7 = .ok (.iconst 0, 1) := by decide +kernel
theorem dX7_firstTeller_8 : decode cX7_firstTeller 8 = .ok (.istore 4, 2) := by decide +kernel
theorem dX7_firstTeller_10 : decode cX7_firstTeller 10 = .ok (.iload 4, 2) := by decide +kernel
theorem dX7_firstTeller_12 : decode cX7_firstTeller 12 = .ok (.iconst 4, 1) := by decide +kernel
theorem dX7_firstTeller_13 : decode cX7_firstTeller 13 = .ok (.if_icmp .ge 42, 3) := by decide +kernel
theorem dX7_firstTeller_16 : decode cX7_firstTeller 16 = .ok (.aload_n 0, 1) := by decide +kernel
theorem dX7_firstTeller_17 : decode cX7_firstTeller 17 = .ok (.iload_n 1, 1) := by decide +kernel
theorem dX7_firstTeller_18 : decode cX7_firstTeller 18 = .ok (.iload 4, 2) := by decide +kernel
theorem dX7_firstTeller_20 : decode cX7_firstTeller 20 = .ok (.iload_n 2, 1) := by decide +kernel
theorem dX7_firstTeller_21 : decode cX7_firstTeller 21 = .ok (.invokevirtual 325, 3) := by decide +kernel
theorem dX7_firstTeller_24 : decode cX7_firstTeller 24 = .ok (.ifCond .eq 25, 3) := by decide +kernel
theorem dX7_firstTeller_27 : decode cX7_firstTeller 27 = .ok (.iconst 1, 1) := by decide +kernel
theorem dX7_firstTeller_28 : decode cX7_firstTeller 28 = .ok (.aload_n 0, 1) := by decide +kernel
theorem dX7_firstTeller_29 : decode cX7_firstTeller 29 = .ok (.iload_n 1, 1) := by decide +kernel
theorem dX7_firstTeller_30 : decode cX7_firstTeller 30 = .ok (.iconst 1, 1) := by decide +kernel
theorem dX7_firstTeller_31 : decode cX7_firstTeller 31 = .ok (.iadd, 1) := by decide +kernel
theorem dX7_firstTeller_32 : decode cX7_firstTeller 32 = .ok (.iload_n 2, 1) := by decide +kernel
theorem dX7_firstTeller_33 : decode cX7_firstTeller 33 = .ok (.iconst 1, 1) := by decide +kernel
theorem dX7_firstTeller_34 : decode cX7_firstTeller 34 = .ok (.iload 4, 2) := by decide +kernel
theorem dX7_firstTeller_36 : decode cX7_firstTeller 36 = .ok (.ishl, 1) := by decide +kernel
theorem dX7_firstTeller_37 : decode cX7_firstTeller 37 = .ok (.ior, 1) := by decide +kernel
theorem dX7_firstTeller_38 : decode cX7_firstTeller 38 = .ok (.invokevirtual 187, 3) := by decide +kernel
theorem dX7_firstTeller_41 : decode cX7_firstTeller 41 = .ok (.iadd, 1) := by decide +kernel
theorem dX7_firstTeller_42 : decode cX7_firstTeller 42 = .ok (.iload_n 3, 1) := by decide +kernel
theorem dX7_firstTeller_43 : decode cX7_firstTeller 43 = .ok (.if_icmp .ne 6, 3) := by decide +kernel
theorem dX7_firstTeller_46 : decode cX7_firstTeller 46 = .ok (.iload 4, 2) := by decide +kernel
theorem dX7_firstTeller_48 : decode cX7_firstTeller 48 = .ok (.ireturn, 1) := by decide +kernel
theorem dX7_firstTeller_49 : decode cX7_firstTeller 49 = .ok (.iinc 4 1, 3) := by decide +kernel
theorem dX7_firstTeller_52 : decode cX7_firstTeller 52 = .ok (.goto (-42), 3) := by decide +kernel
theorem dX7_firstTeller_55 : decode cX7_firstTeller 55 = .ok (.bipush (-4), 2) := by decide +kernel
theorem dX7_firstTeller_57 : decode cX7_firstTeller 57 = .ok (.ireturn, 1) := by decide +kernel
theorem dX7_nextVoyage_0 : decode cX7_nextVoyage 0 = .ok (.aload_n 0, 1) := by decide +kernel
theorem dX7_nextVoyage_1 : decode cX7_nextVoyage 1 = .ok (.getfield 45, 3) := by decide +kernel
theorem dX7_nextVoyage_4 : decode cX7_nextVoyage 4 = .ok (.iload_n 1, 1) := by decide +kernel
theorem dX7_nextVoyage_5 : decode cX7_nextVoyage 5 = .ok (.iconst 1, 1) := by decide +kernel
theorem dX7_nextVoyage_6 : decode cX7_nextVoyage 6 = .ok (.iadd, 1) := by decide +kernel
theorem dX7_nextVoyage_7 : decode cX7_nextVoyage 7 = .ok (.aaload, 1) := by decide +kernel
theorem dX7_nextVoyage_8 : decode cX7_nextVoyage 8 = .ok (.astore_n 2, 1) := by decide +kernel
theorem dX7_nextVoyage_9 : decode cX7_nextVoyage 9 = .ok (.aload_n 2, 1) := by decide +kernel
theorem dX7_nextVoyage_10 : decode cX7_nextVoyage 10 = .ok (.aload_n 0, 1) := by decide +kernel
theorem dX7_nextVoyage_11 : decode cX7_nextVoyage 11 = .ok (.getfield 45, 3) := by decide +kernel
theorem dX7_nextVoyage_14 : decode cX7_nextVoyage 14 = .ok (.iload_n 1, 1) := by decide +kernel
theorem dX7_nextVoyage_15 : decode cX7_nextVoyage 15 = .ok (.aaload, 1) := by decide +kernel
theorem dX7_nextVoyage_16 : decode cX7_nextVoyage 16 = .ok (.invokevirtual 336, 3) := by decide +kernel
theorem dX7_nextVoyage_19 : decode cX7_nextVoyage 19 = .ok (.aload_n 2, 1) := by decide +kernel
theorem dX7_nextVoyage_20 : decode cX7_nextVoyage 20 = .ok (.areturn, 1) := by decide +kernel
theorem dX7_canGoDeeper_0 : decode cX7_canGoDeeper 0 = .ok (.iload_n 1, 1) := by decide +kernel
theorem dX7_canGoDeeper_1 : decode cX7_canGoDeeper 1 = .ok (.ifCond .lt 23, 3) := by decide +kernel
theorem dX7_canGoDeeper_4 : decode cX7_canGoDeeper 4 = .ok (.iload_n 1, 1) := by decide +kernel
theorem dX7_canGoDeeper_5 : decode cX7_canGoDeeper 5 = .ok (.iload_n 2, 1) := by decide +kernel
theorem dX7_canGoDeeper_6 : decode cX7_canGoDeeper 6 = .ok (.if_icmp .ge 18, 3) := by decide +kernel
theorem dX7_canGoDeeper_9 : decode cX7_canGoDeeper 9 = .ok (.iload_n 1, 1) := by decide +kernel
theorem dX7_canGoDeeper_10 : decode cX7_canGoDeeper 10 = .ok (.iconst 1, 1) := by decide +kernel
theorem dX7_canGoDeeper_11 : decode cX7_canGoDeeper 11 = .ok (.iadd, 1) := by decide +kernel
theorem dX7_canGoDeeper_12 : decode cX7_canGoDeeper 12 = .ok (.aload_n 0, 1) := by decide +kernel
theorem dX7_canGoDeeper_13 : decode cX7_canGoDeeper 13 = .ok (.getfield 45, 3) := by decide +kernel
theorem dX7_canGoDeeper_16 : decode cX7_canGoDeeper 16 = .ok (.arraylength, 1) := by decide +kernel
theorem dX7_canGoDeeper_17 : decode cX7_canGoDeeper 17 = .ok (.if_icmp .ge 7, 3) := by decide +kernel
theorem dX7_canGoDeeper_20 : decode cX7_canGoDeeper 20 = .ok (.iconst 1, 1) := by decide +kernel
theorem dX7_canGoDeeper_21 : decode cX7_canGoDeeper 21 = .ok (.goto 4, 3) := by decide +kernel
theorem dX7_canGoDeeper_24 : decode cX7_canGoDeeper 24 = .ok (.iconst 0, 1) := by decide +kernel
theorem dX7_canGoDeeper_25 : decode cX7_canGoDeeper 25 = .ok (.ireturn, 1) := by decide +kernel
theorem dX7_talked_0 : decode cX7_talked 0 = .ok (.aload_n 0, 1) := by decide +kernel
theorem dX7_talked_1 : decode cX7_talked 1 = .ok (.iload_n 1, 1) := by decide +kernel
theorem dX7_talked_2 : decode cX7_talked 2 = .ok (.iload_n 2, 1) := by decide +kernel
theorem dX7_talked_3 : decode cX7_talked 3 = .ok (.invokevirtual 340, 3) := by decide +kernel
theorem dX7_talked_6 : decode cX7_talked 6 = .ok (.ifCond .ne 23, 3) := by decide +kernel
theorem dX7_talked_9 : decode cX7_talked 9 = .ok (.aload_n 0, 1) := by decide +kernel
theorem dX7_talked_10 : decode cX7_talked 10 = .ok (.getfield 19, 3) := by decide +kernel
theorem dX7_talked_13 : decode cX7_talked 13 = .ok (.getfield 32, 3) := by decide +kernel
theorem dX7_talked_16 : decode cX7_talked 16 = .ok (.aload_n 0, 1) := by decide +kernel
theorem dX7_talked_17 : decode cX7_talked 17 = .ok (.getfield 45, 3) := by decide +kernel
theorem dX7_talked_20 : decode cX7_talked 20 = .ok (.iload_n 1, 1) := by decide +kernel
theorem dX7_talked_21 : decode cX7_talked 21 = .ok (.aaload, 1) := by decide +kernel
theorem dX7_talked_22 : decode cX7_talked 22 = .ok (.getfield 279, 3) := by decide +kernel
theorem dX7_talked_25 : decode cX7_talked 25 = .ok (.invokevirtual 343, 3) := by decide +kernel
theorem dX7_talked_28 : decode cX7_talked 28 = .ok (.ireturn, 1) := by decide +kernel
theorem dX7_talked_29 : decode cX7_talked 29 = .ok (.iload_n 1, 1) := by decide +kernel
theorem dX7_talked_30 : decode cX7_talked 30 = .ok (.iconst 2, 1) := by decide +kernel
theorem dX7_talked_31 : decode cX7_talked 31 = .ok (.irem, 1) := by decide +kernel
theorem dX7_talked_32 : decode cX7_talked 32 = .ok (.ifCond .ne 7, 3) := by decide +kernel
theorem dX7_talked_35 : decode cX7_talked 35 = .ok (.iconst 1, 1) := by decide +kernel
theorem dX7_talked_36 : decode cX7_talked 36 = .ok (.goto 4, 3) := by decide +kernel
theorem dX7_talked_39 : decode cX7_talked 39 = .ok (.iconst 0, 1) := by decide +kernel
theorem dX7_talked_40 : decode cX7_talked 40 = .ok (.istore 5, 2) := by decide +kernel
theorem dX7_talked_42 : decode cX7_talked 42 = .ok (.iconst (-1), 1) := by decide +kernel
theorem dX7_talked_43 : decode cX7_talked 43 = .ok (.istore 6, 2) := by decide +kernel
theorem dX7_talked_45 : decode cX7_talked 45 = .ok (.iconst 0, 1) := by decide +kernel
theorem dX7_talked_46 : decode cX7_talked 46 = .ok (.istore 7, 2) := by decide +kernel
theorem dX7_talked_48 : decode cX7_talked 48 = .ok (.iload 7, 2) := by decide +kernel
theorem dX7_talked_50 : decode cX7_talked 50 = .ok (.iconst 3, 1) := by decide +kernel
theorem dX7_talked_51 : decode cX7_talked 51 = .ok (.if_icmp .ge 74, 3) := by decide +kernel
theorem dX7_talked_54 : decode cX7_talked 54 = .ok (.aload_n 0, 1) := by decide +kernel
theorem dX7_talked_55 : decode cX7_talked 55 = .ok (.iload_n 1, 1) := by decide +kernel
theorem dX7_talked_56 : decode cX7_talked 56 = .ok (.invokevirtual 346, 3) := by decide +kernel
theorem dX7_talked_59 : decode cX7_talked 59 = .ok (.iload 5, 2) := by decide +kernel
theorem dX7_talked_61 : decode cX7_talked 61 = .ok (.ifCond .eq 7, 3) := by decide +kernel
theorem dX7_talked_64 : decode cX7_talked 64 = .ok (.iload_n 3, 1) := by decide +kernel
theorem dX7_talked_65 : decode cX7_talked 65 = .ok (.goto 5, 3) := by decide +kernel
theorem dX7_talked_68 : decode cX7_talked 68 = .ok (.iload 4, 2) := by decide +kernel
theorem dX7_talked_70 : decode cX7_talked 70 = .ok (.iload 7, 2) := by decide +kernel
theorem dX7_talked_72 : decode cX7_talked 72 = .ok (.invokevirtual 146, 3) := by decide +kernel
theorem dX7_talked_75 : decode cX7_talked 75 = .ok (.aload_n 0, 1) := by decide +kernel
theorem dX7_talked_76 : decode cX7_talked 76 = .ok (.iload_n 1, 1) := by decide +kernel
theorem dX7_talked_77 : decode cX7_talked 77 = .ok (.iconst 1, 1) := by decide +kernel
theorem dX7_talked_78 : decode cX7_talked 78 = .ok (.iadd, 1) := by decide +kernel
theorem dX7_talked_79 : decode cX7_talked 79 = .ok (.iload_n 2, 1) := by decide +kernel
theorem dX7_talked_80 : decode cX7_talked 80 = .ok (.iload_n 3, 1) := by decide +kernel
theorem dX7_talked_81 : decode cX7_talked 81 = .ok (.iload 4, 2) := by decide +kernel
theorem dX7_talked_83 : decode cX7_talked 83 = .ok (.invokevirtual 210, 3) := by decide +kernel
theorem dX7_talked_86 : decode cX7_talked 86 = .ok (.istore 8, 2) := by decide +kernel
theorem dX7_talked_88 : decode cX7_talked 88 = .ok (.iload 6, 2) := by decide +kernel
theorem dX7_talked_90 : decode cX7_talked 90 = .ok (.ifCond .lt 25, 3) := by decide +kernel
theorem dX7_talked_93 : decode cX7_talked 93 = .ok (.iload 5, 2) := by decide +kernel
theorem dX7_talked_95 : decode cX7_talked 95 = .ok (.ifCond .eq 13, 3) := by decide +kernel
theorem dX7_talked_98 : decode cX7_talked 98 = .ok (.iload 8, 2) := by decide +kernel
theorem dX7_talked_100 : decode cX7_talked 100 = .ok (.iload 6, 2) := by decide +kernel
theorem dX7_talked_102 : decode cX7_talked 102 = .ok (.if_icmp .ge 17, 3) := by decide +kernel
theorem dX7_talked_105 : decode cX7_talked 105 = .ok (.goto 10, 3) := by decide +kernel
theorem dX7_talked_108 : decode cX7_talked 108 = .ok (.iload 8, 2) := by decide +kernel
theorem dX7_talked_110 : decode cX7_talked 110 = .ok (.iload 6, 2) := by decide +kernel
theorem dX7_talked_112 : decode cX7_talked 112 = .ok (.if_icmp .le 7, 3) := by decide +kernel
theorem dX7_talked_115 : decode cX7_talked 115 = .ok (.iload 8, 2) := by decide +kernel
theorem dX7_talked_117 : decode cX7_talked 117 = .ok (.istore 6, 2) := by decide +kernel
theorem dX7_talked_119 : decode cX7_talked 119 = .ok (.iinc 7 1, 3) := by decide +kernel
theorem dX7_talked_122 : decode cX7_talked 122 = .ok (.goto (-74), 3) := by decide +kernel
theorem dX7_talked_125 : decode cX7_talked 125 = .ok (.iload 6, 2) := by decide +kernel
theorem dX7_talked_127 : decode cX7_talked 127 = .ok (.ireturn, 1) := by decide +kernel
theorem dX7_countRows_0 : decode cX7_countRows 0 = .ok (.aload_n 0, 1) := by decide +kernel
theorem dX7_countRows_1 : decode cX7_countRows 1 = .ok (.iload_n 1, 1) := by decide +kernel
theorem dX7_countRows_2 : decode cX7_countRows 2 = .ok (.iload 5, 2) := by decide +kernel
theorem dX7_countRows_4 : decode cX7_countRows 4 = .ok (.invokevirtual 340, 3) := by decide +kernel
theorem dX7_countRows_7 : decode cX7_countRows 7 = .ok (.ifCond .ne 5, 3) := by decide +kernel
theorem dX7_countRows_10 : decode cX7_countRows 10 = .ok (.iconst 1, 1) := by decide +kernel
theorem dX7_countRows_11 : decode cX7_countRows 11 = .ok (.ireturn, 1) := by decide +kernel
theorem dX7_countRows_12 : decode cX7_countRows 12 = .ok (.iconst 0, 1) := by decide +kernel
theorem dX7_countRows_13 : decode cX7_countRows 13 = .ok (.istore 6, 2) := by decide +kernel
theorem dX7_countRows_15 : decode cX7_countRows 15 = .ok (.iconst 0, 1) := by decide +kernel
theorem dX7_countRows_16 : decode cX7_countRows 16 = .ok (.istore 7, 2) := by decide +kernel
theorem dX7_countRows_18 : decode cX7_countRows 18 = .ok (.iload 7, 2) := by decide +kernel
theorem dX7_countRows_20 : decode cX7_countRows 20 = .ok (.iconst 3, 1) := by decide +kernel
theorem dX7_countRows_21 : decode cX7_countRows 21 = .ok (.if_icmp .ge 47, 3) := by decide +kernel
theorem dX7_countRows_24 : decode cX7_countRows 24 = .ok (.aload_n 0, 1) := by decide +kernel
theorem dX7_countRows_25 : decode cX7_countRows 25 = .ok (.iload_n 1, 1) := by decide +kernel
theorem dX7_countRows_26 : decode cX7_countRows 26 = .ok (.iload_n 2, 1) := by decide +kernel
theorem dX7_countRows_27 : decode cX7_countRows 27 = .ok (.iload 7, 2) := by decide +kernel
theorem dX7_countRows_29 : decode cX7_countRows 29 = .ok (.aload_n 3, 1) := by decide +kernel
theorem dX7_countRows_30 : decode cX7_countRows 30 = .ok (.getfield 261, 3) := by decide +kernel
theorem dX7_countRows_33 : decode cX7_countRows 33 = .ok (.iload 4, 2) := by decide +kernel
theorem dX7_countRows_35 : decode cX7_countRows 35 = .ok (.iload_n 1, 1) := by decide +kernel
theorem dX7_countRows_36 : decode cX7_countRows 36 = .ok (.iadd, 1) := by decide +kernel
theorem dX7_countRows_37 : decode cX7_countRows 37 = .ok (.laload, 1) := by decide +kernel
theorem dX7_countRows_38 : decode cX7_countRows 38 = .ok (.invokevirtual 349, 3) := by decide +kernel
theorem dX7_countRows_41 : decode cX7_countRows 41 = .ok (.ifCond .eq 21, 3) := by decide +kernel
theorem dX7_countRows_44 : decode cX7_countRows 44 = .ok (.iload 6, 2) := by decide +kernel
theorem dX7_countRows_46 : decode cX7_countRows 46 = .ok (.aload_n 0, 1) := by decide +kernel
theorem dX7_countRows_47 : decode cX7_countRows 47 = .ok (.iload_n 1, 1) := by decide +kernel
theorem dX7_countRows_48 : decode cX7_countRows 48 = .ok (.iconst 1, 1) := by decide +kernel
theorem dX7_countRows_49 : decode cX7_countRows 49 = .ok (.iadd, 1) := by decide +kernel
theorem dX7_countRows_50 : decode cX7_countRows 50 = .ok (.iload_n 2, 1) := by decide +kernel
theorem dX7_countRows_51 : decode cX7_countRows 51 = .ok (.aload_n 3, 1) := by decide +kernel
theorem dX7_countRows_52 : decode cX7_countRows 52 = .ok (.iload 4, 2) := by decide +kernel
theorem dX7_countRows_54 : decode cX7_countRows 54 = .ok (.iload 5, 2) := by decide +kernel
theorem dX7_countRows_56 : decode cX7_countRows 56 = .ok (.invokevirtual 281, 3) := by decide +kernel
theorem dX7_countRows_59 : decode cX7_countRows 59 = .ok (.iadd, 1) := by decide +kernel
theorem dX7_countRows_60 : decode cX7_countRows 60 = .ok (.istore 6, 2) := by decide +kernel
theorem dX7_countRows_62 : decode cX7_countRows 62 = .ok (.iinc 7 1, 3) := by decide +kernel
theorem dX7_countRows_65 : decode cX7_countRows 65 = .ok (.goto (-47), 3) := by decide +kernel
theorem dX7_countRows_68 : decode cX7_countRows 68 = .ok (.iload 6, 2) := by decide +kernel
theorem dX7_countRows_70 : decode cX7_countRows 70 = .ok (.ireturn, 1) := by decide +kernel
theorem dX7_firstRow_0 : decode cX7_firstRow 0 = .ok (.aload_n 0, 1) := by decide +kernel
theorem dX7_firstRow_1 : decode cX7_firstRow 1 = .ok (.iload_n 1, 1) := by decide +kernel
theorem dX7_firstRow_2 : decode cX7_firstRow 2 = .ok (.iload 6, 2) := by decide +kernel
theorem dX7_firstRow_4 : decode cX7_firstRow 4 = .ok (.invokevirtual 340, 3) := by decide +kernel
theorem dX7_firstRow_7 : decode cX7_firstRow 7 = .ok (.ifCond .ne 5, 3) := by decide +kernel
theorem dX7_firstRow_10 : decode cX7_firstRow 10 = .ok (.iload_n 2, 1) := by decide +kernel
theorem dX7_firstRow_11 : decode cX7_firstRow 11 = .ok (.ireturn, 1) := by decide +kernel
theorem dX7_firstRow_12 : decode cX7_firstRow 12 = .ok (.iconst 0, 1) := by decide +kernel
theorem dX7_firstRow_13 : decode cX7_firstRow 13 = .ok (.istore 7, 2) := by decide +kernel
theorem dX7_firstRow_15 : decode cX7_firstRow 15 = .ok (.iload 7, 2) := by decide +kernel
theorem dX7_firstRow_17 : decode cX7_firstRow 17 = .ok (.iconst 3, 1) := by decide +kernel
theorem dX7_firstRow_18 : decode cX7_firstRow 18 = .ok (.if_icmp .ge 60, 3) := by decide +kernel
theorem dX7_firstRow_21 : decode cX7_firstRow 21 = .ok (.aload_n 0, 1) := by decide +kernel
theorem dX7_firstRow_22 : decode cX7_firstRow 22 = .ok (.iload_n 1, 1) := by decide +kernel
theorem dX7_firstRow_23 : decode cX7_firstRow 23 = .ok (.iload_n 3, 1) := by decide +kernel
theorem dX7_firstRow_24 : decode cX7_firstRow 24 = .ok (.iload 7, 2) := by decide +kernel
theorem dX7_firstRow_26 : decode cX7_firstRow 26 = .ok (.aload 4, 2) := by decide +kernel
theorem dX7_firstRow_28 : decode cX7_firstRow 28 = .ok (.getfield 261, 3) := by decide +kernel
theorem dX7_firstRow_31 : decode cX7_firstRow 31 = .ok (.iload 5, 2) := by decide +kernel
theorem dX7_firstRow_33 : decode cX7_firstRow 33 = .ok (.iload_n 1, 1) := by decide +kernel
theorem dX7_firstRow_34 : decode cX7_firstRow 34 = .ok (.iadd, 1) := by decide +kernel
theorem dX7_firstRow_35 : decode cX7_firstRow 35 = .ok (.laload, 1) := by decide +kernel
theorem dX7_firstRow_36 : decode cX7_firstRow 36 = .ok (.invokevirtual 349, 3) := by decide +kernel
theorem dX7_firstRow_39 : decode cX7_firstRow 39 = .ok (.ifCond .eq 33, 3) := by decide +kernel
theorem dX7_firstRow_42 : decode cX7_firstRow 42 = .ok (.aload_n 0, 1) := by decide +kernel
theorem dX7_firstRow_43 : decode cX7_firstRow 43 = .ok (.iload_n 1, 1) := by decide +kernel
theorem dX7_firstRow_44 : decode cX7_firstRow 44 = .ok (.iconst 1, 1) := by decide +kernel
theorem dX7_firstRow_45 : decode cX7_firstRow 45 = .ok (.iadd, 1) := by decide +kernel
theorem dX7_firstRow_46 : decode cX7_firstRow 46 = .ok (.iconst 3, 1) := by decide +kernel
theorem dX7_firstRow_47 : decode cX7_firstRow 47 = .ok (.iload_n 2, 1) := by decide +kernel
theorem dX7_firstRow_48 : decode cX7_firstRow 48 = .ok (.imul, 1) := by decide +kernel
theorem dX7_firstRow_49 : decode cX7_firstRow 49 = .ok (.iload 7, 2) := by decide +kernel
theorem dX7_firstRow_51 : decode cX7_firstRow 51 = .ok (.iadd, 1) := by decide +kernel
theorem dX7_firstRow_52 : decode cX7_firstRow 52 = .ok (.iload_n 3, 1) := by decide +kernel
theorem dX7_firstRow_53 : decode cX7_firstRow 53 = .ok (.aload 4, 2) := by decide +kernel
theorem dX7_firstRow_55 : decode cX7_firstRow 55 = .ok (.iload 5, 2) := by decide +kernel
theorem dX7_firstRow_57 : decode cX7_firstRow 57 = .ok (.iload 6, 2) := by decide +kernel
theorem dX7_firstRow_59 : decode cX7_firstRow 59 = .ok (.invokevirtual 285, 3) := by decide +kernel
theorem dX7_firstRow_62 : decode cX7_firstRow 62 = .ok (.istore 8, 2) := by decide +kernel
theorem dX7_firstRow_64 : decode cX7_firstRow 64 = .ok (.iload 8, 2) := by decide +kernel
theorem dX7_firstRow_66 : decode cX7_firstRow 66 = .ok (.ifCond .lt 6, 3) := by decide +kernel
theorem dX7_firstRow_69 : decode cX7_firstRow 69 = .ok (.iload 8, 2) := by decide +kernel
theorem dX7_firstRow_71 : decode cX7_firstRow 71 = .ok (.ireturn, 1) := by decide +kernel
theorem dX7_firstRow_72 : decode cX7_firstRow 72 = .ok (.iinc 7 1, 3) := by decide +kernel
theorem dX7_firstRow_75 : decode cX7_firstRow 75 = .ok (.goto (-60), 3) := by decide +kernel
theorem dX7_firstRow_78 : decode cX7_firstRow 78 = .ok (.bipush (-4), 2) := by decide +kernel
theorem dX7_firstRow_80 : decode cX7_firstRow 80 = .ok (.ireturn, 1) := by decide +kernel
theorem dX7_leadsTo_0 : decode cX7_leadsTo 0 = .ok (.aload_n 0, 1) := by decide +kernel
theorem dX7_leadsTo_1 : decode cX7_leadsTo 1 = .ok (.iload_n 1, 1) := by decide +kernel
theorem dX7_leadsTo_2 : decode cX7_leadsTo 2 = .ok (.invokevirtual 346, 3) := by decide +kernel
theorem dX7_leadsTo_5 : decode cX7_leadsTo 5 = .ok (.astore 6, 2) := by decide +kernel
theorem dX7_leadsTo_7 : decode cX7_leadsTo 7 = .ok (.aload 6, 2) := by decide +kernel
theorem dX7_leadsTo_9 : decode cX7_leadsTo 9 = .ok (.iload_n 2, 1) := by decide +kernel
theorem dX7_leadsTo_10 : decode cX7_leadsTo 10 = .ok (.iload_n 3, 1) := by decide +kernel
theorem dX7_leadsTo_11 : decode cX7_leadsTo 11 = .ok (.invokevirtual 146, 3) := by decide +kernel
theorem dX7_leadsTo_14 : decode cX7_leadsTo 14 = .ok (.aload 6, 2) := by decide +kernel
theorem dX7_leadsTo_16 : decode cX7_leadsTo 16 = .ok (.getfield 279, 3) := by decide +kernel
theorem dX7_leadsTo_19 : decode cX7_leadsTo 19 = .ok (.i2l, 1) := by decide +kernel
theorem dX7_leadsTo_20 : decode cX7_leadsTo 20 = .ok (.lload 4, 2) := by decide +kernel
theorem dX7_leadsTo_22 : decode cX7_leadsTo 22 = .ok (.lcmp, 1) := by decide +kernel
theorem dX7_leadsTo_23 : decode cX7_leadsTo 23 = .ok (.ifCond .ne 7, 3) := by decide +kernel
theorem dX7_leadsTo_26 : decode cX7_leadsTo 26 = .ok (.iconst 1, 1) := by decide +kernel
theorem dX7_leadsTo_27 : decode cX7_leadsTo 27 = .ok (.goto 4, 3) := by decide +kernel
theorem dX7_leadsTo_30 : decode cX7_leadsTo 30 = .ok (.iconst 0, 1) := by decide +kernel
theorem dX7_leadsTo_31 : decode cX7_leadsTo 31 = .ok (.ireturn, 1) := by decide +kernel
theorem dX7_fogged_0 : decode cX7_fogged 0 = .ok (.aload_n 0, 1) := by decide +kernel
theorem dX7_fogged_1 : decode cX7_fogged 1 = .ok (.iload_n 1, 1) := by decide +kernel
theorem dX7_fogged_2 : decode cX7_fogged 2 = .ok (.iload 4, 2) := by decide +kernel
theorem dX7_fogged_4 : decode cX7_fogged 4 = .ok (.invokevirtual 340, 3) := by decide +kernel
theorem dX7_fogged_7 : decode cX7_fogged 7 = .ok (.ifCond .ne 23, 3) := by decide +kernel
theorem dX7_fogged_10 : decode cX7_fogged 10 = .ok (.aload_n 0, 1) := by decide +kernel
theorem dX7_fogged_11 : decode cX7_fogged 11 = .ok (.getfield 45, 3) := by decide +kernel
theorem dX7_fogged_14 : decode cX7_fogged 14 = .ok (.iload_n 1, 1) := by decide +kernel
theorem dX7_fogged_15 : decode cX7_fogged 15 = .ok (.aaload, 1) := by decide +kernel
theorem dX7_fogged_16 : decode cX7_fogged 16 = .ok (.getfield 279, 3) := by decide +kernel
theorem dX7_fogged_19 : decode cX7_fogged 19 = .ok (.iload 5, 2) := by decide +kernel
theorem dX7_fogged_21 : decode cX7_fogged 21 = .ok (.if_icmp .ne 7, 3) := by decide +kernel
theorem dX7_fogged_24 : decode cX7_fogged 24 = .ok (.iconst 1, 1) := by decide +kernel
theorem dX7_fogged_25 : decode cX7_fogged 25 = .ok (.goto 4, 3) := by decide +kernel
theorem dX7_fogged_28 : decode cX7_fogged 28 = .ok (.iconst 0, 1) := by decide +kernel
theorem dX7_fogged_29 : decode cX7_fogged 29 = .ok (.ireturn, 1) := by decide +kernel
theorem dX7_fogged_30 : decode cX7_fogged 30 = .ok (.aload_n 0, 1) := by decide +kernel
theorem dX7_fogged_31 : decode cX7_fogged 31 = .ok (.iload_n 1, 1) := by decide +kernel
theorem dX7_fogged_32 : decode cX7_fogged 32 = .ok (.invokevirtual 346, 3) := by decide +kernel
theorem dX7_fogged_35 : decode cX7_fogged 35 = .ok (.iload_n 2, 1) := by decide +kernel
theorem dX7_fogged_36 : decode cX7_fogged 36 = .ok (.aload_n 3, 1) := by decide +kernel
theorem dX7_fogged_37 : decode cX7_fogged 37 = .ok (.getfield 261, 3) := by decide +kernel
theorem dX7_fogged_40 : decode cX7_fogged 40 = .ok (.iload_n 1, 1) := by decide +kernel
theorem dX7_fogged_41 : decode cX7_fogged 41 = .ok (.laload, 1) := by decide +kernel
theorem dX7_fogged_42 : decode cX7_fogged 42 = .ok (.l2i, 1) := by decide +kernel
theorem dX7_fogged_43 : decode cX7_fogged 43 = .ok (.invokevirtual 146, 3) := by decide +kernel
theorem dX7_fogged_46 : decode cX7_fogged 46 = .ok (.aload_n 0, 1) := by decide +kernel
theorem dX7_fogged_47 : decode cX7_fogged 47 = .ok (.iload_n 1, 1) := by decide +kernel
theorem dX7_fogged_48 : decode cX7_fogged 48 = .ok (.iconst 1, 1) := by decide +kernel
theorem dX7_fogged_49 : decode cX7_fogged 49 = .ok (.iadd, 1) := by decide +kernel
theorem dX7_fogged_50 : decode cX7_fogged 50 = .ok (.iload_n 2, 1) := by decide +kernel
theorem dX7_fogged_51 : decode cX7_fogged 51 = .ok (.aload_n 3, 1) := by decide +kernel
theorem dX7_fogged_52 : decode cX7_fogged 52 = .ok (.iload 4, 2) := by decide +kernel
theorem dX7_fogged_54 : decode cX7_fogged 54 = .ok (.iload 5, 2) := by decide +kernel
theorem dX7_fogged_56 : decode cX7_fogged 56 = .ok (.iload 6, 2) := by decide +kernel
theorem dX7_fogged_58 : decode cX7_fogged 58 = .ok (.invokevirtual 295, 3) := by decide +kernel
theorem dX7_fogged_61 : decode cX7_fogged 61 = .ok (.istore 7, 2) := by decide +kernel
theorem dX7_fogged_63 : decode cX7_fogged 63 = .ok (.aload_n 0, 1) := by decide +kernel
theorem dX7_fogged_64 : decode cX7_fogged 64 = .ok (.iload_n 1, 1) := by decide +kernel
theorem dX7_fogged_65 : decode cX7_fogged 65 = .ok (.invokevirtual 346, 3) := by decide +kernel
theorem dX7_fogged_68 : decode cX7_fogged 68 = .ok (.invokevirtual 158, 3) := by decide +kernel
theorem dX7_fogged_71 : decode cX7_fogged 71 = .ok (.pop, 1) := by decide +kernel
theorem dX7_fogged_72 : decode cX7_fogged 72 = .ok (.aload_n 0, 1) := by decide +kernel
theorem dX7_fogged_73 : decode cX7_fogged 73 = .ok (.iload_n 1, 1) := by decide +kernel
theorem dX7_fogged_74 : decode cX7_fogged 74 = .ok (.iconst 1, 1) := by decide +kernel
theorem dX7_fogged_75 : decode cX7_fogged 75 = .ok (.iadd, 1) := by decide +kernel
theorem dX7_fogged_76 : decode cX7_fogged 76 = .ok (.iload_n 2, 1) := by decide +kernel
theorem dX7_fogged_77 : decode cX7_fogged 77 = .ok (.aload_n 3, 1) := by decide +kernel
theorem dX7_fogged_78 : decode cX7_fogged 78 = .ok (.iload 4, 2) := by decide +kernel
theorem dX7_fogged_80 : decode cX7_fogged 80 = .ok (.iload 5, 2) := by decide +kernel
theorem dX7_fogged_82 : decode cX7_fogged 82 = .ok (.iload 6, 2) := by decide +kernel
theorem dX7_fogged_84 : decode cX7_fogged 84 = .ok (.invokevirtual 295, 3) := by decide +kernel
theorem dX7_fogged_87 : decode cX7_fogged 87 = .ok (.istore 8, 2) := by decide +kernel
theorem dX7_fogged_89 : decode cX7_fogged 89 = .ok (.bipush 10, 2) := by decide +kernel
theorem dX7_fogged_91 : decode cX7_fogged 91 = .ok (.iload 6, 2) := by decide +kernel
theorem dX7_fogged_93 : decode cX7_fogged 93 = .ok (.isub, 1) := by decide +kernel
theorem dX7_fogged_94 : decode cX7_fogged 94 = .ok (.iload 7, 2) := by decide +kernel
theorem dX7_fogged_96 : decode cX7_fogged 96 = .ok (.imul, 1) := by decide +kernel
theorem dX7_fogged_97 : decode cX7_fogged 97 = .ok (.iload 6, 2) := by decide +kernel
theorem dX7_fogged_99 : decode cX7_fogged 99 = .ok (.iload 8, 2) := by decide +kernel
theorem dX7_fogged_101 : decode cX7_fogged 101 = .ok (.imul, 1) := by decide +kernel
theorem dX7_fogged_102 : decode cX7_fogged 102 = .ok (.iadd, 1) := by decide +kernel
theorem dX7_fogged_103 : decode cX7_fogged 103 = .ok (.ireturn, 1) := by decide +kernel
theorem dX7_tenToThe_0 : decode cX7_tenToThe 0 = .ok (.iconst 1, 1) := by decide +kernel
theorem dX7_tenToThe_1 : decode cX7_tenToThe 1 = .ok (.istore_n 1, 1) := by decide +kernel
theorem dX7_tenToThe_2 : decode cX7_tenToThe 2 = .ok (.iconst 0, 1) := by decide +kernel
theorem dX7_tenToThe_3 : decode cX7_tenToThe 3 = .ok (.istore_n 2, 1) := by decide +kernel
theorem dX7_tenToThe_4 : decode cX7_tenToThe 4 = .ok (.iload_n 2, 1) := by decide +kernel
theorem dX7_tenToThe_5 : decode cX7_tenToThe 5 = .ok (.iload_n 0, 1) := by decide +kernel
theorem dX7_tenToThe_6 : decode cX7_tenToThe 6 = .ok (.if_icmp .ge 14, 3) := by decide +kernel
theorem dX7_tenToThe_9 : decode cX7_tenToThe 9 = .ok (.iload_n 1, 1) := by decide +kernel
theorem dX7_tenToThe_10 : decode cX7_tenToThe 10 = .ok (.bipush 10, 2) := by decide +kernel
theorem dX7_tenToThe_12 : decode cX7_tenToThe 12 = .ok (.imul, 1) := by decide +kernel
theorem dX7_tenToThe_13 : decode cX7_tenToThe 13 = .ok (.istore_n 1, 1) := by decide +kernel
theorem dX7_tenToThe_14 : decode cX7_tenToThe 14 = .ok (.iinc 2 1, 3) := by decide +kernel
theorem dX7_tenToThe_17 : decode cX7_tenToThe 17 = .ok (.goto (-13), 3) := by decide +kernel
theorem dX7_tenToThe_20 : decode cX7_tenToThe 20 = .ok (.iload_n 1, 1) := by decide +kernel
theorem dX7_tenToThe_21 : decode cX7_tenToThe 21 = .ok (.ireturn, 1) := by decide +kernel
theorem dX7_greatestDivisor_0 : decode cX7_greatestDivisor 0 = .ok (.iload_n 0, 1) := by decide +kernel
theorem dX7_greatestDivisor_1 : decode cX7_greatestDivisor 1 = .ok (.istore_n 2, 1) := by decide +kernel
theorem dX7_greatestDivisor_2 : decode cX7_greatestDivisor 2 = .ok (.iload_n 1, 1) := by decide +kernel
theorem dX7_greatestDivisor_3 : decode cX7_greatestDivisor 3 = .ok (.istore_n 3, 1) := by decide +kernel
theorem dX7_greatestDivisor_4 : decode cX7_greatestDivisor 4 = .ok (.iconst 0, 1) := by decide +kernel
theorem dX7_greatestDivisor_5 : decode cX7_greatestDivisor 5 = .ok (.istore 4, 2) := by decide +kernel
theorem dX7_greatestDivisor_7 : decode cX7_greatestDivisor 7 = .ok (.iload 4, 2) := by decide +kernel
theorem dX7_greatestDivisor_9 : decode cX7_greatestDivisor 9 = .ok (.bipush 64, 2) := by decide +kernel
theorem dX7_greatestDivisor_11 : decode cX7_greatestDivisor 11 = .ok (.if_icmp .ge 23, 3) := by decide +kernel
theorem dX7_greatestDivisor_14 : decode cX7_greatestDivisor 14 = .ok (.iload_n 3, 1) := by decide +kernel
theorem dX7_greatestDivisor_15 : decode cX7_greatestDivisor 15 = .ok (.ifCond .eq 19, 3) := by decide +kernel
theorem dX7_greatestDivisor_18 : decode cX7_greatestDivisor 18 = .ok (.iload_n 2, 1) := by decide +kernel
theorem dX7_greatestDivisor_19 : decode cX7_greatestDivisor 19 = .ok (.iload_n 3, 1) := by decide +kernel
theorem dX7_greatestDivisor_20 : decode cX7_greatestDivisor 20 = .ok (.irem, 1) := by decide +kernel
theorem dX7_greatestDivisor_21 : decode cX7_greatestDivisor 21 = .ok (.istore 5, 2) := by decide +kernel
theorem dX7_greatestDivisor_23 : decode cX7_greatestDivisor 23 = .ok (.iload_n 3, 1) := by decide +kernel
theorem dX7_greatestDivisor_24 : decode cX7_greatestDivisor 24 = .ok (.istore_n 2, 1) := by decide +kernel
theorem dX7_greatestDivisor_25 : decode cX7_greatestDivisor 25 = .ok (.iload 5, 2) := by decide +kernel
theorem dX7_greatestDivisor_27 : decode cX7_greatestDivisor 27 = .ok (.istore_n 3, 1) := by decide +kernel
theorem dX7_greatestDivisor_28 : decode cX7_greatestDivisor 28 = .ok (.iinc 4 1, 3) := by decide +kernel
theorem dX7_greatestDivisor_31 : decode cX7_greatestDivisor 31 = .ok (.goto (-24), 3) := by decide +kernel
theorem dX7_greatestDivisor_34 : decode cX7_greatestDivisor 34 = .ok (.iload_n 2, 1) := by decide +kernel
theorem dX7_greatestDivisor_35 : decode cX7_greatestDivisor 35 = .ok (.ireturn, 1) := by decide +kernel
theorem dX7_fittingKinds_0 : decode cX7_fittingKinds 0 = .ok (.iconst 0, 1) := by decide +kernel
theorem dX7_fittingKinds_1 : decode cX7_fittingKinds 1 = .ok (.istore 6, 2) := by decide +kernel
theorem dX7_fittingKinds_3 : decode cX7_fittingKinds 3 = .ok (.iconst 1, 1) := by decide +kernel
theorem dX7_fittingKinds_4 : decode cX7_fittingKinds 4 = .ok (.istore 7, 2) := by decide +kernel
theorem dX7_fittingKinds_6 : decode cX7_fittingKinds 6 = .ok (.iload 7, 2) := by decide +kernel
theorem dX7_fittingKinds_8 : decode cX7_fittingKinds 8 = .ok (.bipush 6, 2) := by decide +kernel
theorem dX7_fittingKinds_10 : decode cX7_fittingKinds 10 = .ok (.if_icmp .ge 58, 3) := by decide +kernel
theorem dX7_fittingKinds_13 : decode cX7_fittingKinds 13 = .ok (.aload_n 0, 1) := by decide +kernel
theorem dX7_fittingKinds_14 : decode cX7_fittingKinds 14 = .ok (.getfield 45, 3) := by decide +kernel
theorem dX7_fittingKinds_17 : decode cX7_fittingKinds 17 = .ok (.iload 7, 2) := by decide +kernel
theorem dX7_fittingKinds_19 : decode cX7_fittingKinds 19 = .ok (.aaload, 1) := by decide +kernel
theorem dX7_fittingKinds_20 : decode cX7_fittingKinds 20 = .ok (.astore 8, 2) := by decide +kernel
theorem dX7_fittingKinds_22 : decode cX7_fittingKinds 22 = .ok (.aload 8, 2) := by decide +kernel
theorem dX7_fittingKinds_24 : decode cX7_fittingKinds 24 = .ok (.aload_n 0, 1) := by decide +kernel
theorem dX7_fittingKinds_25 : decode cX7_fittingKinds 25 = .ok (.getfield 19, 3) := by decide +kernel
theorem dX7_fittingKinds_28 : decode cX7_fittingKinds 28 = .ok (.iload_n 1, 1) := by decide +kernel
theorem dX7_fittingKinds_29 : decode cX7_fittingKinds 29 = .ok (.invokevirtual 174, 3) := by decide +kernel
theorem dX7_fittingKinds_32 : decode cX7_fittingKinds 32 = .ok (.aload 8, 2) := by decide +kernel
theorem dX7_fittingKinds_34 : decode cX7_fittingKinds 34 = .ok (.iload 7, 2) := by decide +kernel
theorem dX7_fittingKinds_36 : decode cX7_fittingKinds 36 = .ok (.putfield 353, 3) := by decide +kernel
theorem dX7_fittingKinds_39 : decode cX7_fittingKinds 39 = .ok (.aload 8, 2) := by decide +kernel
theorem dX7_fittingKinds_41 : decode cX7_fittingKinds 41 = .ok (.iload_n 2, 1) := by decide +kernel
theorem dX7_fittingKinds_42 : decode cX7_fittingKinds 42 = .ok (.aload_n 3, 1) := by decide +kernel
theorem dX7_fittingKinds_43 : decode cX7_fittingKinds 43 = .ok (.iload 4, 2) := by decide +kernel
theorem dX7_fittingKinds_45 : decode cX7_fittingKinds 45 = .ok (.iload 5, 2) := by decide +kernel
theorem dX7_fittingKinds_47 : decode cX7_fittingKinds 47 = .ok (.invokevirtual 355, 3) := by decide +kernel
theorem dX7_fittingKinds_50 : decode cX7_fittingKinds 50 = .ok (.ifCond .eq 12, 3) := by decide +kernel
theorem dX7_fittingKinds_53 : decode cX7_fittingKinds 53 = .ok (.iload 6, 2) := by decide +kernel
theorem dX7_fittingKinds_55 : decode cX7_fittingKinds 55 = .ok (.iconst 1, 1) := by decide +kernel
theorem dX7_fittingKinds_56 : decode cX7_fittingKinds 56 = .ok (.iload 7, 2) := by decide +kernel
theorem dX7_fittingKinds_58 : decode cX7_fittingKinds 58 = .ok (.ishl, 1) := by decide +kernel
theorem dX7_fittingKinds_59 : decode cX7_fittingKinds 59 = .ok (.ior, 1) := by decide +kernel
theorem dX7_fittingKinds_60 : decode cX7_fittingKinds 60 = .ok (.istore 6, 2) := by decide +kernel
theorem dX7_fittingKinds_62 : decode cX7_fittingKinds 62 = .ok (.iinc 7 1, 3) := by decide +kernel
theorem dX7_fittingKinds_65 : decode cX7_fittingKinds 65 = .ok (.goto (-59), 3) := by decide +kernel
theorem dX7_fittingKinds_68 : decode cX7_fittingKinds 68 = .ok (.iload 6, 2) := by decide +kernel
theorem dX7_fittingKinds_70 : decode cX7_fittingKinds 70 = .ok (.ireturn, 1) := by decide +kernel
theorem dX7_wordToTry_0 : decode cX7_wordToTry 0 = .ok (.iload_n 1, 1) := by decide +kernel
theorem dX7_wordToTry_1 : decode cX7_wordToTry 1 = .ok (.ifCond .ne 6, 3) := by decide +kernel
theorem dX7_wordToTry_4 : decode cX7_wordToTry 4 = .ok (.bipush (-4), 2) := by decide +kernel
theorem dX7_wordToTry_6 : decode cX7_wordToTry 6 = .ok (.ireturn, 1) := by decide +kernel
theorem dX7_wordToTry_7 : decode cX7_wordToTry 7 = .ok (.iconst 0, 1) := by decide +kernel
theorem dX7_wordToTry_8 : decode cX7_wordToTry 8 = .ok (.istore_n 3, 1) := by decide +kernel
theorem dX7_wordToTry_9 : decode cX7_wordToTry 9 = .ok (.bipush 6, 2) := by decide +kernel
theorem dX7_wordToTry_11 : decode cX7_wordToTry 11 = .ok (.istore 4, 2) := by decide +kernel
theorem dX7_wordToTry_13 : decode cX7_wordToTry 13 = .ok (.iconst 0, 1) := by decide +kernel
theorem dX7_wordToTry_14 : decode cX7_wordToTry 14 = .ok (.istore 5, 2) := by decide +kernel
theorem dX7_wordToTry_16 : decode cX7_wordToTry 16 = .ok (.iload 5, 2) := by decide +kernel
theorem dX7_wordToTry_18 : decode cX7_wordToTry 18 = .ok (.iconst 3, 1) := by decide +kernel
theorem dX7_wordToTry_19 : decode cX7_wordToTry 19 = .ok (.if_icmp .ge 33, 3) := by decide +kernel
theorem dX7_wordToTry_22 : decode cX7_wordToTry 22 = .ok (.aload_n 0, 1) := by decide +kernel
theorem dX7_wordToTry_23 : decode cX7_wordToTry 23 = .ok (.iload_n 1, 1) := by decide +kernel
theorem dX7_wordToTry_24 : decode cX7_wordToTry 24 = .ok (.iload_n 2, 1) := by decide +kernel
theorem dX7_wordToTry_25 : decode cX7_wordToTry 25 = .ok (.iload 5, 2) := by decide +kernel
theorem dX7_wordToTry_27 : decode cX7_wordToTry 27 = .ok (.invokevirtual 359, 3) := by decide +kernel
theorem dX7_wordToTry_30 : decode cX7_wordToTry 30 = .ok (.istore 6, 2) := by decide +kernel
theorem dX7_wordToTry_32 : decode cX7_wordToTry 32 = .ok (.iload 6, 2) := by decide +kernel
theorem dX7_wordToTry_34 : decode cX7_wordToTry 34 = .ok (.iload 4, 2) := by decide +kernel
theorem dX7_wordToTry_36 : decode cX7_wordToTry 36 = .ok (.if_icmp .ge 10, 3) := by decide +kernel
theorem dX7_wordToTry_39 : decode cX7_wordToTry 39 = .ok (.iload 6, 2) := by decide +kernel
theorem dX7_wordToTry_41 : decode cX7_wordToTry 41 = .ok (.istore 4, 2) := by decide +kernel
theorem dX7_wordToTry_43 : decode cX7_wordToTry 43 = .ok (.iload 5, 2) := by decide +kernel
theorem dX7_wordToTry_45 : decode cX7_wordToTry 45 = .ok (.istore_n 3, 1) := by decide +kernel
theorem dX7_wordToTry_46 : decode cX7_wordToTry 46 = .ok (.iinc 5 1, 3) := by decide +kernel
theorem dX7_wordToTry_49 : decode cX7_wordToTry 49 = .ok (.goto (-33), 3) := by decide +kernel
theorem dX7_wordToTry_52 : decode cX7_wordToTry 52 = .ok (.iload_n 3, 1) := by decide +kernel
theorem dX7_wordToTry_53 : decode cX7_wordToTry 53 = .ok (.ireturn, 1) := by decide +kernel
theorem dX7_greatestPart_0 : decode cX7_greatestPart 0 = .ok (.iconst 0, 1) := by decide +kernel
theorem dX7_greatestPart_1 : decode cX7_greatestPart 1 = .ok (.istore 4, 2) := by decide +kernel
theorem dX7_greatestPart_3 : decode cX7_greatestPart 3 = .ok (.iconst 1, 1) := by decide +kernel
theorem dX7_greatestPart_4 : decode cX7_greatestPart 4 = .ok (.istore 5, 2) := by decide +kernel
theorem dX7_greatestPart_6 : decode cX7_greatestPart 6 = .ok (.iload 5, 2) := by decide +kernel
theorem dX7_greatestPart_8 : decode cX7_greatestPart 8 = .ok (.bipush 6, 2) := by decide +kernel
theorem dX7_greatestPart_10 : decode cX7_greatestPart 10 = .ok (.if_icmp .ge 52, 3) := by decide +kernel
theorem dX7_greatestPart_13 : decode cX7_greatestPart 13 = .ok (.iload_n 1, 1) := by decide +kernel
theorem dX7_greatestPart_14 : decode cX7_greatestPart 14 = .ok (.iconst 1, 1) := by decide +kernel
theorem dX7_greatestPart_15 : decode cX7_greatestPart 15 = .ok (.iload 5, 2) := by decide +kernel
theorem dX7_greatestPart_17 : decode cX7_greatestPart 17 = .ok (.ishl, 1) := by decide +kernel
theorem dX7_greatestPart_18 : decode cX7_greatestPart 18 = .ok (.iand, 1) := by decide +kernel
theorem dX7_greatestPart_19 : decode cX7_greatestPart 19 = .ok (.ifCond .eq 37, 3) := by decide +kernel
theorem dX7_greatestPart_22 : decode cX7_greatestPart 22 = .ok (.aload_n 0, 1) := by decide +kernel
theorem dX7_greatestPart_23 : decode cX7_greatestPart 23 = .ok (.getfield 62, 3) := by decide +kernel
theorem dX7_greatestPart_26 : decode cX7_greatestPart 26 = .ok (.iload 5, 2) := by decide +kernel
theorem dX7_greatestPart_28 : decode cX7_greatestPart 28 = .ok (.aload_n 0, 1) := by decide +kernel
theorem dX7_greatestPart_29 : decode cX7_greatestPart 29 = .ok (.aload_n 0, 1) := by decide +kernel
theorem dX7_greatestPart_30 : decode cX7_greatestPart 30 = .ok (.getfield 45, 3) := by decide +kernel
theorem dX7_greatestPart_33 : decode cX7_greatestPart 33 = .ok (.iload 5, 2) := by decide +kernel
theorem dX7_greatestPart_35 : decode cX7_greatestPart 35 = .ok (.aaload, 1) := by decide +kernel
theorem dX7_greatestPart_36 : decode cX7_greatestPart 36 = .ok (.iload_n 2, 1) := by decide +kernel
theorem dX7_greatestPart_37 : decode cX7_greatestPart 37 = .ok (.iload_n 3, 1) := by decide +kernel
theorem dX7_greatestPart_38 : decode cX7_greatestPart 38 = .ok (.invokevirtual 362, 3) := by decide +kernel
theorem dX7_greatestPart_41 : decode cX7_greatestPart 41 = .ok (.iastore, 1) := by decide +kernel
theorem dX7_greatestPart_42 : decode cX7_greatestPart 42 = .ok (.iload 4, 2) := by decide +kernel
theorem dX7_greatestPart_44 : decode cX7_greatestPart 44 = .ok (.aload_n 0, 1) := by decide +kernel
theorem dX7_greatestPart_45 : decode cX7_greatestPart 45 = .ok (.iload_n 1, 1) := by decide +kernel
theorem dX7_greatestPart_46 : decode cX7_greatestPart 46 = .ok (.iload 5, 2) := by decide +kernel
theorem dX7_greatestPart_48 : decode cX7_greatestPart 48 = .ok (.invokevirtual 365, 3) := by decide +kernel
theorem dX7_greatestPart_51 : decode cX7_greatestPart 51 = .ok (.invokestatic 328, 3) := by decide +kernel
theorem dX7_greatestPart_54 : decode cX7_greatestPart 54 = .ok (.istore 4, 2) := by decide +kernel
theorem dX7_greatestPart_56 : decode cX7_greatestPart 56 = .ok (.iinc 5 1, 3) := by decide +kernel
theorem dX7_greatestPart_59 : decode cX7_greatestPart 59 = .ok (.goto (-53), 3) := by decide +kernel
theorem dX7_greatestPart_62 : decode cX7_greatestPart 62 = .ok (.iload 4, 2) := by decide +kernel
theorem dX7_greatestPart_64 : decode cX7_greatestPart 64 = .ok (.ireturn, 1) := by decide +kernel
theorem dX7_cellBehind_0 : decode cX7_cellBehind 0 = .ok (.aload_n 0, 1) := by decide +kernel
theorem dX7_cellBehind_1 : decode cX7_cellBehind 1 = .ok (.getfield 45, 3) := by decide +kernel
theorem dX7_cellBehind_4 : decode cX7_cellBehind 4 = .ok (.iconst 0, 1) := by decide +kernel
theorem dX7_cellBehind_5 : decode cX7_cellBehind 5 = .ok (.aaload, 1) := by decide +kernel
theorem dX7_cellBehind_6 : decode cX7_cellBehind 6 = .ok (.astore 4, 2) := by decide +kernel
theorem dX7_cellBehind_8 : decode cX7_cellBehind 8 = .ok (.aload 4, 2) := by decide +kernel
theorem dX7_cellBehind_10 : decode cX7_cellBehind 10 = .ok (.aload_n 1, 1) := by decide +kernel
theorem dX7_cellBehind_11 : decode cX7_cellBehind 11 = .ok (.invokevirtual 336, 3) := by decide +kernel
theorem dX7_cellBehind_14 : decode cX7_cellBehind 14 = .ok (.aload 4, 2) := by decide +kernel
theorem dX7_cellBehind_16 : decode cX7_cellBehind 16 = .ok (.iload_n 2, 1) := by decide +kernel
theorem dX7_cellBehind_17 : decode cX7_cellBehind 17 = .ok (.iload_n 3, 1) := by decide +kernel
theorem dX7_cellBehind_18 : decode cX7_cellBehind 18 = .ok (.invokevirtual 146, 3) := by decide +kernel
theorem dX7_cellBehind_21 : decode cX7_cellBehind 21 = .ok (.aload 4, 2) := by decide +kernel
theorem dX7_cellBehind_23 : decode cX7_cellBehind 23 = .ok (.getfield 279, 3) := by decide +kernel
theorem dX7_cellBehind_26 : decode cX7_cellBehind 26 = .ok (.ireturn, 1) := by decide +kernel
theorem dX7_partAlike_0 : decode cX7_partAlike 0 = .ok (.iconst 0, 1) := by decide +kernel
theorem dX7_partAlike_1 : decode cX7_partAlike 1 = .ok (.istore_n 3, 1) := by decide +kernel
theorem dX7_partAlike_2 : decode cX7_partAlike 2 = .ok (.iconst 1, 1) := by decide +kernel
theorem dX7_partAlike_3 : decode cX7_partAlike 3 = .ok (.istore 4, 2) := by decide +kernel
theorem dX7_partAlike_5 : decode cX7_partAlike 5 = .ok (.iload 4, 2) := by decide +kernel
theorem dX7_partAlike_7 : decode cX7_partAlike 7 = .ok (.iload_n 2, 1) := by decide +kernel
theorem dX7_partAlike_8 : decode cX7_partAlike 8 = .ok (.if_icmp .gt 37, 3) := by decide +kernel
theorem dX7_partAlike_11 : decode cX7_partAlike 11 = .ok (.iload_n 1, 1) := by decide +kernel
theorem dX7_partAlike_12 : decode cX7_partAlike 12 = .ok (.iconst 1, 1) := by decide +kernel
theorem dX7_partAlike_13 : decode cX7_partAlike 13 = .ok (.iload 4, 2) := by decide +kernel
theorem dX7_partAlike_15 : decode cX7_partAlike 15 = .ok (.ishl, 1) := by decide +kernel
theorem dX7_partAlike_16 : decode cX7_partAlike 16 = .ok (.iand, 1) := by decide +kernel
theorem dX7_partAlike_17 : decode cX7_partAlike 17 = .ok (.ifCond .eq 22, 3) := by decide +kernel
theorem dX7_partAlike_20 : decode cX7_partAlike 20 = .ok (.aload_n 0, 1) := by decide +kernel
theorem dX7_partAlike_21 : decode cX7_partAlike 21 = .ok (.getfield 62, 3) := by decide +kernel
theorem dX7_partAlike_24 : decode cX7_partAlike 24 = .ok (.iload 4, 2) := by decide +kernel
theorem dX7_partAlike_26 : decode cX7_partAlike 26 = .ok (.iaload, 1) := by decide +kernel
theorem dX7_partAlike_27 : decode cX7_partAlike 27 = .ok (.aload_n 0, 1) := by decide +kernel
theorem dX7_partAlike_28 : decode cX7_partAlike 28 = .ok (.getfield 62, 3) := by decide +kernel
theorem dX7_partAlike_31 : decode cX7_partAlike 31 = .ok (.iload_n 2, 1) := by decide +kernel
theorem dX7_partAlike_32 : decode cX7_partAlike 32 = .ok (.iaload, 1) := by decide +kernel
theorem dX7_partAlike_33 : decode cX7_partAlike 33 = .ok (.if_icmp .ne 6, 3) := by decide +kernel
theorem dX7_partAlike_36 : decode cX7_partAlike 36 = .ok (.iinc 3 1, 3) := by decide +kernel
theorem dX7_partAlike_39 : decode cX7_partAlike 39 = .ok (.iinc 4 1, 3) := by decide +kernel
theorem dX7_partAlike_42 : decode cX7_partAlike 42 = .ok (.goto (-37), 3) := by decide +kernel
theorem dX7_partAlike_45 : decode cX7_partAlike 45 = .ok (.iload_n 3, 1) := by decide +kernel
theorem dX7_partAlike_46 : decode cX7_partAlike 46 = .ok (.ireturn, 1) := by decide +kernel
theorem dX7_passDecade_0 : decode cX7_passDecade 0 = .ok (.aload_n 0, 1) := by decide +kernel
theorem dX7_passDecade_1 : decode cX7_passDecade 1 = .ok (.getfield 23, 3) := by decide +kernel
theorem dX7_passDecade_4 : decode cX7_passDecade 4 = .ok (.getfield 90, 3) := by decide +kernel
theorem dX7_passDecade_7 : decode cX7_passDecade 7 = .ok (.ifCond .gt 4, 3) := by decide +kernel
theorem dX7_passDecade_10 : decode cX7_passDecade 10 = .ok (.return_, 1) := by decide +kernel
theorem dX7_passDecade_11 : decode cX7_passDecade 11 = .ok (.lload_n 1, 1) := by decide +kernel
theorem dX7_passDecade_12 : decode cX7_passDecade 12 = .ok (.aload_n 0, 1) := by decide +kernel
theorem dX7_passDecade_13 : decode cX7_passDecade 13 = .ok (.getfield 23, 3) := by decide +kernel
theorem dX7_passDecade_16 : decode cX7_passDecade 16 = .ok (.getfield 90, 3) := by decide +kernel
theorem dX7_passDecade_19 : decode cX7_passDecade 19 = .ok (.i2l, 1) := by decide +kernel
theorem dX7_passDecade_20 : decode cX7_passDecade 20 = .ok (.lrem, 1) := by decide +kernel
theorem dX7_passDecade_21 : decode cX7_passDecade 21 = .ok (.l2i, 1) := by decide +kernel
theorem dX7_passDecade_22 : decode cX7_passDecade 22 = .ok (.istore_n 3, 1) := by decide +kernel
theorem dX7_passDecade_23 : decode cX7_passDecade 23 = .ok (.lload_n 1, 1) := by decide +kernel
theorem dX7_passDecade_24 : decode cX7_passDecade 24 = .ok (.ldc2_w 368, 3) := by decide +kernel
theorem dX7_passDecade_27 : decode cX7_passDecade 27 = .ok (.ldiv, 1) := by decide +kernel
theorem dX7_passDecade_28 : decode cX7_passDecade 28 = .ok (.ldc2_w 370, 3) := by decide +kernel
theorem dX7_passDecade_31 : decode cX7_passDecade 31 = .ok (.lrem, 1) := by decide +kernel
theorem dX7_passDecade_32 : decode cX7_passDecade 32 = .ok (.l2i, 1) := by decide +kernel
theorem dX7_passDecade_33 : decode cX7_passDecade 33 = .ok (.istore 4, 2) := by decide +kernel
theorem dX7_passDecade_35 : decode cX7_passDecade 35 = .ok (.lload_n 1, 1) := by decide +kernel
theorem dX7_passDecade_36 : decode cX7_passDecade 36 = .ok (.ldc2_w 372, 3) := by decide +kernel
theorem dX7_passDecade_39 : decode cX7_passDecade 39 = .ok (.ldiv, 1) := by decide +kernel
theorem dX7_passDecade_40 : decode cX7_passDecade 40 = .ok (.ldc2_w 314, 3) := by decide +kernel
theorem dX7_passDecade_43 : decode cX7_passDecade 43 = .ok (.lrem, 1) := by decide +kernel
theorem dX7_passDecade_44 : decode cX7_passDecade 44 = .ok (.l2i, 1) := by decide +kernel
theorem dX7_passDecade_45 : decode cX7_passDecade 45 = .ok (.istore 5, 2) := by decide +kernel
theorem dX7_passDecade_47 : decode cX7_passDecade 47 = .ok (.aload_n 0, 1) := by decide +kernel
theorem dX7_passDecade_48 : decode cX7_passDecade 48 = .ok (.getfield 45, 3) := by decide +kernel
theorem dX7_passDecade_51 : decode cX7_passDecade 51 = .ok (.iconst 0, 1) := by decide +kernel
theorem dX7_passDecade_52 : decode cX7_passDecade 52 = .ok (.aaload, 1) := by decide +kernel
theorem dX7_passDecade_53 : decode cX7_passDecade 53 = .ok (.astore 6, 2) := by decide +kernel
theorem dX7_passDecade_55 : decode cX7_passDecade 55 = .ok (.aload 6, 2) := by decide +kernel
theorem dX7_passDecade_57 : decode cX7_passDecade 57 = .ok (.aload_n 0, 1) := by decide +kernel
theorem dX7_passDecade_58 : decode cX7_passDecade 58 = .ok (.getfield 23, 3) := by decide +kernel
theorem dX7_passDecade_61 : decode cX7_passDecade 61 = .ok (.iload_n 3, 1) := by decide +kernel
theorem dX7_passDecade_62 : decode cX7_passDecade 62 = .ok (.invokevirtual 174, 3) := by decide +kernel
theorem dX7_passDecade_65 : decode cX7_passDecade 65 = .ok (.aload 6, 2) := by decide +kernel
theorem dX7_passDecade_67 : decode cX7_passDecade 67 = .ok (.iload 4, 2) := by decide +kernel
theorem dX7_passDecade_69 : decode cX7_passDecade 69 = .ok (.iload 5, 2) := by decide +kernel
theorem dX7_passDecade_71 : decode cX7_passDecade 71 = .ok (.invokevirtual 146, 3) := by decide +kernel
theorem dX7_passDecade_74 : decode cX7_passDecade 74 = .ok (.lload_n 1, 1) := by decide +kernel
theorem dX7_passDecade_75 : decode cX7_passDecade 75 = .ok (.ldc2_w 374, 3) := by decide +kernel
theorem dX7_passDecade_78 : decode cX7_passDecade 78 = .ok (.ldiv, 1) := by decide +kernel
theorem dX7_passDecade_79 : decode cX7_passDecade 79 = .ok (.ldc2_w 376, 3) := by decide +kernel
theorem dX7_passDecade_82 : decode cX7_passDecade 82 = .ok (.lrem, 1) := by decide +kernel
theorem dX7_passDecade_83 : decode cX7_passDecade 83 = .ok (.lconst 0, 1) := by decide +kernel
theorem dX7_passDecade_84 : decode cX7_passDecade 84 = .ok (.lcmp, 1) := by decide +kernel
theorem dX7_passDecade_85 : decode cX7_passDecade 85 = .ok (.ifCond .ne 22, 3) := by decide +kernel
theorem dX7_passDecade_88 : decode cX7_passDecade 88 = .ok (.aload 6, 2) := by decide +kernel
theorem dX7_passDecade_90 : decode cX7_passDecade 90 = .ok (.getfield 378, 3) := by decide +kernel
theorem dX7_passDecade_93 : decode cX7_passDecade 93 = .ok (.ifCond .le 14, 3) := by decide +kernel
theorem dX7_passDecade_96 : decode cX7_passDecade 96 = .ok (.aload 6, 2) := by decide +kernel
theorem dX7_passDecade_98 : decode cX7_passDecade 98 = .ok (.dup, 1) := by decide +kernel
theorem dX7_passDecade_99 : decode cX7_passDecade 99 = .ok (.getfield 378, 3) := by decide +kernel
theorem dX7_passDecade_102 : decode cX7_passDecade 102 = .ok (.iconst 1, 1) := by decide +kernel
theorem dX7_passDecade_103 : decode cX7_passDecade 103 = .ok (.isub, 1) := by decide +kernel
theorem dX7_passDecade_104 : decode cX7_passDecade 104 = .ok (.putfield 378, 3) := by decide +kernel
theorem dX7_passDecade_107 : decode cX7_passDecade 107 = .ok (.aload 6, 2) := by decide +kernel
theorem dX7_passDecade_109 : decode cX7_passDecade 109 = .ok (.aload_n 0, 1) := by decide +kernel
theorem dX7_passDecade_110 : decode cX7_passDecade 110 = .ok (.getfield 23, 3) := by decide +kernel
theorem dX7_passDecade_113 : decode cX7_passDecade 113 = .ok (.iload_n 3, 1) := by decide +kernel
theorem dX7_passDecade_114 : decode cX7_passDecade 114 = .ok (.invokevirtual 322, 3) := by decide +kernel
theorem dX7_passDecade_117 : decode cX7_passDecade 117 = .ok (.return_, 1) := by decide +kernel
