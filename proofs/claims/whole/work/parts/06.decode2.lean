theorem dX8_noScene_10 : decode cX8_noScene 10 = .ok (.invokestatic 72, 3) := by decide +kernel
theorem dX8_noScene_13 : decode cX8_noScene 13 = .ok (.ifCond .ne 7, 3) := by decide +kernel
theorem dX8_noScene_16 : decode cX8_noScene 16 = .ok (.iconst 1, 1) := by decide +kernel
theorem dX8_noScene_17 : decode cX8_noScene 17 = .ok (.goto 4, 3) := by decide +kernel
theorem dX8_noScene_20 : decode cX8_noScene 20 = .ok (.iconst 0, 1) := by decide +kernel
theorem dX8_noScene_21 : decode cX8_noScene 21 = .ok (.ireturn, 1) := by decide +kernel
theorem dX8_noFrame_0 : decode cX8_noFrame 0 = .ok (.iload_n 1, 1) := by decide +kernel
theorem dX8_noFrame_1 : decode cX8_noFrame 1 = .ok (.iconst 0, 1) := by decide +kernel
theorem dX8_noFrame_2 : decode cX8_noFrame 2 = .ok (.aload_n 0, 1) := by decide +kernel
theorem dX8_noFrame_3 : decode cX8_noFrame 3 = .ok (.getfield 13, 3) := by decide +kernel
theorem dX8_noFrame_6 : decode cX8_noFrame 6 = .ok (.iconst 3, 1) := by decide +kernel
theorem dX8_noFrame_7 : decode cX8_noFrame 7 = .ok (.iaload, 1) := by decide +kernel
theorem dX8_noFrame_8 : decode cX8_noFrame 8 = .ok (.iconst 1, 1) := by decide +kernel
theorem dX8_noFrame_9 : decode cX8_noFrame 9 = .ok (.isub, 1) := by decide +kernel
theorem dX8_noFrame_10 : decode cX8_noFrame 10 = .ok (.invokestatic 72, 3) := by decide +kernel
theorem dX8_noFrame_13 : decode cX8_noFrame 13 = .ok (.ifCond .ne 7, 3) := by decide +kernel
theorem dX8_noFrame_16 : decode cX8_noFrame 16 = .ok (.iconst 1, 1) := by decide +kernel
theorem dX8_noFrame_17 : decode cX8_noFrame 17 = .ok (.goto 4, 3) := by decide +kernel
theorem dX8_noFrame_20 : decode cX8_noFrame 20 = .ok (.iconst 0, 1) := by decide +kernel
theorem dX8_noFrame_21 : decode cX8_noFrame 21 = .ok (.ireturn, 1) := by decide +kernel
theorem dX8_noLight_0 : decode cX8_noLight 0 = .ok (.iload_n 0, 1) := by decide +kernel
theorem dX8_noLight_1 : decode cX8_noLight 1 = .ok (.iconst 0, 1) := by decide +kernel
theorem dX8_noLight_2 : decode cX8_noLight 2 = .ok (.iconst 2, 1) := by decide +kernel
theorem dX8_noLight_3 : decode cX8_noLight 3 = .ok (.invokestatic 72, 3) := by decide +kernel
theorem dX8_noLight_6 : decode cX8_noLight 6 = .ok (.ifCond .ne 7, 3) := by decide +kernel
theorem dX8_noLight_9 : decode cX8_noLight 9 = .ok (.iconst 1, 1) := by decide +kernel
theorem dX8_noLight_10 : decode cX8_noLight 10 = .ok (.goto 4, 3) := by decide +kernel
theorem dX8_noLight_13 : decode cX8_noLight 13 = .ok (.iconst 0, 1) := by decide +kernel
theorem dX8_noLight_14 : decode cX8_noLight 14 = .ok (.ireturn, 1) := by decide +kernel
theorem dX8_noSeat_0 : decode cX8_noSeat 0 = .ok (.iload_n 0, 1) := by decide +kernel
theorem dX8_noSeat_1 : decode cX8_noSeat 1 = .ok (.bipush (-3), 2) := by decide +kernel
theorem dX8_noSeat_3 : decode cX8_noSeat 3 = .ok (.iconst 3, 1) := by decide +kernel
theorem dX8_noSeat_4 : decode cX8_noSeat 4 = .ok (.invokestatic 72, 3) := by decide +kernel
theorem dX8_noSeat_7 : decode cX8_noSeat 7 = .ok (.ifCond .ne 7, 3) := by decide +kernel
theorem dX8_noSeat_10 : decode cX8_noSeat 10 = .ok (.iconst 1, 1) := by decide +kernel
theorem dX8_noSeat_11 : decode cX8_noSeat 11 = .ok (.goto 4, 3) := by decide +kernel
theorem dX8_noSeat_14 : decode cX8_noSeat 14 = .ok (.iconst 0, 1) := by decide +kernel
theorem dX8_noSeat_15 : decode cX8_noSeat 15 = .ok (.ireturn, 1) := by decide +kernel
theorem dX8_noSpot_0 : decode cX8_noSpot 0 = .ok (.iload_n 0, 1) := by decide +kernel
theorem dX8_noSpot_1 : decode cX8_noSpot 1 = .ok (.iconst 0, 1) := by decide +kernel
theorem dX8_noSpot_2 : decode cX8_noSpot 2 = .ok (.sipush 143, 3) := by decide +kernel
theorem dX8_noSpot_5 : decode cX8_noSpot 5 = .ok (.invokestatic 72, 3) := by decide +kernel
theorem dX8_noSpot_8 : decode cX8_noSpot 8 = .ok (.ifCond .ne 7, 3) := by decide +kernel
theorem dX8_noSpot_11 : decode cX8_noSpot 11 = .ok (.iconst 1, 1) := by decide +kernel
theorem dX8_noSpot_12 : decode cX8_noSpot 12 = .ok (.goto 4, 3) := by decide +kernel
theorem dX8_noSpot_15 : decode cX8_noSpot 15 = .ok (.iconst 0, 1) := by decide +kernel
theorem dX8_noSpot_16 : decode cX8_noSpot 16 = .ok (.ireturn, 1) := by decide +kernel
theorem dX8_of_0 : decode cX8_of 0 = .ok (.aload_n 0, 1) := by decide +kernel
theorem dX8_of_1 : decode cX8_of 1 = .ok (.getfield 13, 3) := by decide +kernel
theorem dX8_of_4 : decode cX8_of 4 = .ok (.bipush 8, 2) := by decide +kernel
theorem dX8_of_6 : decode cX8_of 6 = .ok (.iconst 4, 1) := by decide +kernel
theorem dX8_of_7 : decode cX8_of 7 = .ok (.iload_n 1, 1) := by decide +kernel
theorem dX8_of_8 : decode cX8_of 8 = .ok (.imul, 1) := by decide +kernel
theorem dX8_of_9 : decode cX8_of 9 = .ok (.iadd, 1) := by decide +kernel
theorem dX8_of_10 : decode cX8_of 10 = .ok (.iload_n 2, 1) := by decide +kernel
theorem dX8_of_11 : decode cX8_of 11 = .ok (.iadd, 1) := by decide +kernel
theorem dX8_of_12 : decode cX8_of 12 = .ok (.iaload, 1) := by decide +kernel
theorem dX8_of_13 : decode cX8_of 13 = .ok (.ireturn, 1) := by decide +kernel
theorem dX8_sets_0 : decode cX8_sets 0 = .ok (.aload_n 0, 1) := by decide +kernel
theorem dX8_sets_1 : decode cX8_sets 1 = .ok (.getfield 13, 3) := by decide +kernel
theorem dX8_sets_4 : decode cX8_sets 4 = .ok (.bipush 8, 2) := by decide +kernel
theorem dX8_sets_6 : decode cX8_sets 6 = .ok (.iconst 4, 1) := by decide +kernel
theorem dX8_sets_7 : decode cX8_sets 7 = .ok (.iload_n 1, 1) := by decide +kernel
theorem dX8_sets_8 : decode cX8_sets 8 = .ok (.imul, 1) := by decide +kernel
theorem dX8_sets_9 : decode cX8_sets 9 = .ok (.iadd, 1) := by decide +kernel
theorem dX8_sets_10 : decode cX8_sets 10 = .ok (.iload_n 2, 1) := by decide +kernel
theorem dX8_sets_11 : decode cX8_sets 11 = .ok (.iadd, 1) := by decide +kernel
theorem dX8_sets_12 : decode cX8_sets 12 = .ok (.iload_n 3, 1) := by decide +kernel
theorem dX8_sets_13 : decode cX8_sets 13 = .ok (.iastore, 1) := by decide +kernel
theorem dX8_sets_14 : decode cX8_sets 14 = .ok (.return_, 1) := by decide +kernel
theorem dX8_inSlot_0 : decode cX8_inSlot 0 = .ok (.aload_n 0, 1) := by decide +kernel
theorem dX8_inSlot_1 : decode cX8_inSlot 1 = .ok (.getfield 13, 3) := by decide +kernel
theorem dX8_inSlot_4 : decode cX8_inSlot 4 = .ok (.bipush 44, 2) := by decide +kernel
theorem dX8_inSlot_6 : decode cX8_inSlot 6 = .ok (.iload_n 1, 1) := by decide +kernel
theorem dX8_inSlot_7 : decode cX8_inSlot 7 = .ok (.iadd, 1) := by decide +kernel
theorem dX8_inSlot_8 : decode cX8_inSlot 8 = .ok (.iaload, 1) := by decide +kernel
theorem dX8_inSlot_9 : decode cX8_inSlot 9 = .ok (.ireturn, 1) := by decide +kernel
theorem dX8_feed_0 : decode cX8_feed 0 = .ok (.aload_n 0, 1) := by decide +kernel
theorem dX8_feed_1 : decode cX8_feed 1 = .ok (.iconst 0, 1) := by decide +kernel
theorem dX8_feed_2 : decode cX8_feed 2 = .ok (.putfield 3, 3) := by decide +kernel
theorem dX8_feed_5 : decode cX8_feed 5 = .ok (.aload_n 0, 1) := by decide +kernel
theorem dX8_feed_6 : decode cX8_feed 6 = .ok (.getfield 79, 3) := by decide +kernel
theorem dX8_feed_9 : decode cX8_feed 9 = .ok (.bipush 20, 2) := by decide +kernel
theorem dX8_feed_11 : decode cX8_feed 11 = .ok (.iadd, 1) := by decide +kernel
theorem dX8_feed_12 : decode cX8_feed 12 = .ok (.sipush 400, 3) := by decide +kernel
theorem dX8_feed_15 : decode cX8_feed 15 = .ok (.if_icmp .le 5, 3) := by decide +kernel
theorem dX8_feed_18 : decode cX8_feed 18 = .ok (.iconst (-1), 1) := by decide +kernel
theorem dX8_feed_19 : decode cX8_feed 19 = .ok (.ireturn, 1) := by decide +kernel
theorem dX8_feed_20 : decode cX8_feed 20 = .ok (.aload_n 0, 1) := by decide +kernel
theorem dX8_feed_21 : decode cX8_feed 21 = .ok (.getfield 27, 3) := by decide +kernel
theorem dX8_feed_24 : decode cX8_feed 24 = .ok (.iconst 0, 1) := by decide +kernel
theorem dX8_feed_25 : decode cX8_feed 25 = .ok (.iload_n 1, 1) := by decide +kernel
theorem dX8_feed_26 : decode cX8_feed 26 = .ok (.iastore, 1) := by decide +kernel
theorem dX8_feed_27 : decode cX8_feed 27 = .ok (.aload_n 0, 1) := by decide +kernel
theorem dX8_feed_28 : decode cX8_feed 28 = .ok (.getfield 27, 3) := by decide +kernel
theorem dX8_feed_31 : decode cX8_feed 31 = .ok (.iconst 1, 1) := by decide +kernel
theorem dX8_feed_32 : decode cX8_feed 32 = .ok (.iload_n 2, 1) := by decide +kernel
theorem dX8_feed_33 : decode cX8_feed 33 = .ok (.iastore, 1) := by decide +kernel
theorem dX8_feed_34 : decode cX8_feed 34 = .ok (.aload_n 0, 1) := by decide +kernel
theorem dX8_feed_35 : decode cX8_feed 35 = .ok (.getfield 27, 3) := by decide +kernel
theorem dX8_feed_38 : decode cX8_feed 38 = .ok (.iconst 2, 1) := by decide +kernel
theorem dX8_feed_39 : decode cX8_feed 39 = .ok (.iload_n 3, 1) := by decide +kernel
theorem dX8_feed_40 : decode cX8_feed 40 = .ok (.iastore, 1) := by decide +kernel
theorem dX8_feed_41 : decode cX8_feed 41 = .ok (.aload_n 0, 1) := by decide +kernel
theorem dX8_feed_42 : decode cX8_feed 42 = .ok (.getfield 27, 3) := by decide +kernel
theorem dX8_feed_45 : decode cX8_feed 45 = .ok (.iconst 3, 1) := by decide +kernel
theorem dX8_feed_46 : decode cX8_feed 46 = .ok (.iload 4, 2) := by decide +kernel
theorem dX8_feed_48 : decode cX8_feed 48 = .ok (.iastore, 1) := by decide +kernel
theorem dX8_feed_49 : decode cX8_feed 49 = .ok (.aload_n 0, 1) := by decide +kernel
theorem dX8_feed_50 : decode cX8_feed 50 = .ok (.getfield 27, 3) := by decide +kernel
theorem dX8_feed_53 : decode cX8_feed 53 = .ok (.iconst 4, 1) := by decide +kernel
theorem dX8_feed_54 : decode cX8_feed 54 = .ok (.iload 5, 2) := by decide +kernel
theorem dX8_feed_56 : decode cX8_feed 56 = .ok (.iastore, 1) := by decide +kernel
theorem dX8_feed_57 : decode cX8_feed 57 = .ok (.iconst 0, 1) := by decide +kernel
theorem dX8_feed_58 : decode cX8_feed 58 = .ok (.istore 6, 2) := by decide +kernel
theorem dX8_feed_60 : decode cX8_feed 60 = .ok (.iload 6, 2) := by decide +kernel
theorem dX8_feed_62 : decode cX8_feed 62 = .ok (.bipush 20, 2) := by decide +kernel
theorem dX8_feed_64 : decode cX8_feed 64 = .ok (.if_icmp .ge 42, 3) := by decide +kernel
theorem dX8_feed_67 : decode cX8_feed 67 = .ok (.aload_n 0, 1) := by decide +kernel
theorem dX8_feed_68 : decode cX8_feed 68 = .ok (.getfield 20, 3) := by decide +kernel
theorem dX8_feed_71 : decode cX8_feed 71 = .ok (.aload_n 0, 1) := by decide +kernel
theorem dX8_feed_72 : decode cX8_feed 72 = .ok (.getfield 79, 3) := by decide +kernel
theorem dX8_feed_75 : decode cX8_feed 75 = .ok (.iload 6, 2) := by decide +kernel
theorem dX8_feed_77 : decode cX8_feed 77 = .ok (.iadd, 1) := by decide +kernel
theorem dX8_feed_78 : decode cX8_feed 78 = .ok (.aload_n 0, 1) := by decide +kernel
theorem dX8_feed_79 : decode cX8_feed 79 = .ok (.getfield 27, 3) := by decide +kernel
theorem dX8_feed_82 : decode cX8_feed 82 = .ok (.iload 6, 2) := by decide +kernel
theorem dX8_feed_84 : decode cX8_feed 84 = .ok (.iconst 4, 1) := by decide +kernel
theorem dX8_feed_85 : decode cX8_feed 85 = .ok (.idiv, 1) := by decide +kernel
theorem dX8_feed_86 : decode cX8_feed 86 = .ok (.iaload, 1) := by decide +kernel
theorem dX8_feed_87 : decode cX8_feed 87 = .ok (.bipush 24, 2) := by decide +kernel
theorem dX8_feed_89 : decode cX8_feed 89 = .ok (.bipush 8, 2) := by decide +kernel
theorem dX8_feed_91 : decode cX8_feed 91 = .ok (.iload 6, 2) := by decide +kernel
theorem dX8_feed_93 : decode cX8_feed 93 = .ok (.iconst 4, 1) := by decide +kernel
theorem dX8_feed_94 : decode cX8_feed 94 = .ok (.irem, 1) := by decide +kernel
theorem dX8_feed_95 : decode cX8_feed 95 = .ok (.imul, 1) := by decide +kernel
theorem dX8_feed_96 : decode cX8_feed 96 = .ok (.isub, 1) := by decide +kernel
theorem dX8_feed_97 : decode cX8_feed 97 = .ok (.ishr, 1) := by decide +kernel
theorem dX8_feed_98 : decode cX8_feed 98 = .ok (.i2b, 1) := by decide +kernel
theorem dX8_feed_99 : decode cX8_feed 99 = .ok (.bastore, 1) := by decide +kernel
theorem dX8_feed_100 : decode cX8_feed 100 = .ok (.iinc 6 1, 3) := by decide +kernel
theorem dX8_feed_103 : decode cX8_feed 103 = .ok (.goto (-43), 3) := by decide +kernel
theorem dX8_feed_106 : decode cX8_feed 106 = .ok (.aload_n 0, 1) := by decide +kernel
theorem dX8_feed_107 : decode cX8_feed 107 = .ok (.dup, 1) := by decide +kernel
theorem dX8_feed_108 : decode cX8_feed 108 = .ok (.getfield 79, 3) := by decide +kernel
theorem dX8_feed_111 : decode cX8_feed 111 = .ok (.bipush 20, 2) := by decide +kernel
theorem dX8_feed_113 : decode cX8_feed 113 = .ok (.iadd, 1) := by decide +kernel
theorem dX8_feed_114 : decode cX8_feed 114 = .ok (.putfield 79, 3) := by decide +kernel
theorem dX8_feed_117 : decode cX8_feed 117 = .ok (.aload_n 0, 1) := by decide +kernel
theorem dX8_feed_118 : decode cX8_feed 118 = .ok (.getfield 79, 3) := by decide +kernel
theorem dX8_feed_121 : decode cX8_feed 121 = .ok (.ireturn, 1) := by decide +kernel
theorem dX8_end_0 : decode cX8_end 0 = .ok (.aload_n 0, 1) := by decide +kernel
theorem dX8_end_1 : decode cX8_end 1 = .ok (.iconst 0, 1) := by decide +kernel
theorem dX8_end_2 : decode cX8_end 2 = .ok (.putfield 3, 3) := by decide +kernel
theorem dX8_end_5 : decode cX8_end 5 = .ok (.iload_n 1, 1) := by decide +kernel
theorem dX8_end_6 : decode cX8_end 6 = .ok (.ifCond .lt 11, 3) := by decide +kernel
theorem dX8_end_9 : decode cX8_end 9 = .ok (.iload_n 1, 1) := by decide +kernel
theorem dX8_end_10 : decode cX8_end 10 = .ok (.aload_n 0, 1) := by decide +kernel
theorem dX8_end_11 : decode cX8_end 11 = .ok (.getfield 79, 3) := by decide +kernel
theorem dX8_end_14 : decode cX8_end 14 = .ok (.if_icmp .le 5, 3) := by decide +kernel
theorem dX8_end_17 : decode cX8_end 17 = .ok (.iconst 0, 1) := by decide +kernel
theorem dX8_end_18 : decode cX8_end 18 = .ok (.ireturn, 1) := by decide +kernel
theorem dX8_end_19 : decode cX8_end 19 = .ok (.aload_n 0, 1) := by decide +kernel
theorem dX8_end_20 : decode cX8_end 20 = .ok (.iload_n 1, 1) := by decide +kernel
theorem dX8_end_21 : decode cX8_end 21 = .ok (.putfield 79, 3) := by decide +kernel
theorem dX8_end_24 : decode cX8_end 24 = .ok (.iconst 1, 1) := by decide +kernel
theorem dX8_end_25 : decode cX8_end 25 = .ok (.ireturn, 1) := by decide +kernel
theorem dX8_isAt_0 : decode cX8_isAt 0 = .ok (.aload_n 0, 1) := by decide +kernel
theorem dX8_isAt_1 : decode cX8_isAt 1 = .ok (.getfield 82, 3) := by decide +kernel
theorem dX8_isAt_4 : decode cX8_isAt 4 = .ok (.aload_n 0, 1) := by decide +kernel
theorem dX8_isAt_5 : decode cX8_isAt 5 = .ok (.getfield 85, 3) := by decide +kernel
theorem dX8_isAt_8 : decode cX8_isAt 8 = .ok (.if_icmp .ge 33, 3) := by decide +kernel
theorem dX8_isAt_11 : decode cX8_isAt 11 = .ok (.aload_n 0, 1) := by decide +kernel
theorem dX8_isAt_12 : decode cX8_isAt 12 = .ok (.getfield 20, 3) := by decide +kernel
theorem dX8_isAt_15 : decode cX8_isAt 15 = .ok (.aload_n 0, 1) := by decide +kernel
theorem dX8_isAt_16 : decode cX8_isAt 16 = .ok (.getfield 82, 3) := by decide +kernel
theorem dX8_isAt_19 : decode cX8_isAt 19 = .ok (.baload, 1) := by decide +kernel
theorem dX8_isAt_20 : decode cX8_isAt 20 = .ok (.iload_n 1, 1) := by decide +kernel
theorem dX8_isAt_21 : decode cX8_isAt 21 = .ok (.if_icmp .lt 20, 3) := by decide +kernel
theorem dX8_isAt_24 : decode cX8_isAt 24 = .ok (.aload_n 0, 1) := by decide +kernel
theorem dX8_isAt_25 : decode cX8_isAt 25 = .ok (.getfield 20, 3) := by decide +kernel
theorem dX8_isAt_28 : decode cX8_isAt 28 = .ok (.aload_n 0, 1) := by decide +kernel
theorem dX8_isAt_29 : decode cX8_isAt 29 = .ok (.getfield 82, 3) := by decide +kernel
theorem dX8_isAt_32 : decode cX8_isAt 32 = .ok (.baload, 1) := by decide +kernel
theorem dX8_isAt_33 : decode cX8_isAt 33 = .ok (.iload_n 2, 1) := by decide +kernel
theorem dX8_isAt_34 : decode cX8_isAt 34 = .ok (.if_icmp .gt 7, 3) := by decide +kernel
theorem dX8_isAt_37 : decode cX8_isAt 37 = .ok (.iconst 1, 1) := by decide +kernel
theorem dX8_isAt_38 : decode cX8_isAt 38 = .ok (.goto 4, 3) := by decide +kernel
theorem dX8_isAt_41 : decode cX8_isAt 41 = .ok (.iconst 0, 1) := by decide +kernel
theorem dX8_isAt_42 : decode cX8_isAt 42 = .ok (.ireturn, 1) := by decide +kernel
theorem dX8_blanks_0 : decode cX8_blanks 0 = .ok (.aload_n 0, 1) := by decide +kernel
theorem dX8_blanks_1 : decode cX8_blanks 1 = .ok (.bipush 32, 2) := by decide +kernel
theorem dX8_blanks_3 : decode cX8_blanks 3 = .ok (.bipush 32, 2) := by decide +kernel
theorem dX8_blanks_5 : decode cX8_blanks 5 = .ok (.invokevirtual 88, 3) := by decide +kernel
theorem dX8_blanks_8 : decode cX8_blanks 8 = .ok (.ifCond .eq 16, 3) := by decide +kernel
theorem dX8_blanks_11 : decode cX8_blanks 11 = .ok (.aload_n 0, 1) := by decide +kernel
theorem dX8_blanks_12 : decode cX8_blanks 12 = .ok (.dup, 1) := by decide +kernel
theorem dX8_blanks_13 : decode cX8_blanks 13 = .ok (.getfield 82, 3) := by decide +kernel
theorem dX8_blanks_16 : decode cX8_blanks 16 = .ok (.iconst 1, 1) := by decide +kernel
theorem dX8_blanks_17 : decode cX8_blanks 17 = .ok (.iadd, 1) := by decide +kernel
theorem dX8_blanks_18 : decode cX8_blanks 18 = .ok (.putfield 82, 3) := by decide +kernel
theorem dX8_blanks_21 : decode cX8_blanks 21 = .ok (.goto (-21), 3) := by decide +kernel
theorem dX8_blanks_24 : decode cX8_blanks 24 = .ok (.aload_n 0, 1) := by decide +kernel
theorem dX8_blanks_25 : decode cX8_blanks 25 = .ok (.aload_n 0, 1) := by decide +kernel
theorem dX8_blanks_26 : decode cX8_blanks 26 = .ok (.getfield 82, 3) := by decide +kernel
theorem dX8_blanks_29 : decode cX8_blanks 29 = .ok (.putfield 92, 3) := by decide +kernel
theorem dX8_blanks_32 : decode cX8_blanks 32 = .ok (.return_, 1) := by decide +kernel
theorem dX8_letters_0 : decode cX8_letters 0 = .ok (.aload_n 0, 1) := by decide +kernel
theorem dX8_letters_1 : decode cX8_letters 1 = .ok (.invokevirtual 95, 3) := by decide +kernel
theorem dX8_letters_4 : decode cX8_letters 4 = .ok (.aload_n 0, 1) := by decide +kernel
theorem dX8_letters_5 : decode cX8_letters 5 = .ok (.bipush 97, 2) := by decide +kernel
theorem dX8_letters_7 : decode cX8_letters 7 = .ok (.bipush 122, 2) := by decide +kernel
theorem dX8_letters_9 : decode cX8_letters 9 = .ok (.invokevirtual 88, 3) := by decide +kernel
theorem dX8_letters_12 : decode cX8_letters 12 = .ok (.ifCond .eq 16, 3) := by decide +kernel
theorem dX8_letters_15 : decode cX8_letters 15 = .ok (.aload_n 0, 1) := by decide +kernel
theorem dX8_letters_16 : decode cX8_letters 16 = .ok (.dup, 1) := by decide +kernel
theorem dX8_letters_17 : decode cX8_letters 17 = .ok (.getfield 82, 3) := by decide +kernel
theorem dX8_letters_20 : decode cX8_letters 20 = .ok (.iconst 1, 1) := by decide +kernel
theorem dX8_letters_21 : decode cX8_letters 21 = .ok (.iadd, 1) := by decide +kernel
theorem dX8_letters_22 : decode cX8_letters 22 = .ok (.putfield 82, 3) := by decide +kernel
theorem dX8_letters_25 : decode cX8_letters 25 = .ok (.goto (-21), 3) := by decide +kernel
theorem dX8_letters_28 : decode cX8_letters 28 = .ok (.return_, 1) := by decide +kernel
theorem dX8_isWord_0 : decode cX8_isWord 0 = .ok (.aload_n 0, 1) := by decide +kernel
theorem dX8_isWord_1 : decode cX8_isWord 1 = .ok (.getfield 82, 3) := by decide +kernel
theorem dX8_isWord_4 : decode cX8_isWord 4 = .ok (.aload_n 0, 1) := by decide +kernel
theorem dX8_isWord_5 : decode cX8_isWord 5 = .ok (.getfield 92, 3) := by decide +kernel
theorem dX8_isWord_8 : decode cX8_isWord 8 = .ok (.isub, 1) := by decide +kernel
theorem dX8_isWord_9 : decode cX8_isWord 9 = .ok (.aload_n 1, 1) := by decide +kernel
theorem dX8_isWord_10 : decode cX8_isWord 10 = .ok (.invokevirtual 98, 3) := by decide +kernel
theorem dX8_isWord_13 : decode cX8_isWord 13 = .ok (.if_icmp .ne 7, 3) := by decide +kernel
theorem dX8_isWord_16 : decode cX8_isWord 16 = .ok (.iconst 1, 1) := by decide +kernel
theorem dX8_isWord_17 : decode cX8_isWord 17 = .ok (.goto 4, 3) := by decide +kernel
theorem dX8_isWord_20 : decode cX8_isWord 20 = .ok (.iconst 0, 1) := by decide +kernel
theorem dX8_isWord_21 : decode cX8_isWord 21 = .ok (.istore_n 2, 1) := by decide +kernel
theorem dX8_isWord_22 : decode cX8_isWord 22 = .ok (.iconst 0, 1) := by decide +kernel
theorem dX8_isWord_23 : decode cX8_isWord 23 = .ok (.istore_n 3, 1) := by decide +kernel
theorem dX8_isWord_24 : decode cX8_isWord 24 = .ok (.iload_n 2, 1) := by decide +kernel
theorem dX8_isWord_25 : decode cX8_isWord 25 = .ok (.ifCond .eq 42, 3) := by decide +kernel
theorem dX8_isWord_28 : decode cX8_isWord 28 = .ok (.iload_n 3, 1) := by decide +kernel
theorem dX8_isWord_29 : decode cX8_isWord 29 = .ok (.aload_n 1, 1) := by decide +kernel
theorem dX8_isWord_30 : decode cX8_isWord 30 = .ok (.invokevirtual 98, 3) := by decide +kernel
theorem dX8_isWord_33 : decode cX8_isWord 33 = .ok (.if_icmp .ge 34, 3) := by decide +kernel
theorem dX8_isWord_36 : decode cX8_isWord 36 = .ok (.aload_n 0, 1) := by decide +kernel
theorem dX8_isWord_37 : decode cX8_isWord 37 = .ok (.getfield 20, 3) := by decide +kernel
theorem dX8_isWord_40 : decode cX8_isWord 40 = .ok (.aload_n 0, 1) := by decide +kernel
theorem dX8_isWord_41 : decode cX8_isWord 41 = .ok (.getfield 92, 3) := by decide +kernel
theorem dX8_isWord_44 : decode cX8_isWord 44 = .ok (.iload_n 3, 1) := by decide +kernel
theorem dX8_isWord_45 : decode cX8_isWord 45 = .ok (.iadd, 1) := by decide +kernel
theorem dX8_isWord_46 : decode cX8_isWord 46 = .ok (.baload, 1) := by decide +kernel
theorem dX8_isWord_47 : decode cX8_isWord 47 = .ok (.aload_n 1, 1) := by decide +kernel
theorem dX8_isWord_48 : decode cX8_isWord 48 = .ok (.iload_n 3, 1) := by decide +kernel
theorem dX8_isWord_49 : decode cX8_isWord 49 = .ok (.invokevirtual 103, 3) := by decide +kernel
theorem dX8_isWord_52 : decode cX8_isWord 52 = .ok (.if_icmp .ne 7, 3) := by decide +kernel
theorem dX8_isWord_55 : decode cX8_isWord 55 = .ok (.iconst 1, 1) := by decide +kernel
theorem dX8_isWord_56 : decode cX8_isWord 56 = .ok (.goto 4, 3) := by decide +kernel
theorem dX8_isWord_59 : decode cX8_isWord 59 = .ok (.iconst 0, 1) := by decide +kernel
theorem dX8_isWord_60 : decode cX8_isWord 60 = .ok (.istore_n 2, 1) := by decide +kernel
theorem dX8_isWord_61 : decode cX8_isWord 61 = .ok (.iinc 3 1, 3) := by decide +kernel
theorem dX8_isWord_64 : decode cX8_isWord 64 = .ok (.goto (-40), 3) := by decide +kernel
theorem dX8_isWord_67 : decode cX8_isWord 67 = .ok (.iload_n 2, 1) := by decide +kernel
theorem dX8_isWord_68 : decode cX8_isWord 68 = .ok (.ireturn, 1) := by decide +kernel
theorem dX8_number_0 : decode cX8_number 0 = .ok (.aload_n 0, 1) := by decide +kernel
theorem dX8_number_1 : decode cX8_number 1 = .ok (.invokevirtual 95, 3) := by decide +kernel
theorem dX8_number_4 : decode cX8_number 4 = .ok (.iconst 0, 1) := by decide +kernel
theorem dX8_number_5 : decode cX8_number 5 = .ok (.istore_n 3, 1) := by decide +kernel
theorem dX8_number_6 : decode cX8_number 6 = .ok (.aload_n 0, 1) := by decide +kernel
theorem dX8_number_7 : decode cX8_number 7 = .ok (.bipush 48, 2) := by decide +kernel
theorem dX8_number_9 : decode cX8_number 9 = .ok (.bipush 57, 2) := by decide +kernel
theorem dX8_number_11 : decode cX8_number 11 = .ok (.invokevirtual 88, 3) := by decide +kernel
theorem dX8_number_14 : decode cX8_number 14 = .ok (.ifCond .eq 51, 3) := by decide +kernel
theorem dX8_number_17 : decode cX8_number 17 = .ok (.aload_n 0, 1) := by decide +kernel
theorem dX8_number_18 : decode cX8_number 18 = .ok (.getfield 82, 3) := by decide +kernel
theorem dX8_number_21 : decode cX8_number 21 = .ok (.aload_n 0, 1) := by decide +kernel
theorem dX8_number_22 : decode cX8_number 22 = .ok (.getfield 92, 3) := by decide +kernel
theorem dX8_number_25 : decode cX8_number 25 = .ok (.isub, 1) := by decide +kernel
theorem dX8_number_26 : decode cX8_number 26 = .ok (.iconst 2, 1) := by decide +kernel
theorem dX8_number_27 : decode cX8_number 27 = .ok (.if_icmp .ge 23, 3) := by decide +kernel
theorem dX8_number_30 : decode cX8_number 30 = .ok (.bipush 10, 2) := by decide +kernel
theorem dX8_number_32 : decode cX8_number 32 = .ok (.iload_n 3, 1) := by decide +kernel
theorem dX8_number_33 : decode cX8_number 33 = .ok (.imul, 1) := by decide +kernel
theorem dX8_number_34 : decode cX8_number 34 = .ok (.aload_n 0, 1) := by decide +kernel
theorem dX8_number_35 : decode cX8_number 35 = .ok (.getfield 20, 3) := by decide +kernel
theorem dX8_number_38 : decode cX8_number 38 = .ok (.aload_n 0, 1) := by decide +kernel
theorem dX8_number_39 : decode cX8_number 39 = .ok (.getfield 82, 3) := by decide +kernel
theorem dX8_number_42 : decode cX8_number 42 = .ok (.baload, 1) := by decide +kernel
theorem dX8_number_43 : decode cX8_number 43 = .ok (.iadd, 1) := by decide +kernel
theorem dX8_number_44 : decode cX8_number 44 = .ok (.bipush 48, 2) := by decide +kernel
theorem dX8_number_46 : decode cX8_number 46 = .ok (.isub, 1) := by decide +kernel
theorem dX8_number_47 : decode cX8_number 47 = .ok (.goto 4, 3) := by decide +kernel
theorem dX8_number_50 : decode cX8_number 50 = .ok (.iload_n 3, 1) := by decide +kernel
theorem dX8_number_51 : decode cX8_number 51 = .ok (.istore_n 3, 1) := by decide +kernel
theorem dX8_number_52 : decode cX8_number 52 = .ok (.aload_n 0, 1) := by decide +kernel
theorem dX8_number_53 : decode cX8_number 53 = .ok (.dup, 1) := by decide +kernel
theorem dX8_number_54 : decode cX8_number 54 = .ok (.getfield 82, 3) := by decide +kernel
theorem dX8_number_57 : decode cX8_number 57 = .ok (.iconst 1, 1) := by decide +kernel
theorem dX8_number_58 : decode cX8_number 58 = .ok (.iadd, 1) := by decide +kernel
theorem dX8_number_59 : decode cX8_number 59 = .ok (.putfield 82, 3) := by decide +kernel
theorem dX8_number_62 : decode cX8_number 62 = .ok (.goto (-56), 3) := by decide +kernel
theorem dX8_number_65 : decode cX8_number 65 = .ok (.aload_n 0, 1) := by decide +kernel
theorem dX8_number_66 : decode cX8_number 66 = .ok (.getfield 82, 3) := by decide +kernel
theorem dX8_number_69 : decode cX8_number 69 = .ok (.aload_n 0, 1) := by decide +kernel
theorem dX8_number_70 : decode cX8_number 70 = .ok (.getfield 92, 3) := by decide +kernel
theorem dX8_number_73 : decode cX8_number 73 = .ok (.if_icmp .eq 26, 3) := by decide +kernel
theorem dX8_number_76 : decode cX8_number 76 = .ok (.aload_n 0, 1) := by decide +kernel
theorem dX8_number_77 : decode cX8_number 77 = .ok (.getfield 82, 3) := by decide +kernel
theorem dX8_number_80 : decode cX8_number 80 = .ok (.aload_n 0, 1) := by decide +kernel
theorem dX8_number_81 : decode cX8_number 81 = .ok (.getfield 92, 3) := by decide +kernel
theorem dX8_number_84 : decode cX8_number 84 = .ok (.isub, 1) := by decide +kernel
theorem dX8_number_85 : decode cX8_number 85 = .ok (.iconst 2, 1) := by decide +kernel
theorem dX8_number_86 : decode cX8_number 86 = .ok (.if_icmp .gt 13, 3) := by decide +kernel
theorem dX8_number_89 : decode cX8_number 89 = .ok (.iload_n 3, 1) := by decide +kernel
theorem dX8_number_90 : decode cX8_number 90 = .ok (.iload_n 1, 1) := by decide +kernel
theorem dX8_number_91 : decode cX8_number 91 = .ok (.if_icmp .lt 8, 3) := by decide +kernel
theorem dX8_number_94 : decode cX8_number 94 = .ok (.iload_n 3, 1) := by decide +kernel
theorem dX8_number_95 : decode cX8_number 95 = .ok (.iload_n 2, 1) := by decide +kernel
theorem dX8_number_96 : decode cX8_number 96 = .ok (.if_icmp .le 7, 3) := by decide +kernel
theorem dX8_number_99 : decode cX8_number 99 = .ok (.iconst (-1), 1) := by decide +kernel
theorem dX8_number_100 : decode cX8_number 100 = .ok (.goto 4, 3) := by decide +kernel
theorem dX8_number_103 : decode cX8_number 103 = .ok (.iload_n 3, 1) := by decide +kernel
theorem dX8_number_104 : decode cX8_number 104 = .ok (.ireturn, 1) := by decide +kernel
theorem dX8_fault_0 : decode cX8_fault 0 = .ok (.aload_n 0, 1) := by decide +kernel
theorem dX8_fault_1 : decode cX8_fault 1 = .ok (.iconst 0, 1) := by decide +kernel
theorem dX8_fault_2 : decode cX8_fault 2 = .ok (.putfield 3, 3) := by decide +kernel
theorem dX8_fault_5 : decode cX8_fault 5 = .ok (.aload_n 0, 1) := by decide +kernel
theorem dX8_fault_6 : decode cX8_fault 6 = .ok (.getfield 24, 3) := by decide +kernel
theorem dX8_fault_9 : decode cX8_fault 9 = .ok (.ireturn, 1) := by decide +kernel
theorem dX8_usesTape_0 : decode cX8_usesTape 0 = .ok (.aload_n 0, 1) := by decide +kernel
theorem dX8_usesTape_1 : decode cX8_usesTape 1 = .ok (.iconst 0, 1) := by decide +kernel
theorem dX8_usesTape_2 : decode cX8_usesTape 2 = .ok (.putfield 3, 3) := by decide +kernel
theorem dX8_usesTape_5 : decode cX8_usesTape 5 = .ok (.aload_n 0, 1) := by decide +kernel
theorem dX8_usesTape_6 : decode cX8_usesTape 6 = .ok (.aload_n 0, 1) := by decide +kernel
theorem dX8_usesTape_7 : decode cX8_usesTape 7 = .ok (.getfield 79, 3) := by decide +kernel
theorem dX8_usesTape_10 : decode cX8_usesTape 10 = .ok (.putfield 85, 3) := by decide +kernel
theorem dX8_usesTape_13 : decode cX8_usesTape 13 = .ok (.aload_n 0, 1) := by decide +kernel
theorem dX8_usesTape_14 : decode cX8_usesTape 14 = .ok (.iconst 0, 1) := by decide +kernel
theorem dX8_usesTape_15 : decode cX8_usesTape 15 = .ok (.putfield 79, 3) := by decide +kernel
theorem dX8_usesTape_18 : decode cX8_usesTape 18 = .ok (.aload_n 0, 1) := by decide +kernel
theorem dX8_usesTape_19 : decode cX8_usesTape 19 = .ok (.iconst 0, 1) := by decide +kernel
theorem dX8_usesTape_20 : decode cX8_usesTape 20 = .ok (.putfield 82, 3) := by decide +kernel
theorem dX8_usesTape_23 : decode cX8_usesTape 23 = .ok (.return_, 1) := by decide +kernel
theorem dX8_readPart_0 : decode cX8_readPart 0 = .ok (.aload_n 0, 1) := by decide +kernel
theorem dX8_readPart_1 : decode cX8_readPart 1 = .ok (.aload_n 0, 1) := by decide +kernel
theorem dX8_readPart_2 : decode cX8_readPart 2 = .ok (.iconst 0, 1) := by decide +kernel
theorem dX8_readPart_3 : decode cX8_readPart 3 = .ok (.iload_n 1, 1) := by decide +kernel
theorem dX8_readPart_4 : decode cX8_readPart 4 = .ok (.iconst 1, 1) := by decide +kernel
theorem dX8_readPart_5 : decode cX8_readPart 5 = .ok (.isub, 1) := by decide +kernel
theorem dX8_readPart_6 : decode cX8_readPart 6 = .ok (.invokevirtual 107, 3) := by decide +kernel
theorem dX8_readPart_9 : decode cX8_readPart 9 = .ok (.putfield 111, 3) := by decide +kernel
theorem dX8_readPart_12 : decode cX8_readPart 12 = .ok (.aload_n 0, 1) := by decide +kernel
theorem dX8_readPart_13 : decode cX8_readPart 13 = .ok (.aload_n 0, 1) := by decide +kernel
theorem dX8_readPart_14 : decode cX8_readPart 14 = .ok (.getfield 111, 3) := by decide +kernel
theorem dX8_readPart_17 : decode cX8_readPart 17 = .ok (.ifCond .ge 7, 3) := by decide +kernel
theorem dX8_readPart_20 : decode cX8_readPart 20 = .ok (.iconst (-1), 1) := by decide +kernel
theorem dX8_readPart_21 : decode cX8_readPart 21 = .ok (.goto 11, 3) := by decide +kernel
theorem dX8_readPart_24 : decode cX8_readPart 24 = .ok (.aload_n 0, 1) := by decide +kernel
theorem dX8_readPart_25 : decode cX8_readPart 25 = .ok (.iconst 0, 1) := by decide +kernel
theorem dX8_readPart_26 : decode cX8_readPart 26 = .ok (.iload_n 1, 1) := by decide +kernel
theorem dX8_readPart_27 : decode cX8_readPart 27 = .ok (.iconst 1, 1) := by decide +kernel
theorem dX8_readPart_28 : decode cX8_readPart 28 = .ok (.isub, 1) := by decide +kernel
theorem dX8_readPart_29 : decode cX8_readPart 29 = .ok (.invokevirtual 107, 3) := by decide +kernel
theorem dX8_readPart_32 : decode cX8_readPart 32 = .ok (.putfield 114, 3) := by decide +kernel
theorem dX8_readPart_35 : decode cX8_readPart 35 = .ok (.aload_n 0, 1) := by decide +kernel
theorem dX8_readPart_36 : decode cX8_readPart 36 = .ok (.aload_n 0, 1) := by decide +kernel
theorem dX8_readPart_37 : decode cX8_readPart 37 = .ok (.getfield 114, 3) := by decide +kernel
theorem dX8_readPart_40 : decode cX8_readPart 40 = .ok (.ifCond .ge 7, 3) := by decide +kernel
theorem dX8_readPart_43 : decode cX8_readPart 43 = .ok (.iconst (-1), 1) := by decide +kernel
theorem dX8_readPart_44 : decode cX8_readPart 44 = .ok (.goto 14, 3) := by decide +kernel
theorem dX8_readPart_47 : decode cX8_readPart 47 = .ok (.aload_n 0, 1) := by decide +kernel
theorem dX8_readPart_48 : decode cX8_readPart 48 = .ok (.iconst 1, 1) := by decide +kernel
theorem dX8_readPart_49 : decode cX8_readPart 49 = .ok (.iload_n 1, 1) := by decide +kernel
theorem dX8_readPart_50 : decode cX8_readPart 50 = .ok (.aload_n 0, 1) := by decide +kernel
theorem dX8_readPart_51 : decode cX8_readPart 51 = .ok (.getfield 111, 3) := by decide +kernel
theorem dX8_readPart_54 : decode cX8_readPart 54 = .ok (.isub, 1) := by decide +kernel
theorem dX8_readPart_55 : decode cX8_readPart 55 = .ok (.invokevirtual 107, 3) := by decide +kernel
theorem dX8_readPart_58 : decode cX8_readPart 58 = .ok (.putfield 117, 3) := by decide +kernel
theorem dX8_readPart_61 : decode cX8_readPart 61 = .ok (.aload_n 0, 1) := by decide +kernel
theorem dX8_readPart_62 : decode cX8_readPart 62 = .ok (.aload_n 0, 1) := by decide +kernel
theorem dX8_readPart_63 : decode cX8_readPart 63 = .ok (.getfield 117, 3) := by decide +kernel
theorem dX8_readPart_66 : decode cX8_readPart 66 = .ok (.ifCond .ge 7, 3) := by decide +kernel
theorem dX8_readPart_69 : decode cX8_readPart 69 = .ok (.iconst (-1), 1) := by decide +kernel
theorem dX8_readPart_70 : decode cX8_readPart 70 = .ok (.goto 14, 3) := by decide +kernel
theorem dX8_readPart_73 : decode cX8_readPart 73 = .ok (.aload_n 0, 1) := by decide +kernel
theorem dX8_readPart_74 : decode cX8_readPart 74 = .ok (.iconst 1, 1) := by decide +kernel
theorem dX8_readPart_75 : decode cX8_readPart 75 = .ok (.iload_n 1, 1) := by decide +kernel
theorem dX8_readPart_76 : decode cX8_readPart 76 = .ok (.aload_n 0, 1) := by decide +kernel
theorem dX8_readPart_77 : decode cX8_readPart 77 = .ok (.getfield 114, 3) := by decide +kernel
theorem dX8_readPart_80 : decode cX8_readPart 80 = .ok (.isub, 1) := by decide +kernel
theorem dX8_readPart_81 : decode cX8_readPart 81 = .ok (.invokevirtual 107, 3) := by decide +kernel
theorem dX8_readPart_84 : decode cX8_readPart 84 = .ok (.putfield 120, 3) := by decide +kernel
theorem dX8_readPart_87 : decode cX8_readPart 87 = .ok (.aload_n 0, 1) := by decide +kernel
theorem dX8_readPart_88 : decode cX8_readPart 88 = .ok (.getfield 120, 3) := by decide +kernel
theorem dX8_readPart_91 : decode cX8_readPart 91 = .ok (.ifCond .le 7, 3) := by decide +kernel
theorem dX8_readPart_94 : decode cX8_readPart 94 = .ok (.iconst 1, 1) := by decide +kernel
theorem dX8_readPart_95 : decode cX8_readPart 95 = .ok (.goto 4, 3) := by decide +kernel
theorem dX8_readPart_98 : decode cX8_readPart 98 = .ok (.iconst 0, 1) := by decide +kernel
theorem dX8_readPart_99 : decode cX8_readPart 99 = .ok (.ireturn, 1) := by decide +kernel
theorem dX8_partOf_0 : decode cX8_partOf 0 = .ok (.iconst 0, 1) := by decide +kernel
theorem dX8_partOf_1 : decode cX8_partOf 1 = .ok (.istore 4, 2) := by decide +kernel
theorem dX8_partOf_3 : decode cX8_partOf 3 = .ok (.iconst 0, 1) := by decide +kernel
theorem dX8_partOf_4 : decode cX8_partOf 4 = .ok (.istore 5, 2) := by decide +kernel
theorem dX8_partOf_6 : decode cX8_partOf 6 = .ok (.iload 5, 2) := by decide +kernel
theorem dX8_partOf_8 : decode cX8_partOf 8 = .ok (.bipush 25, 2) := by decide +kernel
theorem dX8_partOf_10 : decode cX8_partOf 10 = .ok (.if_icmp .ge 54, 3) := by decide +kernel
theorem dX8_partOf_13 : decode cX8_partOf 13 = .ok (.iload 4, 2) := by decide +kernel
theorem dX8_partOf_15 : decode cX8_partOf 15 = .ok (.iload 5, 2) := by decide +kernel
theorem dX8_partOf_17 : decode cX8_partOf 17 = .ok (.iconst 5, 1) := by decide +kernel
theorem dX8_partOf_18 : decode cX8_partOf 18 = .ok (.irem, 1) := by decide +kernel
theorem dX8_partOf_19 : decode cX8_partOf 19 = .ok (.iload_n 0, 1) := by decide +kernel
theorem dX8_partOf_20 : decode cX8_partOf 20 = .ok (.iload_n 0, 1) := by decide +kernel
theorem dX8_partOf_21 : decode cX8_partOf 21 = .ok (.iload_n 2, 1) := by decide +kernel
theorem dX8_partOf_22 : decode cX8_partOf 22 = .ok (.iadd, 1) := by decide +kernel
theorem dX8_partOf_23 : decode cX8_partOf 23 = .ok (.iconst 1, 1) := by decide +kernel
theorem dX8_partOf_24 : decode cX8_partOf 24 = .ok (.isub, 1) := by decide +kernel
theorem dX8_partOf_25 : decode cX8_partOf 25 = .ok (.invokestatic 72, 3) := by decide +kernel
theorem dX8_partOf_28 : decode cX8_partOf 28 = .ok (.ifCond .eq 26, 3) := by decide +kernel
theorem dX8_partOf_31 : decode cX8_partOf 31 = .ok (.iload 5, 2) := by decide +kernel
theorem dX8_partOf_33 : decode cX8_partOf 33 = .ok (.iconst 5, 1) := by decide +kernel
theorem dX8_partOf_34 : decode cX8_partOf 34 = .ok (.idiv, 1) := by decide +kernel
theorem dX8_partOf_35 : decode cX8_partOf 35 = .ok (.iload_n 1, 1) := by decide +kernel
theorem dX8_partOf_36 : decode cX8_partOf 36 = .ok (.iload_n 1, 1) := by decide +kernel
theorem dX8_partOf_37 : decode cX8_partOf 37 = .ok (.iload_n 3, 1) := by decide +kernel
theorem dX8_partOf_38 : decode cX8_partOf 38 = .ok (.iadd, 1) := by decide +kernel
theorem dX8_partOf_39 : decode cX8_partOf 39 = .ok (.iconst 1, 1) := by decide +kernel
theorem dX8_partOf_40 : decode cX8_partOf 40 = .ok (.isub, 1) := by decide +kernel
theorem dX8_partOf_41 : decode cX8_partOf 41 = .ok (.invokestatic 72, 3) := by decide +kernel
theorem dX8_partOf_44 : decode cX8_partOf 44 = .ok (.ifCond .eq 10, 3) := by decide +kernel
theorem dX8_partOf_47 : decode cX8_partOf 47 = .ok (.iconst 1, 1) := by decide +kernel
theorem dX8_partOf_48 : decode cX8_partOf 48 = .ok (.iload 5, 2) := by decide +kernel
theorem dX8_partOf_50 : decode cX8_partOf 50 = .ok (.ishl, 1) := by decide +kernel
theorem dX8_partOf_51 : decode cX8_partOf 51 = .ok (.goto 4, 3) := by decide +kernel
theorem dX8_partOf_54 : decode cX8_partOf 54 = .ok (.iconst 0, 1) := by decide +kernel
theorem dX8_partOf_55 : decode cX8_partOf 55 = .ok (.ior, 1) := by decide +kernel
theorem dX8_partOf_56 : decode cX8_partOf 56 = .ok (.istore 4, 2) := by decide +kernel
theorem dX8_partOf_58 : decode cX8_partOf 58 = .ok (.iinc 5 1, 3) := by decide +kernel
theorem dX8_partOf_61 : decode cX8_partOf 61 = .ok (.goto (-55), 3) := by decide +kernel
theorem dX8_partOf_64 : decode cX8_partOf 64 = .ok (.iload 4, 2) := by decide +kernel
theorem dX8_partOf_66 : decode cX8_partOf 66 = .ok (.ireturn, 1) := by decide +kernel
theorem dX8_has_0 : decode cX8_has 0 = .ok (.iload_n 0, 1) := by decide +kernel
theorem dX8_has_1 : decode cX8_has 1 = .ok (.iload_n 1, 1) := by decide +kernel
theorem dX8_has_2 : decode cX8_has 2 = .ok (.ishr, 1) := by decide +kernel
theorem dX8_has_3 : decode cX8_has 3 = .ok (.iconst 1, 1) := by decide +kernel
theorem dX8_has_4 : decode cX8_has 4 = .ok (.iand, 1) := by decide +kernel
theorem dX8_has_5 : decode cX8_has 5 = .ok (.iconst 1, 1) := by decide +kernel
theorem dX8_has_6 : decode cX8_has 6 = .ok (.if_icmp .ne 7, 3) := by decide +kernel
theorem dX8_has_9 : decode cX8_has 9 = .ok (.iconst 1, 1) := by decide +kernel
theorem dX8_has_10 : decode cX8_has 10 = .ok (.goto 4, 3) := by decide +kernel
theorem dX8_has_13 : decode cX8_has 13 = .ok (.iconst 0, 1) := by decide +kernel
theorem dX8_has_14 : decode cX8_has 14 = .ok (.ireturn, 1) := by decide +kernel
theorem dX8_turned_0 : decode cX8_turned 0 = .ok (.iconst 0, 1) := by decide +kernel
theorem dX8_turned_1 : decode cX8_turned 1 = .ok (.istore_n 1, 1) := by decide +kernel
theorem dX8_turned_2 : decode cX8_turned 2 = .ok (.iconst 0, 1) := by decide +kernel
theorem dX8_turned_3 : decode cX8_turned 3 = .ok (.istore_n 2, 1) := by decide +kernel
theorem dX8_turned_4 : decode cX8_turned 4 = .ok (.iload_n 2, 1) := by decide +kernel
theorem dX8_turned_5 : decode cX8_turned 5 = .ok (.bipush 25, 2) := by decide +kernel
theorem dX8_turned_7 : decode cX8_turned 7 = .ok (.if_icmp .ge 37, 3) := by decide +kernel
theorem dX8_turned_10 : decode cX8_turned 10 = .ok (.iload_n 1, 1) := by decide +kernel
theorem dX8_turned_11 : decode cX8_turned 11 = .ok (.iload_n 0, 1) := by decide +kernel
theorem dX8_turned_12 : decode cX8_turned 12 = .ok (.iconst 5, 1) := by decide +kernel
theorem dX8_turned_13 : decode cX8_turned 13 = .ok (.iconst 4, 1) := by decide +kernel
theorem dX8_turned_14 : decode cX8_turned 14 = .ok (.iload_n 2, 1) := by decide +kernel
theorem dX8_turned_15 : decode cX8_turned 15 = .ok (.iconst 5, 1) := by decide +kernel
theorem dX8_turned_16 : decode cX8_turned 16 = .ok (.irem, 1) := by decide +kernel
theorem dX8_turned_17 : decode cX8_turned 17 = .ok (.isub, 1) := by decide +kernel
theorem dX8_turned_18 : decode cX8_turned 18 = .ok (.imul, 1) := by decide +kernel
theorem dX8_turned_19 : decode cX8_turned 19 = .ok (.iload_n 2, 1) := by decide +kernel
theorem dX8_turned_20 : decode cX8_turned 20 = .ok (.iconst 5, 1) := by decide +kernel
theorem dX8_turned_21 : decode cX8_turned 21 = .ok (.idiv, 1) := by decide +kernel
theorem dX8_turned_22 : decode cX8_turned 22 = .ok (.iadd, 1) := by decide +kernel
theorem dX8_turned_23 : decode cX8_turned 23 = .ok (.invokestatic 123, 3) := by decide +kernel
theorem dX8_turned_26 : decode cX8_turned 26 = .ok (.ifCond .eq 9, 3) := by decide +kernel
theorem dX8_turned_29 : decode cX8_turned 29 = .ok (.iconst 1, 1) := by decide +kernel
theorem dX8_turned_30 : decode cX8_turned 30 = .ok (.iload_n 2, 1) := by decide +kernel
theorem dX8_turned_31 : decode cX8_turned 31 = .ok (.ishl, 1) := by decide +kernel
theorem dX8_turned_32 : decode cX8_turned 32 = .ok (.goto 4, 3) := by decide +kernel
theorem dX8_turned_35 : decode cX8_turned 35 = .ok (.iconst 0, 1) := by decide +kernel
theorem dX8_turned_36 : decode cX8_turned 36 = .ok (.ior, 1) := by decide +kernel
theorem dX8_turned_37 : decode cX8_turned 37 = .ok (.istore_n 1, 1) := by decide +kernel
theorem dX8_turned_38 : decode cX8_turned 38 = .ok (.iinc 2 1, 3) := by decide +kernel
theorem dX8_turned_41 : decode cX8_turned 41 = .ok (.goto (-37), 3) := by decide +kernel
theorem dX8_turned_44 : decode cX8_turned 44 = .ok (.iload_n 1, 1) := by decide +kernel
theorem dX8_turned_45 : decode cX8_turned 45 = .ok (.ireturn, 1) := by decide +kernel
theorem dX8_flipped_0 : decode cX8_flipped 0 = .ok (.iconst 0, 1) := by decide +kernel
theorem dX8_flipped_1 : decode cX8_flipped 1 = .ok (.istore_n 1, 1) := by decide +kernel
theorem dX8_flipped_2 : decode cX8_flipped 2 = .ok (.iconst 0, 1) := by decide +kernel
theorem dX8_flipped_3 : decode cX8_flipped 3 = .ok (.istore_n 2, 1) := by decide +kernel
theorem dX8_flipped_4 : decode cX8_flipped 4 = .ok (.iload_n 2, 1) := by decide +kernel
theorem dX8_flipped_5 : decode cX8_flipped 5 = .ok (.bipush 25, 2) := by decide +kernel
theorem dX8_flipped_7 : decode cX8_flipped 7 = .ok (.if_icmp .ge 39, 3) := by decide +kernel
theorem dX8_flipped_10 : decode cX8_flipped 10 = .ok (.iload_n 1, 1) := by decide +kernel
theorem dX8_flipped_11 : decode cX8_flipped 11 = .ok (.iload_n 0, 1) := by decide +kernel
theorem dX8_flipped_12 : decode cX8_flipped 12 = .ok (.iload_n 2, 1) := by decide +kernel
theorem dX8_flipped_13 : decode cX8_flipped 13 = .ok (.iconst 5, 1) := by decide +kernel
theorem dX8_flipped_14 : decode cX8_flipped 14 = .ok (.idiv, 1) := by decide +kernel
theorem dX8_flipped_15 : decode cX8_flipped 15 = .ok (.iconst 5, 1) := by decide +kernel
theorem dX8_flipped_16 : decode cX8_flipped 16 = .ok (.imul, 1) := by decide +kernel
theorem dX8_flipped_17 : decode cX8_flipped 17 = .ok (.iconst 5, 1) := by decide +kernel
theorem dX8_flipped_18 : decode cX8_flipped 18 = .ok (.iadd, 1) := by decide +kernel
theorem dX8_flipped_19 : decode cX8_flipped 19 = .ok (.iconst 1, 1) := by decide +kernel
theorem dX8_flipped_20 : decode cX8_flipped 20 = .ok (.isub, 1) := by decide +kernel
theorem dX8_flipped_21 : decode cX8_flipped 21 = .ok (.iload_n 2, 1) := by decide +kernel
theorem dX8_flipped_22 : decode cX8_flipped 22 = .ok (.iconst 5, 1) := by decide +kernel
theorem dX8_flipped_23 : decode cX8_flipped 23 = .ok (.irem, 1) := by decide +kernel
theorem dX8_flipped_24 : decode cX8_flipped 24 = .ok (.isub, 1) := by decide +kernel
theorem dX8_flipped_25 : decode cX8_flipped 25 = .ok (.invokestatic 123, 3) := by decide +kernel
theorem dX8_flipped_28 : decode cX8_flipped 28 = .ok (.ifCond .eq 9, 3) := by decide +kernel
theorem dX8_flipped_31 : decode cX8_flipped 31 = .ok (.iconst 1, 1) := by decide +kernel
theorem dX8_flipped_32 : decode cX8_flipped 32 = .ok (.iload_n 2, 1) := by decide +kernel
theorem dX8_flipped_33 : decode cX8_flipped 33 = .ok (.ishl, 1) := by decide +kernel
theorem dX8_flipped_34 : decode cX8_flipped 34 = .ok (.goto 4, 3) := by decide +kernel
theorem dX8_flipped_37 : decode cX8_flipped 37 = .ok (.iconst 0, 1) := by decide +kernel
theorem dX8_flipped_38 : decode cX8_flipped 38 = .ok (.ior, 1) := by decide +kernel
theorem dX8_flipped_39 : decode cX8_flipped 39 = .ok (.istore_n 1, 1) := by decide +kernel
theorem dX8_flipped_40 : decode cX8_flipped 40 = .ok (.iinc 2 1, 3) := by decide +kernel
theorem dX8_flipped_43 : decode cX8_flipped 43 = .ok (.goto (-39), 3) := by decide +kernel
theorem dX8_flipped_46 : decode cX8_flipped 46 = .ok (.iload_n 1, 1) := by decide +kernel
theorem dX8_flipped_47 : decode cX8_flipped 47 = .ok (.ireturn, 1) := by decide +kernel
theorem dX8_readStroke_0 : decode cX8_readStroke 0 = .ok (.aload_n 0, 1) := by decide +kernel
theorem dX8_readStroke_1 : decode cX8_readStroke 1 = .ok (.ldc 126, 2) := by decide +kernel
theorem dX8_readStroke_3 : decode cX8_readStroke 3 = .ok (.invokevirtual 128, 3) := by decide +kernel
theorem dX8_readStroke_6 : decode cX8_readStroke 6 = .ok (.ifCond .eq 16, 3) := by decide +kernel
theorem dX8_readStroke_9 : decode cX8_readStroke 9 = .ok (.aload_n 0, 1) := by decide +kernel
theorem dX8_readStroke_10 : decode cX8_readStroke 10 = .ok (.aload_n 0, 1) := by decide +kernel
theorem dX8_readStroke_11 : decode cX8_readStroke 11 = .ok (.getfield 132, 3) := by decide +kernel
theorem dX8_readStroke_14 : decode cX8_readStroke 14 = .ok (.invokestatic 135, 3) := by decide +kernel
theorem dX8_readStroke_17 : decode cX8_readStroke 17 = .ok (.putfield 132, 3) := by decide +kernel
theorem dX8_readStroke_20 : decode cX8_readStroke 20 = .ok (.iconst 1, 1) := by decide +kernel
theorem dX8_readStroke_21 : decode cX8_readStroke 21 = .ok (.ireturn, 1) := by decide +kernel
theorem dX8_readStroke_22 : decode cX8_readStroke 22 = .ok (.aload_n 0, 1) := by decide +kernel
theorem dX8_readStroke_23 : decode cX8_readStroke 23 = .ok (.ldc 139, 2) := by decide +kernel
theorem dX8_readStroke_25 : decode cX8_readStroke 25 = .ok (.invokevirtual 128, 3) := by decide +kernel
theorem dX8_readStroke_28 : decode cX8_readStroke 28 = .ok (.ifCond .eq 16, 3) := by decide +kernel
theorem dX8_readStroke_31 : decode cX8_readStroke 31 = .ok (.aload_n 0, 1) := by decide +kernel
theorem dX8_readStroke_32 : decode cX8_readStroke 32 = .ok (.aload_n 0, 1) := by decide +kernel
theorem dX8_readStroke_33 : decode cX8_readStroke 33 = .ok (.getfield 132, 3) := by decide +kernel
theorem dX8_readStroke_36 : decode cX8_readStroke 36 = .ok (.invokestatic 141, 3) := by decide +kernel
theorem dX8_readStroke_39 : decode cX8_readStroke 39 = .ok (.putfield 132, 3) := by decide +kernel
theorem dX8_readStroke_42 : decode cX8_readStroke 42 = .ok (.iconst 1, 1) := by decide +kernel
theorem dX8_readStroke_43 : decode cX8_readStroke 43 = .ok (.ireturn, 1) := by decide +kernel
theorem dX8_readStroke_44 : decode cX8_readStroke 44 = .ok (.aload_n 0, 1) := by decide +kernel
theorem dX8_readStroke_45 : decode cX8_readStroke 45 = .ok (.ldc 144, 2) := by decide +kernel
theorem dX8_readStroke_47 : decode cX8_readStroke 47 = .ok (.invokevirtual 128, 3) := by decide +kernel
theorem dX8_readStroke_50 : decode cX8_readStroke 50 = .ok (.istore_n 1, 1) := by decide +kernel
theorem dX8_readStroke_51 : decode cX8_readStroke 51 = .ok (.iload_n 1, 1) := by decide +kernel
theorem dX8_readStroke_52 : decode cX8_readStroke 52 = .ok (.ifCond .ne 12, 3) := by decide +kernel
theorem dX8_readStroke_55 : decode cX8_readStroke 55 = .ok (.aload_n 0, 1) := by decide +kernel
theorem dX8_readStroke_56 : decode cX8_readStroke 56 = .ok (.ldc 146, 2) := by decide +kernel
theorem dX8_readStroke_58 : decode cX8_readStroke 58 = .ok (.invokevirtual 128, 3) := by decide +kernel
theorem dX8_readStroke_61 : decode cX8_readStroke 61 = .ok (.ifCond .eq 11, 3) := by decide +kernel
theorem dX8_readStroke_64 : decode cX8_readStroke 64 = .ok (.aload_n 0, 1) := by decide +kernel
theorem dX8_readStroke_65 : decode cX8_readStroke 65 = .ok (.iconst 5, 1) := by decide +kernel
theorem dX8_readStroke_66 : decode cX8_readStroke 66 = .ok (.invokevirtual 148, 3) := by decide +kernel
theorem dX8_readStroke_69 : decode cX8_readStroke 69 = .ok (.ifCond .ne 5, 3) := by decide +kernel
theorem dX8_readStroke_72 : decode cX8_readStroke 72 = .ok (.iconst 0, 1) := by decide +kernel
theorem dX8_readStroke_73 : decode cX8_readStroke 73 = .ok (.ireturn, 1) := by decide +kernel
theorem dX8_readStroke_74 : decode cX8_readStroke 74 = .ok (.aload_n 0, 1) := by decide +kernel
theorem dX8_readStroke_75 : decode cX8_readStroke 75 = .ok (.getfield 111, 3) := by decide +kernel
theorem dX8_readStroke_78 : decode cX8_readStroke 78 = .ok (.aload_n 0, 1) := by decide +kernel
theorem dX8_readStroke_79 : decode cX8_readStroke 79 = .ok (.getfield 114, 3) := by decide +kernel
theorem dX8_readStroke_82 : decode cX8_readStroke 82 = .ok (.aload_n 0, 1) := by decide +kernel
theorem dX8_readStroke_83 : decode cX8_readStroke 83 = .ok (.getfield 117, 3) := by decide +kernel
theorem dX8_readStroke_86 : decode cX8_readStroke 86 = .ok (.aload_n 0, 1) := by decide +kernel
theorem dX8_readStroke_87 : decode cX8_readStroke 87 = .ok (.getfield 120, 3) := by decide +kernel
theorem dX8_readStroke_90 : decode cX8_readStroke 90 = .ok (.invokestatic 152, 3) := by decide +kernel
theorem dX8_readStroke_93 : decode cX8_readStroke 93 = .ok (.istore_n 2, 1) := by decide +kernel
theorem dX8_readStroke_94 : decode cX8_readStroke 94 = .ok (.aload_n 0, 1) := by decide +kernel
theorem dX8_readStroke_95 : decode cX8_readStroke 95 = .ok (.iload_n 1, 1) := by decide +kernel
theorem dX8_readStroke_96 : decode cX8_readStroke 96 = .ok (.ifCond .eq 14, 3) := by decide +kernel
theorem dX8_readStroke_99 : decode cX8_readStroke 99 = .ok (.aload_n 0, 1) := by decide +kernel
theorem dX8_readStroke_100 : decode cX8_readStroke 100 = .ok (.getfield 132, 3) := by decide +kernel
theorem dX8_readStroke_103 : decode cX8_readStroke 103 = .ok (.iload_n 2, 1) := by decide +kernel
theorem dX8_readStroke_104 : decode cX8_readStroke 104 = .ok (.iconst (-1), 1) := by decide +kernel
theorem dX8_readStroke_105 : decode cX8_readStroke 105 = .ok (.ixor, 1) := by decide +kernel
theorem dX8_readStroke_106 : decode cX8_readStroke 106 = .ok (.iand, 1) := by decide +kernel
theorem dX8_readStroke_107 : decode cX8_readStroke 107 = .ok (.goto 9, 3) := by decide +kernel
theorem dX8_readStroke_110 : decode cX8_readStroke 110 = .ok (.aload_n 0, 1) := by decide +kernel
theorem dX8_readStroke_111 : decode cX8_readStroke 111 = .ok (.getfield 132, 3) := by decide +kernel
theorem dX8_readStroke_114 : decode cX8_readStroke 114 = .ok (.iload_n 2, 1) := by decide +kernel
theorem dX8_readStroke_115 : decode cX8_readStroke 115 = .ok (.ior, 1) := by decide +kernel
theorem dX8_readStroke_116 : decode cX8_readStroke 116 = .ok (.putfield 132, 3) := by decide +kernel
theorem dX8_readStroke_119 : decode cX8_readStroke 119 = .ok (.iconst 1, 1) := by decide +kernel
theorem dX8_readStroke_120 : decode cX8_readStroke 120 = .ok (.ireturn, 1) := by decide +kernel
theorem dX8_readMark_0 : decode cX8_readMark 0 = .ok (.aload_n 0, 1) := by decide +kernel
theorem dX8_readMark_1 : decode cX8_readMark 1 = .ok (.ldc 156, 2) := by decide +kernel
theorem dX8_readMark_3 : decode cX8_readMark 3 = .ok (.invokevirtual 128, 3) := by decide +kernel
theorem dX8_readMark_6 : decode cX8_readMark 6 = .ok (.ifCond .eq 7, 3) := by decide +kernel
theorem dX8_readMark_9 : decode cX8_readMark 9 = .ok (.iconst 2, 1) := by decide +kernel
theorem dX8_readMark_10 : decode cX8_readMark 10 = .ok (.goto 43, 3) := by decide +kernel
theorem dX8_readMark_13 : decode cX8_readMark 13 = .ok (.aload_n 0, 1) := by decide +kernel
theorem dX8_readMark_14 : decode cX8_readMark 14 = .ok (.ldc 158, 2) := by decide +kernel
theorem dX8_readMark_16 : decode cX8_readMark 16 = .ok (.invokevirtual 128, 3) := by decide +kernel
theorem dX8_readMark_19 : decode cX8_readMark 19 = .ok (.ifCond .eq 7, 3) := by decide +kernel
theorem dX8_readMark_22 : decode cX8_readMark 22 = .ok (.iconst 1, 1) := by decide +kernel
theorem dX8_readMark_23 : decode cX8_readMark 23 = .ok (.goto 30, 3) := by decide +kernel
theorem dX8_readMark_26 : decode cX8_readMark 26 = .ok (.aload_n 0, 1) := by decide +kernel
theorem dX8_readMark_27 : decode cX8_readMark 27 = .ok (.ldc 160, 2) := by decide +kernel
theorem dX8_readMark_29 : decode cX8_readMark 29 = .ok (.invokevirtual 128, 3) := by decide +kernel
theorem dX8_readMark_32 : decode cX8_readMark 32 = .ok (.ifCond .eq 7, 3) := by decide +kernel
theorem dX8_readMark_35 : decode cX8_readMark 35 = .ok (.iconst 0, 1) := by decide +kernel
theorem dX8_readMark_36 : decode cX8_readMark 36 = .ok (.goto 17, 3) := by decide +kernel
theorem dX8_readMark_39 : decode cX8_readMark 39 = .ok (.aload_n 0, 1) := by decide +kernel
theorem dX8_readMark_40 : decode cX8_readMark 40 = .ok (.ldc 162, 2) := by decide +kernel
theorem dX8_readMark_42 : decode cX8_readMark 42 = .ok (.invokevirtual 128, 3) := by decide +kernel
theorem dX8_readMark_45 : decode cX8_readMark 45 = .ok (.ifCond .eq 7, 3) := by decide +kernel
theorem dX8_readMark_48 : decode cX8_readMark 48 = .ok (.iconst 3, 1) := by decide +kernel
theorem dX8_readMark_49 : decode cX8_readMark 49 = .ok (.goto 4, 3) := by decide +kernel
theorem dX8_readMark_52 : decode cX8_readMark 52 = .ok (.iconst (-1), 1) := by decide +kernel
theorem dX8_readMark_53 : decode cX8_readMark 53 = .ok (.istore_n 1, 1) := by decide +kernel
theorem dX8_readMark_54 : decode cX8_readMark 54 = .ok (.iload_n 1, 1) := by decide +kernel
theorem dX8_readMark_55 : decode cX8_readMark 55 = .ok (.ifCond .lt 12, 3) := by decide +kernel
theorem dX8_readMark_58 : decode cX8_readMark 58 = .ok (.aload_n 0, 1) := by decide +kernel
theorem dX8_readMark_59 : decode cX8_readMark 59 = .ok (.bipush 12, 2) := by decide +kernel
theorem dX8_readMark_61 : decode cX8_readMark 61 = .ok (.invokevirtual 148, 3) := by decide +kernel
theorem dX8_readMark_64 : decode cX8_readMark 64 = .ok (.ifCond .ne 5, 3) := by decide +kernel
theorem dX8_readMark_67 : decode cX8_readMark 67 = .ok (.iconst 0, 1) := by decide +kernel
theorem dX8_readMark_68 : decode cX8_readMark 68 = .ok (.ireturn, 1) := by decide +kernel
theorem dX8_readMark_69 : decode cX8_readMark 69 = .ok (.aload_n 0, 1) := by decide +kernel
theorem dX8_readMark_70 : decode cX8_readMark 70 = .ok (.getfield 114, 3) := by decide +kernel
theorem dX8_readMark_73 : decode cX8_readMark 73 = .ok (.istore_n 2, 1) := by decide +kernel
theorem dX8_readMark_74 : decode cX8_readMark 74 = .ok (.iload_n 2, 1) := by decide +kernel
theorem dX8_readMark_75 : decode cX8_readMark 75 = .ok (.aload_n 0, 1) := by decide +kernel
theorem dX8_readMark_76 : decode cX8_readMark 76 = .ok (.getfield 114, 3) := by decide +kernel
theorem dX8_readMark_79 : decode cX8_readMark 79 = .ok (.aload_n 0, 1) := by decide +kernel
theorem dX8_readMark_80 : decode cX8_readMark 80 = .ok (.getfield 120, 3) := by decide +kernel
theorem dX8_readMark_83 : decode cX8_readMark 83 = .ok (.iadd, 1) := by decide +kernel
theorem dX8_readMark_84 : decode cX8_readMark 84 = .ok (.if_icmp .ge 49, 3) := by decide +kernel
theorem dX8_readMark_87 : decode cX8_readMark 87 = .ok (.aload_n 0, 1) := by decide +kernel
theorem dX8_readMark_88 : decode cX8_readMark 88 = .ok (.getfield 111, 3) := by decide +kernel
theorem dX8_readMark_91 : decode cX8_readMark 91 = .ok (.istore_n 3, 1) := by decide +kernel
theorem dX8_readMark_92 : decode cX8_readMark 92 = .ok (.iload_n 3, 1) := by decide +kernel
theorem dX8_readMark_93 : decode cX8_readMark 93 = .ok (.aload_n 0, 1) := by decide +kernel
theorem dX8_readMark_94 : decode cX8_readMark 94 = .ok (.getfield 111, 3) := by decide +kernel
theorem dX8_readMark_97 : decode cX8_readMark 97 = .ok (.aload_n 0, 1) := by decide +kernel
theorem dX8_readMark_98 : decode cX8_readMark 98 = .ok (.getfield 117, 3) := by decide +kernel
theorem dX8_readMark_101 : decode cX8_readMark 101 = .ok (.iadd, 1) := by decide +kernel
theorem dX8_readMark_102 : decode cX8_readMark 102 = .ok (.if_icmp .ge 25, 3) := by decide +kernel
theorem dX8_readMark_105 : decode cX8_readMark 105 = .ok (.aload_n 0, 1) := by decide +kernel
theorem dX8_readMark_106 : decode cX8_readMark 106 = .ok (.getfield 13, 3) := by decide +kernel
theorem dX8_readMark_109 : decode cX8_readMark 109 = .ok (.sipush 1038, 3) := by decide +kernel
theorem dX8_readMark_112 : decode cX8_readMark 112 = .ok (.bipush 12, 2) := by decide +kernel
theorem dX8_readMark_114 : decode cX8_readMark 114 = .ok (.iload_n 2, 1) := by decide +kernel
theorem dX8_readMark_115 : decode cX8_readMark 115 = .ok (.imul, 1) := by decide +kernel
theorem dX8_readMark_116 : decode cX8_readMark 116 = .ok (.iadd, 1) := by decide +kernel
theorem dX8_readMark_117 : decode cX8_readMark 117 = .ok (.iload_n 3, 1) := by decide +kernel
theorem dX8_readMark_118 : decode cX8_readMark 118 = .ok (.iadd, 1) := by decide +kernel
theorem dX8_readMark_119 : decode cX8_readMark 119 = .ok (.iload_n 1, 1) := by decide +kernel
theorem dX8_readMark_120 : decode cX8_readMark 120 = .ok (.iastore, 1) := by decide +kernel
theorem dX8_readMark_121 : decode cX8_readMark 121 = .ok (.iinc 3 1, 3) := by decide +kernel
theorem dX8_readMark_124 : decode cX8_readMark 124 = .ok (.goto (-32), 3) := by decide +kernel
theorem dX8_readMark_127 : decode cX8_readMark 127 = .ok (.iinc 2 1, 3) := by decide +kernel
theorem dX8_readMark_130 : decode cX8_readMark 130 = .ok (.goto (-56), 3) := by decide +kernel
theorem dX8_readMark_133 : decode cX8_readMark 133 = .ok (.iconst 1, 1) := by decide +kernel
theorem dX8_readMark_134 : decode cX8_readMark 134 = .ok (.ireturn, 1) := by decide +kernel
theorem dX8_readRule_0 : decode cX8_readRule 0 = .ok (.aload_n 0, 1) := by decide +kernel
theorem dX8_readRule_1 : decode cX8_readRule 1 = .ok (.ldc 164, 2) := by decide +kernel
theorem dX8_readRule_3 : decode cX8_readRule 3 = .ok (.invokevirtual 128, 3) := by decide +kernel
theorem dX8_readRule_6 : decode cX8_readRule 6 = .ok (.ifCond .eq 7, 3) := by decide +kernel
theorem dX8_readRule_9 : decode cX8_readRule 9 = .ok (.iconst 0, 1) := by decide +kernel
theorem dX8_readRule_10 : decode cX8_readRule 10 = .ok (.goto 43, 3) := by decide +kernel
theorem dX8_readRule_13 : decode cX8_readRule 13 = .ok (.aload_n 0, 1) := by decide +kernel
theorem dX8_readRule_14 : decode cX8_readRule 14 = .ok (.ldc 166, 2) := by decide +kernel
theorem dX8_readRule_16 : decode cX8_readRule 16 = .ok (.invokevirtual 128, 3) := by decide +kernel
theorem dX8_readRule_19 : decode cX8_readRule 19 = .ok (.ifCond .eq 7, 3) := by decide +kernel
theorem dX8_readRule_22 : decode cX8_readRule 22 = .ok (.iconst 1, 1) := by decide +kernel
theorem dX8_readRule_23 : decode cX8_readRule 23 = .ok (.goto 30, 3) := by decide +kernel
theorem dX8_readRule_26 : decode cX8_readRule 26 = .ok (.aload_n 0, 1) := by decide +kernel
theorem dX8_readRule_27 : decode cX8_readRule 27 = .ok (.ldc 168, 2) := by decide +kernel
theorem dX8_readRule_29 : decode cX8_readRule 29 = .ok (.invokevirtual 128, 3) := by decide +kernel
theorem dX8_readRule_32 : decode cX8_readRule 32 = .ok (.ifCond .eq 7, 3) := by decide +kernel
theorem dX8_readRule_35 : decode cX8_readRule 35 = .ok (.iconst 2, 1) := by decide +kernel
theorem dX8_readRule_36 : decode cX8_readRule 36 = .ok (.goto 17, 3) := by decide +kernel
theorem dX8_readRule_39 : decode cX8_readRule 39 = .ok (.aload_n 0, 1) := by decide +kernel
theorem dX8_readRule_40 : decode cX8_readRule 40 = .ok (.ldc 169, 2) := by decide +kernel
theorem dX8_readRule_42 : decode cX8_readRule 42 = .ok (.invokevirtual 128, 3) := by decide +kernel
theorem dX8_readRule_45 : decode cX8_readRule 45 = .ok (.ifCond .eq 7, 3) := by decide +kernel
theorem dX8_readRule_48 : decode cX8_readRule 48 = .ok (.iconst 3, 1) := by decide +kernel
theorem dX8_readRule_49 : decode cX8_readRule 49 = .ok (.goto 4, 3) := by decide +kernel
theorem dX8_readRule_52 : decode cX8_readRule 52 = .ok (.iconst (-1), 1) := by decide +kernel
theorem dX8_readRule_53 : decode cX8_readRule 53 = .ok (.istore_n 2, 1) := by decide +kernel
theorem dX8_readRule_54 : decode cX8_readRule 54 = .ok (.iload_n 2, 1) := by decide +kernel
theorem dX8_readRule_55 : decode cX8_readRule 55 = .ok (.ifCond .ge 5, 3) := by decide +kernel
theorem dX8_readRule_58 : decode cX8_readRule 58 = .ok (.iconst 0, 1) := by decide +kernel
theorem dX8_readRule_59 : decode cX8_readRule 59 = .ok (.ireturn, 1) := by decide +kernel
theorem dX8_readRule_60 : decode cX8_readRule 60 = .ok (.aload_n 0, 1) := by decide +kernel
theorem dX8_readRule_61 : decode cX8_readRule 61 = .ok (.iconst 0, 1) := by decide +kernel
theorem dX8_readRule_62 : decode cX8_readRule 62 = .ok (.aload_n 0, 1) := by decide +kernel
theorem dX8_readRule_63 : decode cX8_readRule 63 = .ok (.invokevirtual 68, 3) := by decide +kernel
theorem dX8_readRule_66 : decode cX8_readRule 66 = .ok (.iconst 1, 1) := by decide +kernel
theorem dX8_readRule_67 : decode cX8_readRule 67 = .ok (.isub, 1) := by decide +kernel
theorem dX8_readRule_68 : decode cX8_readRule 68 = .ok (.invokevirtual 107, 3) := by decide +kernel
theorem dX8_readRule_71 : decode cX8_readRule 71 = .ok (.istore_n 3, 1) := by decide +kernel
theorem dX8_readRule_72 : decode cX8_readRule 72 = .ok (.iload_n 3, 1) := by decide +kernel
theorem dX8_readRule_73 : decode cX8_readRule 73 = .ok (.ifCond .ge 7, 3) := by decide +kernel
theorem dX8_readRule_76 : decode cX8_readRule 76 = .ok (.iconst (-1), 1) := by decide +kernel
theorem dX8_readRule_77 : decode cX8_readRule 77 = .ok (.goto 25, 3) := by decide +kernel
theorem dX8_readRule_80 : decode cX8_readRule 80 = .ok (.aload_n 0, 1) := by decide +kernel
theorem dX8_readRule_81 : decode cX8_readRule 81 = .ok (.iconst 0, 1) := by decide +kernel
theorem dX8_readRule_82 : decode cX8_readRule 82 = .ok (.iload_n 2, 1) := by decide +kernel
theorem dX8_readRule_83 : decode cX8_readRule 83 = .ok (.ifCond .ne 10, 3) := by decide +kernel
theorem dX8_readRule_86 : decode cX8_readRule 86 = .ok (.aload_n 0, 1) := by decide +kernel
theorem dX8_readRule_87 : decode cX8_readRule 87 = .ok (.invokevirtual 76, 3) := by decide +kernel
theorem dX8_readRule_90 : decode cX8_readRule 90 = .ok (.goto 7, 3) := by decide +kernel
theorem dX8_readRule_93 : decode cX8_readRule 93 = .ok (.aload_n 0, 1) := by decide +kernel
theorem dX8_readRule_94 : decode cX8_readRule 94 = .ok (.invokevirtual 68, 3) := by decide +kernel
theorem dX8_readRule_97 : decode cX8_readRule 97 = .ok (.iconst 1, 1) := by decide +kernel
theorem dX8_readRule_98 : decode cX8_readRule 98 = .ok (.isub, 1) := by decide +kernel
theorem dX8_readRule_99 : decode cX8_readRule 99 = .ok (.invokevirtual 107, 3) := by decide +kernel
theorem dX8_readRule_102 : decode cX8_readRule 102 = .ok (.istore 4, 2) := by decide +kernel
theorem dX8_readRule_104 : decode cX8_readRule 104 = .ok (.iload 4, 2) := by decide +kernel
theorem dX8_readRule_106 : decode cX8_readRule 106 = .ok (.ifCond .lt 13, 3) := by decide +kernel
theorem dX8_readRule_109 : decode cX8_readRule 109 = .ok (.iload_n 2, 1) := by decide +kernel
theorem dX8_readRule_110 : decode cX8_readRule 110 = .ok (.ifCond .eq 11, 3) := by decide +kernel
theorem dX8_readRule_113 : decode cX8_readRule 113 = .ok (.iload_n 3, 1) := by decide +kernel
theorem dX8_readRule_114 : decode cX8_readRule 114 = .ok (.iload 4, 2) := by decide +kernel
theorem dX8_readRule_116 : decode cX8_readRule 116 = .ok (.if_icmp .ne 5, 3) := by decide +kernel
theorem dX8_readRule_119 : decode cX8_readRule 119 = .ok (.iconst 0, 1) := by decide +kernel
theorem dX8_readRule_120 : decode cX8_readRule 120 = .ok (.ireturn, 1) := by decide +kernel
theorem dX8_readRule_121 : decode cX8_readRule 121 = .ok (.aload_n 0, 1) := by decide +kernel
theorem dX8_readRule_122 : decode cX8_readRule 122 = .ok (.getfield 13, 3) := by decide +kernel
theorem dX8_readRule_125 : decode cX8_readRule 125 = .ok (.sipush 1038, 3) := by decide +kernel
theorem dX8_readRule_128 : decode cX8_readRule 128 = .ok (.iconst 3, 1) := by decide +kernel
theorem dX8_readRule_129 : decode cX8_readRule 129 = .ok (.iload_n 1, 1) := by decide +kernel
theorem dX8_readRule_130 : decode cX8_readRule 130 = .ok (.imul, 1) := by decide +kernel
theorem dX8_readRule_131 : decode cX8_readRule 131 = .ok (.iadd, 1) := by decide +kernel
theorem dX8_readRule_132 : decode cX8_readRule 132 = .ok (.iload_n 2, 1) := by decide +kernel
theorem dX8_readRule_133 : decode cX8_readRule 133 = .ok (.iastore, 1) := by decide +kernel
theorem dX8_readRule_134 : decode cX8_readRule 134 = .ok (.aload_n 0, 1) := by decide +kernel
theorem dX8_readRule_135 : decode cX8_readRule 135 = .ok (.getfield 13, 3) := by decide +kernel
theorem dX8_readRule_138 : decode cX8_readRule 138 = .ok (.sipush 1038, 3) := by decide +kernel
theorem dX8_readRule_141 : decode cX8_readRule 141 = .ok (.iconst 3, 1) := by decide +kernel
theorem dX8_readRule_142 : decode cX8_readRule 142 = .ok (.iload_n 1, 1) := by decide +kernel
theorem dX8_readRule_143 : decode cX8_readRule 143 = .ok (.imul, 1) := by decide +kernel
theorem dX8_readRule_144 : decode cX8_readRule 144 = .ok (.iadd, 1) := by decide +kernel
theorem dX8_readRule_145 : decode cX8_readRule 145 = .ok (.iconst 1, 1) := by decide +kernel
theorem dX8_readRule_146 : decode cX8_readRule 146 = .ok (.iadd, 1) := by decide +kernel
theorem dX8_readRule_147 : decode cX8_readRule 147 = .ok (.iload_n 3, 1) := by decide +kernel
theorem dX8_readRule_148 : decode cX8_readRule 148 = .ok (.iastore, 1) := by decide +kernel
theorem dX8_readRule_149 : decode cX8_readRule 149 = .ok (.aload_n 0, 1) := by decide +kernel
theorem dX8_readRule_150 : decode cX8_readRule 150 = .ok (.getfield 13, 3) := by decide +kernel
theorem dX8_readRule_153 : decode cX8_readRule 153 = .ok (.sipush 1038, 3) := by decide +kernel
theorem dX8_readRule_156 : decode cX8_readRule 156 = .ok (.iconst 3, 1) := by decide +kernel
theorem dX8_readRule_157 : decode cX8_readRule 157 = .ok (.iload_n 1, 1) := by decide +kernel
theorem dX8_readRule_158 : decode cX8_readRule 158 = .ok (.imul, 1) := by decide +kernel
theorem dX8_readRule_159 : decode cX8_readRule 159 = .ok (.iadd, 1) := by decide +kernel
theorem dX8_readRule_160 : decode cX8_readRule 160 = .ok (.iconst 2, 1) := by decide +kernel
theorem dX8_readRule_161 : decode cX8_readRule 161 = .ok (.iadd, 1) := by decide +kernel
theorem dX8_readRule_162 : decode cX8_readRule 162 = .ok (.iload 4, 2) := by decide +kernel
theorem dX8_readRule_164 : decode cX8_readRule 164 = .ok (.iastore, 1) := by decide +kernel
theorem dX8_readRule_165 : decode cX8_readRule 165 = .ok (.iconst 1, 1) := by decide +kernel
theorem dX8_readRule_166 : decode cX8_readRule 166 = .ok (.ireturn, 1) := by decide +kernel
theorem dX8_readAll_0 : decode cX8_readAll 0 = .ok (.aload_n 0, 1) := by decide +kernel
theorem dX8_readAll_1 : decode cX8_readAll 1 = .ok (.invokevirtual 95, 3) := by decide +kernel
theorem dX8_readAll_4 : decode cX8_readAll 4 = .ok (.aload_n 0, 1) := by decide +kernel
theorem dX8_readAll_5 : decode cX8_readAll 5 = .ok (.getfield 82, 3) := by decide +kernel
theorem dX8_readAll_8 : decode cX8_readAll 8 = .ok (.aload_n 0, 1) := by decide +kernel
theorem dX8_readAll_9 : decode cX8_readAll 9 = .ok (.getfield 85, 3) := by decide +kernel
theorem dX8_readAll_12 : decode cX8_readAll 12 = .ok (.if_icmp .ne 5, 3) := by decide +kernel
theorem dX8_readAll_15 : decode cX8_readAll 15 = .ok (.iconst 0, 1) := by decide +kernel
theorem dX8_readAll_16 : decode cX8_readAll 16 = .ok (.ireturn, 1) := by decide +kernel
theorem dX8_readAll_17 : decode cX8_readAll 17 = .ok (.iconst 0, 1) := by decide +kernel
theorem dX8_readAll_18 : decode cX8_readAll 18 = .ok (.istore_n 2, 1) := by decide +kernel
theorem dX8_readAll_19 : decode cX8_readAll 19 = .ok (.aload_n 0, 1) := by decide +kernel
theorem dX8_readAll_20 : decode cX8_readAll 20 = .ok (.invokevirtual 171, 3) := by decide +kernel
theorem dX8_readAll_23 : decode cX8_readAll 23 = .ok (.iload_n 2, 1) := by decide +kernel
theorem dX8_readAll_24 : decode cX8_readAll 24 = .ok (.bipush 20, 2) := by decide +kernel
theorem dX8_readAll_26 : decode cX8_readAll 26 = .ok (.if_icmp .eq 40, 3) := by decide +kernel
theorem dX8_readAll_29 : decode cX8_readAll 29 = .ok (.iload_n 1, 1) := by decide +kernel
theorem dX8_readAll_30 : decode cX8_readAll 30 = .ok (.ifCond .ne 13, 3) := by decide +kernel
theorem dX8_readAll_33 : decode cX8_readAll 33 = .ok (.aload_n 0, 1) := by decide +kernel
theorem dX8_readAll_34 : decode cX8_readAll 34 = .ok (.invokevirtual 174, 3) := by decide +kernel
theorem dX8_readAll_37 : decode cX8_readAll 37 = .ok (.ifCond .eq 29, 3) := by decide +kernel
theorem dX8_readAll_40 : decode cX8_readAll 40 = .ok (.goto 28, 3) := by decide +kernel
theorem dX8_readAll_43 : decode cX8_readAll 43 = .ok (.iload_n 1, 1) := by decide +kernel
theorem dX8_readAll_44 : decode cX8_readAll 44 = .ok (.iconst 1, 1) := by decide +kernel
theorem dX8_readAll_45 : decode cX8_readAll 45 = .ok (.if_icmp .ne 13, 3) := by decide +kernel
theorem dX8_readAll_48 : decode cX8_readAll 48 = .ok (.aload_n 0, 1) := by decide +kernel
theorem dX8_readAll_49 : decode cX8_readAll 49 = .ok (.invokevirtual 178, 3) := by decide +kernel
theorem dX8_readAll_52 : decode cX8_readAll 52 = .ok (.ifCond .eq 14, 3) := by decide +kernel
theorem dX8_readAll_55 : decode cX8_readAll 55 = .ok (.goto 13, 3) := by decide +kernel
theorem dX8_readAll_58 : decode cX8_readAll 58 = .ok (.aload_n 0, 1) := by decide +kernel
theorem dX8_readAll_59 : decode cX8_readAll 59 = .ok (.iload_n 2, 1) := by decide +kernel
theorem dX8_readAll_60 : decode cX8_readAll 60 = .ok (.invokevirtual 181, 3) := by decide +kernel
theorem dX8_readAll_63 : decode cX8_readAll 63 = .ok (.ifCond .ne 5, 3) := by decide +kernel
theorem dX8_readAll_66 : decode cX8_readAll 66 = .ok (.iconst (-1), 1) := by decide +kernel
theorem dX8_readAll_67 : decode cX8_readAll 67 = .ok (.ireturn, 1) := by decide +kernel
theorem dX8_readAll_68 : decode cX8_readAll 68 = .ok (.aload_n 0, 1) := by decide +kernel
theorem dX8_readAll_69 : decode cX8_readAll 69 = .ok (.invokevirtual 95, 3) := by decide +kernel
theorem dX8_readAll_72 : decode cX8_readAll 72 = .ok (.aload_n 0, 1) := by decide +kernel
theorem dX8_readAll_73 : decode cX8_readAll 73 = .ok (.getfield 82, 3) := by decide +kernel
theorem dX8_readAll_76 : decode cX8_readAll 76 = .ok (.aload_n 0, 1) := by decide +kernel
theorem dX8_readAll_77 : decode cX8_readAll 77 = .ok (.getfield 85, 3) := by decide +kernel
theorem dX8_readAll_80 : decode cX8_readAll 80 = .ok (.if_icmp .ne 7, 3) := by decide +kernel
theorem dX8_readAll_83 : decode cX8_readAll 83 = .ok (.iload_n 2, 1) := by decide +kernel
theorem dX8_readAll_84 : decode cX8_readAll 84 = .ok (.iconst 1, 1) := by decide +kernel
theorem dX8_readAll_85 : decode cX8_readAll 85 = .ok (.iadd, 1) := by decide +kernel
theorem dX8_readAll_86 : decode cX8_readAll 86 = .ok (.ireturn, 1) := by decide +kernel
theorem dX8_readAll_87 : decode cX8_readAll 87 = .ok (.aload_n 0, 1) := by decide +kernel
theorem dX8_readAll_88 : decode cX8_readAll 88 = .ok (.bipush 59, 2) := by decide +kernel
theorem dX8_readAll_90 : decode cX8_readAll 90 = .ok (.bipush 59, 2) := by decide +kernel
theorem dX8_readAll_92 : decode cX8_readAll 92 = .ok (.invokevirtual 88, 3) := by decide +kernel
theorem dX8_readAll_95 : decode cX8_readAll 95 = .ok (.ifCond .ne 5, 3) := by decide +kernel
theorem dX8_readAll_98 : decode cX8_readAll 98 = .ok (.iconst (-1), 1) := by decide +kernel
theorem dX8_readAll_99 : decode cX8_readAll 99 = .ok (.ireturn, 1) := by decide +kernel
theorem dX8_readAll_100 : decode cX8_readAll 100 = .ok (.aload_n 0, 1) := by decide +kernel
theorem dX8_readAll_101 : decode cX8_readAll 101 = .ok (.dup, 1) := by decide +kernel
theorem dX8_readAll_102 : decode cX8_readAll 102 = .ok (.getfield 82, 3) := by decide +kernel
theorem dX8_readAll_105 : decode cX8_readAll 105 = .ok (.iconst 1, 1) := by decide +kernel
theorem dX8_readAll_106 : decode cX8_readAll 106 = .ok (.iadd, 1) := by decide +kernel
theorem dX8_readAll_107 : decode cX8_readAll 107 = .ok (.putfield 82, 3) := by decide +kernel
theorem dX8_readAll_110 : decode cX8_readAll 110 = .ok (.iinc 2 1, 3) := by decide +kernel
theorem dX8_readAll_113 : decode cX8_readAll 113 = .ok (.goto (-94), 3) := by decide +kernel
theorem dX8_reads_0 : decode cX8_reads 0 = .ok (.aload_n 0, 1) := by decide +kernel
theorem dX8_reads_1 : decode cX8_reads 1 = .ok (.iload_n 1, 1) := by decide +kernel
theorem dX8_reads_2 : decode cX8_reads 2 = .ok (.invokevirtual 184, 3) := by decide +kernel
theorem dX8_reads_5 : decode cX8_reads 5 = .ok (.istore_n 2, 1) := by decide +kernel
theorem dX8_reads_6 : decode cX8_reads 6 = .ok (.aload_n 0, 1) := by decide +kernel
theorem dX8_reads_7 : decode cX8_reads 7 = .ok (.iload_n 2, 1) := by decide +kernel
theorem dX8_reads_8 : decode cX8_reads 8 = .ok (.ifCond .ge 10, 3) := by decide +kernel
theorem dX8_reads_11 : decode cX8_reads 11 = .ok (.aload_n 0, 1) := by decide +kernel
theorem dX8_reads_12 : decode cX8_reads 12 = .ok (.getfield 92, 3) := by decide +kernel
theorem dX8_reads_15 : decode cX8_reads 15 = .ok (.goto 4, 3) := by decide +kernel
theorem dX8_reads_18 : decode cX8_reads 18 = .ok (.iconst (-1), 1) := by decide +kernel
theorem dX8_reads_19 : decode cX8_reads 19 = .ok (.putfield 24, 3) := by decide +kernel
theorem dX8_reads_22 : decode cX8_reads 22 = .ok (.iload_n 2, 1) := by decide +kernel
theorem dX8_reads_23 : decode cX8_reads 23 = .ok (.ireturn, 1) := by decide +kernel
theorem dX8_sheet_0 : decode cX8_sheet 0 = .ok (.aload_n 0, 1) := by decide +kernel
theorem dX8_sheet_1 : decode cX8_sheet 1 = .ok (.invokevirtual 187, 3) := by decide +kernel
theorem dX8_sheet_4 : decode cX8_sheet 4 = .ok (.aload_n 0, 1) := by decide +kernel
theorem dX8_sheet_5 : decode cX8_sheet 5 = .ok (.ldc 190, 2) := by decide +kernel
theorem dX8_sheet_7 : decode cX8_sheet 7 = .ok (.putfield 132, 3) := by decide +kernel
theorem dX8_sheet_10 : decode cX8_sheet 10 = .ok (.iload_n 1, 1) := by decide +kernel
theorem dX8_sheet_11 : decode cX8_sheet 11 = .ok (.iconst 1, 1) := by decide +kernel
theorem dX8_sheet_12 : decode cX8_sheet 12 = .ok (.bipush 7, 2) := by decide +kernel
theorem dX8_sheet_14 : decode cX8_sheet 14 = .ok (.invokestatic 72, 3) := by decide +kernel
theorem dX8_sheet_17 : decode cX8_sheet 17 = .ok (.ifCond .ne 7, 3) := by decide +kernel
theorem dX8_sheet_20 : decode cX8_sheet 20 = .ok (.iconst 1, 1) := by decide +kernel
theorem dX8_sheet_21 : decode cX8_sheet 21 = .ok (.goto 4, 3) := by decide +kernel
theorem dX8_sheet_24 : decode cX8_sheet 24 = .ok (.iconst 0, 1) := by decide +kernel
theorem dX8_sheet_25 : decode cX8_sheet 25 = .ok (.istore_n 2, 1) := by decide +kernel
theorem dX8_sheet_26 : decode cX8_sheet 26 = .ok (.iload_n 2, 1) := by decide +kernel
theorem dX8_sheet_27 : decode cX8_sheet 27 = .ok (.ifCond .eq 8, 3) := by decide +kernel
theorem dX8_sheet_30 : decode cX8_sheet 30 = .ok (.aload_n 0, 1) := by decide +kernel
theorem dX8_sheet_31 : decode cX8_sheet 31 = .ok (.iconst (-1), 1) := by decide +kernel
theorem dX8_sheet_32 : decode cX8_sheet 32 = .ok (.putfield 24, 3) := by decide +kernel
theorem dX8_sheet_35 : decode cX8_sheet 35 = .ok (.aload_n 0, 1) := by decide +kernel
theorem dX8_sheet_36 : decode cX8_sheet 36 = .ok (.iload_n 2, 1) := by decide +kernel
theorem dX8_sheet_37 : decode cX8_sheet 37 = .ok (.ifCond .ne 11, 3) := by decide +kernel
theorem dX8_sheet_40 : decode cX8_sheet 40 = .ok (.aload_n 0, 1) := by decide +kernel
theorem dX8_sheet_41 : decode cX8_sheet 41 = .ok (.iconst 0, 1) := by decide +kernel
theorem dX8_sheet_42 : decode cX8_sheet 42 = .ok (.invokevirtual 191, 3) := by decide +kernel
theorem dX8_sheet_45 : decode cX8_sheet 45 = .ok (.ifCond .ge 7, 3) := by decide +kernel
theorem dX8_sheet_48 : decode cX8_sheet 48 = .ok (.iconst 1, 1) := by decide +kernel
theorem dX8_sheet_49 : decode cX8_sheet 49 = .ok (.goto 4, 3) := by decide +kernel
theorem dX8_sheet_52 : decode cX8_sheet 52 = .ok (.iconst 0, 1) := by decide +kernel
theorem dX8_sheet_53 : decode cX8_sheet 53 = .ok (.iconst 1, 1) := by decide +kernel
theorem dX8_sheet_54 : decode cX8_sheet 54 = .ok (.invokevirtual 194, 3) := by decide +kernel
theorem dX8_sheet_57 : decode cX8_sheet 57 = .ok (.ifCond .ne 25, 3) := by decide +kernel
theorem dX8_sheet_60 : decode cX8_sheet 60 = .ok (.aload_n 0, 1) := by decide +kernel
theorem dX8_sheet_61 : decode cX8_sheet 61 = .ok (.aload_n 0, 1) := by decide +kernel
theorem dX8_sheet_62 : decode cX8_sheet 62 = .ok (.invokevirtual 68, 3) := by decide +kernel
theorem dX8_sheet_65 : decode cX8_sheet 65 = .ok (.bipush 6, 2) := by decide +kernel
theorem dX8_sheet_67 : decode cX8_sheet 67 = .ok (.if_icmp .ne 7, 3) := by decide +kernel
theorem dX8_sheet_70 : decode cX8_sheet 70 = .ok (.iconst 1, 1) := by decide +kernel
theorem dX8_sheet_71 : decode cX8_sheet 71 = .ok (.goto 4, 3) := by decide +kernel
theorem dX8_sheet_74 : decode cX8_sheet 74 = .ok (.iconst 0, 1) := by decide +kernel
theorem dX8_sheet_75 : decode cX8_sheet 75 = .ok (.iconst 2, 1) := by decide +kernel
theorem dX8_sheet_76 : decode cX8_sheet 76 = .ok (.invokevirtual 194, 3) := by decide +kernel
theorem dX8_sheet_79 : decode cX8_sheet 79 = .ok (.ifCond .eq 5, 3) := by decide +kernel
theorem dX8_sheet_82 : decode cX8_sheet 82 = .ok (.iconst 0, 1) := by decide +kernel
theorem dX8_sheet_83 : decode cX8_sheet 83 = .ok (.ireturn, 1) := by decide +kernel
theorem dX8_sheet_84 : decode cX8_sheet 84 = .ok (.aload_n 0, 1) := by decide +kernel
theorem dX8_sheet_85 : decode cX8_sheet 85 = .ok (.invokevirtual 68, 3) := by decide +kernel
theorem dX8_sheet_88 : decode cX8_sheet 88 = .ok (.istore_n 3, 1) := by decide +kernel
theorem dX8_sheet_89 : decode cX8_sheet 89 = .ok (.aload_n 0, 1) := by decide +kernel
theorem dX8_sheet_90 : decode cX8_sheet 90 = .ok (.iload_n 3, 1) := by decide +kernel
theorem dX8_sheet_91 : decode cX8_sheet 91 = .ok (.iconst 0, 1) := by decide +kernel
theorem dX8_sheet_92 : decode cX8_sheet 92 = .ok (.iload_n 1, 1) := by decide +kernel
theorem dX8_sheet_93 : decode cX8_sheet 93 = .ok (.invokevirtual 198, 3) := by decide +kernel
theorem dX8_sheet_96 : decode cX8_sheet 96 = .ok (.aload_n 0, 1) := by decide +kernel
theorem dX8_sheet_97 : decode cX8_sheet 97 = .ok (.iload_n 3, 1) := by decide +kernel
theorem dX8_sheet_98 : decode cX8_sheet 98 = .ok (.iconst 1, 1) := by decide +kernel
theorem dX8_sheet_99 : decode cX8_sheet 99 = .ok (.aload_n 0, 1) := by decide +kernel
theorem dX8_sheet_100 : decode cX8_sheet 100 = .ok (.getfield 132, 3) := by decide +kernel
theorem dX8_sheet_103 : decode cX8_sheet 103 = .ok (.invokevirtual 198, 3) := by decide +kernel
theorem dX8_sheet_106 : decode cX8_sheet 106 = .ok (.aload_n 0, 1) := by decide +kernel
theorem dX8_sheet_107 : decode cX8_sheet 107 = .ok (.iload_n 3, 1) := by decide +kernel
theorem dX8_sheet_108 : decode cX8_sheet 108 = .ok (.iconst 2, 1) := by decide +kernel
theorem dX8_sheet_109 : decode cX8_sheet 109 = .ok (.aload_n 0, 1) := by decide +kernel
theorem dX8_sheet_110 : decode cX8_sheet 110 = .ok (.getfield 132, 3) := by decide +kernel
theorem dX8_sheet_113 : decode cX8_sheet 113 = .ok (.invokevirtual 198, 3) := by decide +kernel
theorem dX8_sheet_116 : decode cX8_sheet 116 = .ok (.aload_n 0, 1) := by decide +kernel
theorem dX8_sheet_117 : decode cX8_sheet 117 = .ok (.iload_n 3, 1) := by decide +kernel
theorem dX8_sheet_118 : decode cX8_sheet 118 = .ok (.iconst 3, 1) := by decide +kernel
theorem dX8_sheet_119 : decode cX8_sheet 119 = .ok (.iconst 0, 1) := by decide +kernel
theorem dX8_sheet_120 : decode cX8_sheet 120 = .ok (.invokevirtual 198, 3) := by decide +kernel
theorem dX8_sheet_123 : decode cX8_sheet 123 = .ok (.aload_n 0, 1) := by decide +kernel
theorem dX8_sheet_124 : decode cX8_sheet 124 = .ok (.getfield 13, 3) := by decide +kernel
theorem dX8_sheet_127 : decode cX8_sheet 127 = .ok (.iconst 0, 1) := by decide +kernel
theorem dX8_sheet_128 : decode cX8_sheet 128 = .ok (.dup2, 1) := by decide +kernel
theorem dX8_sheet_129 : decode cX8_sheet 129 = .ok (.iaload, 1) := by decide +kernel
theorem dX8_sheet_130 : decode cX8_sheet 130 = .ok (.iconst 1, 1) := by decide +kernel
theorem dX8_sheet_131 : decode cX8_sheet 131 = .ok (.iadd, 1) := by decide +kernel
theorem dX8_sheet_132 : decode cX8_sheet 132 = .ok (.iastore, 1) := by decide +kernel
theorem dX8_sheet_133 : decode cX8_sheet 133 = .ok (.iload_n 3, 1) := by decide +kernel
theorem dX8_sheet_134 : decode cX8_sheet 134 = .ok (.ireturn, 1) := by decide +kernel
theorem dX8_strokes_0 : decode cX8_strokes 0 = .ok (.aload_n 0, 1) := by decide +kernel
theorem dX8_strokes_1 : decode cX8_strokes 1 = .ok (.invokevirtual 187, 3) := by decide +kernel
theorem dX8_strokes_4 : decode cX8_strokes 4 = .ok (.aload_n 0, 1) := by decide +kernel
theorem dX8_strokes_5 : decode cX8_strokes 5 = .ok (.aload_n 0, 1) := by decide +kernel
theorem dX8_strokes_6 : decode cX8_strokes 6 = .ok (.iload_n 1, 1) := by decide +kernel
theorem dX8_strokes_7 : decode cX8_strokes 7 = .ok (.invokevirtual 202, 3) := by decide +kernel
theorem dX8_strokes_10 : decode cX8_strokes 10 = .ok (.iconst 1, 1) := by decide +kernel
theorem dX8_strokes_11 : decode cX8_strokes 11 = .ok (.invokevirtual 194, 3) := by decide +kernel
theorem dX8_strokes_14 : decode cX8_strokes 14 = .ok (.ifCond .eq 5, 3) := by decide +kernel
theorem dX8_strokes_17 : decode cX8_strokes 17 = .ok (.iconst 0, 1) := by decide +kernel
theorem dX8_strokes_18 : decode cX8_strokes 18 = .ok (.ireturn, 1) := by decide +kernel
theorem dX8_strokes_19 : decode cX8_strokes 19 = .ok (.aload_n 0, 1) := by decide +kernel
theorem dX8_strokes_20 : decode cX8_strokes 20 = .ok (.iload_n 1, 1) := by decide +kernel
theorem dX8_strokes_21 : decode cX8_strokes 21 = .ok (.iconst 1, 1) := by decide +kernel
theorem dX8_strokes_22 : decode cX8_strokes 22 = .ok (.invokevirtual 205, 3) := by decide +kernel
theorem dX8_strokes_25 : decode cX8_strokes 25 = .ok (.istore_n 2, 1) := by decide +kernel
theorem dX8_strokes_26 : decode cX8_strokes 26 = .ok (.aload_n 0, 1) := by decide +kernel
theorem dX8_strokes_27 : decode cX8_strokes 27 = .ok (.iload_n 2, 1) := by decide +kernel
theorem dX8_strokes_28 : decode cX8_strokes 28 = .ok (.putfield 132, 3) := by decide +kernel
theorem dX8_strokes_31 : decode cX8_strokes 31 = .ok (.aload_n 0, 1) := by decide +kernel
theorem dX8_strokes_32 : decode cX8_strokes 32 = .ok (.aload_n 0, 1) := by decide +kernel
theorem dX8_strokes_33 : decode cX8_strokes 33 = .ok (.iconst 0, 1) := by decide +kernel
theorem dX8_strokes_34 : decode cX8_strokes 34 = .ok (.invokevirtual 191, 3) := by decide +kernel
theorem dX8_strokes_37 : decode cX8_strokes 37 = .ok (.ifCond .ge 7, 3) := by decide +kernel
theorem dX8_strokes_40 : decode cX8_strokes 40 = .ok (.iconst 1, 1) := by decide +kernel
theorem dX8_strokes_41 : decode cX8_strokes 41 = .ok (.goto 4, 3) := by decide +kernel
theorem dX8_strokes_44 : decode cX8_strokes 44 = .ok (.iconst 0, 1) := by decide +kernel
theorem dX8_strokes_45 : decode cX8_strokes 45 = .ok (.iconst 2, 1) := by decide +kernel
theorem dX8_strokes_46 : decode cX8_strokes 46 = .ok (.invokevirtual 194, 3) := by decide +kernel
theorem dX8_strokes_49 : decode cX8_strokes 49 = .ok (.ifCond .ne 26, 3) := by decide +kernel
theorem dX8_strokes_52 : decode cX8_strokes 52 = .ok (.aload_n 0, 1) := by decide +kernel
theorem dX8_strokes_53 : decode cX8_strokes 53 = .ok (.aload_n 0, 1) := by decide +kernel
theorem dX8_strokes_54 : decode cX8_strokes 54 = .ok (.getfield 132, 3) := by decide +kernel
theorem dX8_strokes_57 : decode cX8_strokes 57 = .ok (.invokestatic 208, 3) := by decide +kernel
theorem dX8_strokes_60 : decode cX8_strokes 60 = .ok (.ifCond .eq 7, 3) := by decide +kernel
theorem dX8_strokes_63 : decode cX8_strokes 63 = .ok (.iconst 1, 1) := by decide +kernel
theorem dX8_strokes_64 : decode cX8_strokes 64 = .ok (.goto 4, 3) := by decide +kernel
theorem dX8_strokes_67 : decode cX8_strokes 67 = .ok (.iconst 0, 1) := by decide +kernel
theorem dX8_strokes_68 : decode cX8_strokes 68 = .ok (.iconst 3, 1) := by decide +kernel
theorem dX8_strokes_69 : decode cX8_strokes 69 = .ok (.invokevirtual 194, 3) := by decide +kernel
theorem dX8_strokes_72 : decode cX8_strokes 72 = .ok (.ifCond .eq 5, 3) := by decide +kernel
theorem dX8_strokes_75 : decode cX8_strokes 75 = .ok (.iconst 0, 1) := by decide +kernel
theorem dX8_strokes_76 : decode cX8_strokes 76 = .ok (.ireturn, 1) := by decide +kernel
theorem dX8_strokes_77 : decode cX8_strokes 77 = .ok (.aload_n 0, 1) := by decide +kernel
theorem dX8_strokes_78 : decode cX8_strokes 78 = .ok (.iload_n 1, 1) := by decide +kernel
theorem dX8_strokes_79 : decode cX8_strokes 79 = .ok (.iconst 1, 1) := by decide +kernel
theorem dX8_strokes_80 : decode cX8_strokes 80 = .ok (.aload_n 0, 1) := by decide +kernel
theorem dX8_strokes_81 : decode cX8_strokes 81 = .ok (.getfield 132, 3) := by decide +kernel
theorem dX8_strokes_84 : decode cX8_strokes 84 = .ok (.invokevirtual 198, 3) := by decide +kernel
theorem dX8_strokes_87 : decode cX8_strokes 87 = .ok (.aload_n 0, 1) := by decide +kernel
theorem dX8_strokes_88 : decode cX8_strokes 88 = .ok (.iload_n 1, 1) := by decide +kernel
theorem dX8_strokes_89 : decode cX8_strokes 89 = .ok (.iconst 2, 1) := by decide +kernel
theorem dX8_strokes_90 : decode cX8_strokes 90 = .ok (.aload_n 0, 1) := by decide +kernel
theorem dX8_strokes_91 : decode cX8_strokes 91 = .ok (.getfield 132, 3) := by decide +kernel
theorem dX8_strokes_94 : decode cX8_strokes 94 = .ok (.invokevirtual 198, 3) := by decide +kernel
theorem dX8_strokes_97 : decode cX8_strokes 97 = .ok (.iload_n 2, 1) := by decide +kernel
theorem dX8_strokes_98 : decode cX8_strokes 98 = .ok (.aload_n 0, 1) := by decide +kernel
theorem dX8_strokes_99 : decode cX8_strokes 99 = .ok (.getfield 132, 3) := by decide +kernel
theorem dX8_strokes_102 : decode cX8_strokes 102 = .ok (.ixor, 1) := by decide +kernel
theorem dX8_strokes_103 : decode cX8_strokes 103 = .ok (.invokestatic 211, 3) := by decide +kernel
theorem dX8_strokes_106 : decode cX8_strokes 106 = .ok (.ireturn, 1) := by decide +kernel
theorem dX8_scene_0 : decode cX8_scene 0 = .ok (.aload_n 0, 1) := by decide +kernel
theorem dX8_scene_1 : decode cX8_scene 1 = .ok (.invokevirtual 187, 3) := by decide +kernel
theorem dX8_scene_4 : decode cX8_scene 4 = .ok (.iconst 0, 1) := by decide +kernel
theorem dX8_scene_5 : decode cX8_scene 5 = .ok (.istore_n 1, 1) := by decide +kernel
theorem dX8_scene_6 : decode cX8_scene 6 = .ok (.iload_n 1, 1) := by decide +kernel
theorem dX8_scene_7 : decode cX8_scene 7 = .ok (.sipush 144, 3) := by decide +kernel
theorem dX8_scene_10 : decode cX8_scene 10 = .ok (.if_icmp .ge 20, 3) := by decide +kernel
theorem dX8_scene_13 : decode cX8_scene 13 = .ok (.aload_n 0, 1) := by decide +kernel
theorem dX8_scene_14 : decode cX8_scene 14 = .ok (.getfield 13, 3) := by decide +kernel
theorem dX8_scene_17 : decode cX8_scene 17 = .ok (.sipush 1038, 3) := by decide +kernel
theorem dX8_scene_20 : decode cX8_scene 20 = .ok (.iload_n 1, 1) := by decide +kernel
theorem dX8_scene_21 : decode cX8_scene 21 = .ok (.iadd, 1) := by decide +kernel
theorem dX8_scene_22 : decode cX8_scene 22 = .ok (.iconst 0, 1) := by decide +kernel
theorem dX8_scene_23 : decode cX8_scene 23 = .ok (.iastore, 1) := by decide +kernel
theorem dX8_scene_24 : decode cX8_scene 24 = .ok (.iinc 1 1, 3) := by decide +kernel
theorem dX8_scene_27 : decode cX8_scene 27 = .ok (.goto (-21), 3) := by decide +kernel
theorem dX8_scene_30 : decode cX8_scene 30 = .ok (.aload_n 0, 1) := by decide +kernel
theorem dX8_scene_31 : decode cX8_scene 31 = .ok (.aload_n 0, 1) := by decide +kernel
theorem dX8_scene_32 : decode cX8_scene 32 = .ok (.iconst 1, 1) := by decide +kernel
theorem dX8_scene_33 : decode cX8_scene 33 = .ok (.invokevirtual 191, 3) := by decide +kernel
theorem dX8_scene_36 : decode cX8_scene 36 = .ok (.ifCond .ge 7, 3) := by decide +kernel
theorem dX8_scene_39 : decode cX8_scene 39 = .ok (.iconst 1, 1) := by decide +kernel
theorem dX8_scene_40 : decode cX8_scene 40 = .ok (.goto 4, 3) := by decide +kernel
theorem dX8_scene_43 : decode cX8_scene 43 = .ok (.iconst 0, 1) := by decide +kernel
theorem dX8_scene_44 : decode cX8_scene 44 = .ok (.iconst 1, 1) := by decide +kernel
theorem dX8_scene_45 : decode cX8_scene 45 = .ok (.invokevirtual 194, 3) := by decide +kernel
theorem dX8_scene_48 : decode cX8_scene 48 = .ok (.ifCond .ne 27, 3) := by decide +kernel
theorem dX8_scene_51 : decode cX8_scene 51 = .ok (.aload_n 0, 1) := by decide +kernel
theorem dX8_scene_52 : decode cX8_scene 52 = .ok (.aload_n 0, 1) := by decide +kernel
theorem dX8_scene_53 : decode cX8_scene 53 = .ok (.getfield 13, 3) := by decide +kernel
theorem dX8_scene_56 : decode cX8_scene 56 = .ok (.iconst 2, 1) := by decide +kernel
theorem dX8_scene_57 : decode cX8_scene 57 = .ok (.iaload, 1) := by decide +kernel
theorem dX8_scene_58 : decode cX8_scene 58 = .ok (.bipush 6, 2) := by decide +kernel
theorem dX8_scene_60 : decode cX8_scene 60 = .ok (.if_icmp .ne 7, 3) := by decide +kernel
theorem dX8_scene_63 : decode cX8_scene 63 = .ok (.iconst 1, 1) := by decide +kernel
theorem dX8_scene_64 : decode cX8_scene 64 = .ok (.goto 4, 3) := by decide +kernel
theorem dX8_scene_67 : decode cX8_scene 67 = .ok (.iconst 0, 1) := by decide +kernel
theorem dX8_scene_68 : decode cX8_scene 68 = .ok (.iconst 2, 1) := by decide +kernel
theorem dX8_scene_69 : decode cX8_scene 69 = .ok (.invokevirtual 194, 3) := by decide +kernel
theorem dX8_scene_72 : decode cX8_scene 72 = .ok (.ifCond .eq 5, 3) := by decide +kernel
theorem dX8_scene_75 : decode cX8_scene 75 = .ok (.iconst 0, 1) := by decide +kernel
theorem dX8_scene_76 : decode cX8_scene 76 = .ok (.ireturn, 1) := by decide +kernel
theorem dX8_scene_77 : decode cX8_scene 77 = .ok (.bipush 48, 2) := by decide +kernel
theorem dX8_scene_79 : decode cX8_scene 79 = .ok (.sipush 144, 3) := by decide +kernel
theorem dX8_scene_82 : decode cX8_scene 82 = .ok (.aload_n 0, 1) := by decide +kernel
theorem dX8_scene_83 : decode cX8_scene 83 = .ok (.getfield 13, 3) := by decide +kernel
theorem dX8_scene_86 : decode cX8_scene 86 = .ok (.iconst 2, 1) := by decide +kernel
theorem dX8_scene_87 : decode cX8_scene 87 = .ok (.iaload, 1) := by decide +kernel
theorem dX8_scene_88 : decode cX8_scene 88 = .ok (.imul, 1) := by decide +kernel
theorem dX8_scene_89 : decode cX8_scene 89 = .ok (.iadd, 1) := by decide +kernel
theorem dX8_scene_90 : decode cX8_scene 90 = .ok (.istore_n 1, 1) := by decide +kernel
theorem dX8_scene_91 : decode cX8_scene 91 = .ok (.iconst 0, 1) := by decide +kernel
theorem dX8_scene_92 : decode cX8_scene 92 = .ok (.istore_n 2, 1) := by decide +kernel
theorem dX8_scene_93 : decode cX8_scene 93 = .ok (.iload_n 2, 1) := by decide +kernel
theorem dX8_scene_94 : decode cX8_scene 94 = .ok (.sipush 144, 3) := by decide +kernel
theorem dX8_scene_97 : decode cX8_scene 97 = .ok (.if_icmp .ge 27, 3) := by decide +kernel
theorem dX8_scene_100 : decode cX8_scene 100 = .ok (.aload_n 0, 1) := by decide +kernel
theorem dX8_scene_101 : decode cX8_scene 101 = .ok (.getfield 13, 3) := by decide +kernel
theorem dX8_scene_104 : decode cX8_scene 104 = .ok (.iload_n 1, 1) := by decide +kernel
theorem dX8_scene_105 : decode cX8_scene 105 = .ok (.iload_n 2, 1) := by decide +kernel
theorem dX8_scene_106 : decode cX8_scene 106 = .ok (.iadd, 1) := by decide +kernel
theorem dX8_scene_107 : decode cX8_scene 107 = .ok (.aload_n 0, 1) := by decide +kernel
theorem dX8_scene_108 : decode cX8_scene 108 = .ok (.getfield 13, 3) := by decide +kernel
theorem dX8_scene_111 : decode cX8_scene 111 = .ok (.sipush 1038, 3) := by decide +kernel
theorem dX8_scene_114 : decode cX8_scene 114 = .ok (.iload_n 2, 1) := by decide +kernel
theorem dX8_scene_115 : decode cX8_scene 115 = .ok (.iadd, 1) := by decide +kernel
theorem dX8_scene_116 : decode cX8_scene 116 = .ok (.iaload, 1) := by decide +kernel
theorem dX8_scene_117 : decode cX8_scene 117 = .ok (.iastore, 1) := by decide +kernel
theorem dX8_scene_118 : decode cX8_scene 118 = .ok (.iinc 2 1, 3) := by decide +kernel
theorem dX8_scene_121 : decode cX8_scene 121 = .ok (.goto (-28), 3) := by decide +kernel
theorem dX8_scene_124 : decode cX8_scene 124 = .ok (.aload_n 0, 1) := by decide +kernel
theorem dX8_scene_125 : decode cX8_scene 125 = .ok (.getfield 13, 3) := by decide +kernel
theorem dX8_scene_128 : decode cX8_scene 128 = .ok (.iconst 2, 1) := by decide +kernel
theorem dX8_scene_129 : decode cX8_scene 129 = .ok (.dup2, 1) := by decide +kernel
theorem dX8_scene_130 : decode cX8_scene 130 = .ok (.iaload, 1) := by decide +kernel
theorem dX8_scene_131 : decode cX8_scene 131 = .ok (.iconst 1, 1) := by decide +kernel
theorem dX8_scene_132 : decode cX8_scene 132 = .ok (.iadd, 1) := by decide +kernel
theorem dX8_scene_133 : decode cX8_scene 133 = .ok (.iastore, 1) := by decide +kernel
theorem dX8_scene_134 : decode cX8_scene 134 = .ok (.aload_n 0, 1) := by decide +kernel
theorem dX8_scene_135 : decode cX8_scene 135 = .ok (.getfield 13, 3) := by decide +kernel
theorem dX8_scene_138 : decode cX8_scene 138 = .ok (.iconst 2, 1) := by decide +kernel
theorem dX8_scene_139 : decode cX8_scene 139 = .ok (.iaload, 1) := by decide +kernel
theorem dX8_scene_140 : decode cX8_scene 140 = .ok (.iconst 1, 1) := by decide +kernel
theorem dX8_scene_141 : decode cX8_scene 141 = .ok (.isub, 1) := by decide +kernel
theorem dX8_scene_142 : decode cX8_scene 142 = .ok (.ireturn, 1) := by decide +kernel
theorem dX8_rules_0 : decode cX8_rules 0 = .ok (.aload_n 0, 1) := by decide +kernel
theorem dX8_rules_1 : decode cX8_rules 1 = .ok (.invokevirtual 187, 3) := by decide +kernel
theorem dX8_rules_4 : decode cX8_rules 4 = .ok (.aload_n 0, 1) := by decide +kernel
theorem dX8_rules_5 : decode cX8_rules 5 = .ok (.iconst 2, 1) := by decide +kernel
theorem dX8_rules_6 : decode cX8_rules 6 = .ok (.invokevirtual 191, 3) := by decide +kernel
theorem dX8_rules_9 : decode cX8_rules 9 = .ok (.istore_n 1, 1) := by decide +kernel
theorem dX8_rules_10 : decode cX8_rules 10 = .ok (.aload_n 0, 1) := by decide +kernel
theorem dX8_rules_11 : decode cX8_rules 11 = .ok (.iload_n 1, 1) := by decide +kernel
theorem dX8_rules_12 : decode cX8_rules 12 = .ok (.ifCond .ge 7, 3) := by decide +kernel
theorem dX8_rules_15 : decode cX8_rules 15 = .ok (.iconst 1, 1) := by decide +kernel
theorem dX8_rules_16 : decode cX8_rules 16 = .ok (.goto 4, 3) := by decide +kernel
theorem dX8_rules_19 : decode cX8_rules 19 = .ok (.iconst 0, 1) := by decide +kernel
theorem dX8_rules_20 : decode cX8_rules 20 = .ok (.iconst 1, 1) := by decide +kernel
theorem dX8_rules_21 : decode cX8_rules 21 = .ok (.invokevirtual 194, 3) := by decide +kernel
theorem dX8_rules_24 : decode cX8_rules 24 = .ok (.ifCond .eq 5, 3) := by decide +kernel
theorem dX8_rules_27 : decode cX8_rules 27 = .ok (.iconst 0, 1) := by decide +kernel
theorem dX8_rules_28 : decode cX8_rules 28 = .ok (.ireturn, 1) := by decide +kernel
theorem dX8_rules_29 : decode cX8_rules 29 = .ok (.aload_n 0, 1) := by decide +kernel
theorem dX8_rules_30 : decode cX8_rules 30 = .ok (.getfield 13, 3) := by decide +kernel
theorem dX8_rules_33 : decode cX8_rules 33 = .ok (.bipush 7, 2) := by decide +kernel
theorem dX8_rules_35 : decode cX8_rules 35 = .ok (.iload_n 1, 1) := by decide +kernel
theorem dX8_rules_36 : decode cX8_rules 36 = .ok (.iastore, 1) := by decide +kernel
theorem dX8_rules_37 : decode cX8_rules 37 = .ok (.iconst 0, 1) := by decide +kernel
theorem dX8_rules_38 : decode cX8_rules 38 = .ok (.istore_n 2, 1) := by decide +kernel
theorem dX8_rules_39 : decode cX8_rules 39 = .ok (.iload_n 2, 1) := by decide +kernel
theorem dX8_rules_40 : decode cX8_rules 40 = .ok (.iconst 3, 1) := by decide +kernel
theorem dX8_rules_41 : decode cX8_rules 41 = .ok (.iload_n 1, 1) := by decide +kernel
theorem dX8_rules_42 : decode cX8_rules 42 = .ok (.imul, 1) := by decide +kernel
theorem dX8_rules_43 : decode cX8_rules 43 = .ok (.if_icmp .ge 29, 3) := by decide +kernel
theorem dX8_rules_46 : decode cX8_rules 46 = .ok (.aload_n 0, 1) := by decide +kernel
theorem dX8_rules_47 : decode cX8_rules 47 = .ok (.getfield 13, 3) := by decide +kernel
theorem dX8_rules_50 : decode cX8_rules 50 = .ok (.sipush 978, 3) := by decide +kernel
theorem dX8_rules_53 : decode cX8_rules 53 = .ok (.iload_n 2, 1) := by decide +kernel
theorem dX8_rules_54 : decode cX8_rules 54 = .ok (.iadd, 1) := by decide +kernel
theorem dX8_rules_55 : decode cX8_rules 55 = .ok (.aload_n 0, 1) := by decide +kernel
theorem dX8_rules_56 : decode cX8_rules 56 = .ok (.getfield 13, 3) := by decide +kernel
theorem dX8_rules_59 : decode cX8_rules 59 = .ok (.sipush 1038, 3) := by decide +kernel
theorem dX8_rules_62 : decode cX8_rules 62 = .ok (.iload_n 2, 1) := by decide +kernel
theorem dX8_rules_63 : decode cX8_rules 63 = .ok (.iadd, 1) := by decide +kernel
theorem dX8_rules_64 : decode cX8_rules 64 = .ok (.iaload, 1) := by decide +kernel
theorem dX8_rules_65 : decode cX8_rules 65 = .ok (.iastore, 1) := by decide +kernel
theorem dX8_rules_66 : decode cX8_rules 66 = .ok (.iinc 2 1, 3) := by decide +kernel
theorem dX8_rules_69 : decode cX8_rules 69 = .ok (.goto (-30), 3) := by decide +kernel
theorem dX8_rules_72 : decode cX8_rules 72 = .ok (.iload_n 1, 1) := by decide +kernel
theorem dX8_rules_73 : decode cX8_rules 73 = .ok (.ireturn, 1) := by decide +kernel
theorem dX8_beside_0 : decode cX8_beside 0 = .ok (.iload_n 0, 1) := by decide +kernel
theorem dX8_beside_1 : decode cX8_beside 1 = .ok (.iconst 5, 1) := by decide +kernel
theorem dX8_beside_2 : decode cX8_beside 2 = .ok (.irem, 1) := by decide +kernel
theorem dX8_beside_3 : decode cX8_beside 3 = .ok (.iload_n 1, 1) := by decide +kernel
theorem dX8_beside_4 : decode cX8_beside 4 = .ok (.iconst 1, 1) := by decide +kernel
theorem dX8_beside_5 : decode cX8_beside 5 = .ok (.if_icmp .ne 7, 3) := by decide +kernel
theorem dX8_beside_8 : decode cX8_beside 8 = .ok (.iconst 1, 1) := by decide +kernel
theorem dX8_beside_9 : decode cX8_beside 9 = .ok (.goto 13, 3) := by decide +kernel
theorem dX8_beside_12 : decode cX8_beside 12 = .ok (.iload_n 1, 1) := by decide +kernel
theorem dX8_beside_13 : decode cX8_beside 13 = .ok (.iconst 3, 1) := by decide +kernel
theorem dX8_beside_14 : decode cX8_beside 14 = .ok (.if_icmp .ne 7, 3) := by decide +kernel
theorem dX8_beside_17 : decode cX8_beside 17 = .ok (.iconst (-1), 1) := by decide +kernel
theorem dX8_beside_18 : decode cX8_beside 18 = .ok (.goto 4, 3) := by decide +kernel
theorem dX8_beside_21 : decode cX8_beside 21 = .ok (.iconst 0, 1) := by decide +kernel
theorem dX8_beside_22 : decode cX8_beside 22 = .ok (.iadd, 1) := by decide +kernel
theorem dX8_beside_23 : decode cX8_beside 23 = .ok (.istore_n 2, 1) := by decide +kernel
theorem dX8_beside_24 : decode cX8_beside 24 = .ok (.iload_n 0, 1) := by decide +kernel
theorem dX8_beside_25 : decode cX8_beside 25 = .ok (.iconst 5, 1) := by decide +kernel
theorem dX8_beside_26 : decode cX8_beside 26 = .ok (.idiv, 1) := by decide +kernel
theorem dX8_beside_27 : decode cX8_beside 27 = .ok (.iload_n 1, 1) := by decide +kernel
theorem dX8_beside_28 : decode cX8_beside 28 = .ok (.iconst 2, 1) := by decide +kernel
theorem dX8_beside_29 : decode cX8_beside 29 = .ok (.if_icmp .ne 7, 3) := by decide +kernel
theorem dX8_beside_32 : decode cX8_beside 32 = .ok (.iconst 1, 1) := by decide +kernel
theorem dX8_beside_33 : decode cX8_beside 33 = .ok (.goto 12, 3) := by decide +kernel
theorem dX8_beside_36 : decode cX8_beside 36 = .ok (.iload_n 1, 1) := by decide +kernel
theorem dX8_beside_37 : decode cX8_beside 37 = .ok (.ifCond .ne 7, 3) := by decide +kernel
theorem dX8_beside_40 : decode cX8_beside 40 = .ok (.iconst (-1), 1) := by decide +kernel
theorem dX8_beside_41 : decode cX8_beside 41 = .ok (.goto 4, 3) := by decide +kernel
theorem dX8_beside_44 : decode cX8_beside 44 = .ok (.iconst 0, 1) := by decide +kernel
theorem dX8_beside_45 : decode cX8_beside 45 = .ok (.iadd, 1) := by decide +kernel
theorem dX8_beside_46 : decode cX8_beside 46 = .ok (.istore_n 3, 1) := by decide +kernel
theorem dX8_beside_47 : decode cX8_beside 47 = .ok (.iload_n 2, 1) := by decide +kernel
theorem dX8_beside_48 : decode cX8_beside 48 = .ok (.iconst 0, 1) := by decide +kernel
theorem dX8_beside_49 : decode cX8_beside 49 = .ok (.iconst 4, 1) := by decide +kernel
theorem dX8_beside_50 : decode cX8_beside 50 = .ok (.invokestatic 72, 3) := by decide +kernel
theorem dX8_beside_53 : decode cX8_beside 53 = .ok (.ifCond .eq 20, 3) := by decide +kernel
theorem dX8_beside_56 : decode cX8_beside 56 = .ok (.iload_n 3, 1) := by decide +kernel
theorem dX8_beside_57 : decode cX8_beside 57 = .ok (.iconst 0, 1) := by decide +kernel
theorem dX8_beside_58 : decode cX8_beside 58 = .ok (.iconst 4, 1) := by decide +kernel
theorem dX8_beside_59 : decode cX8_beside 59 = .ok (.invokestatic 72, 3) := by decide +kernel
theorem dX8_beside_62 : decode cX8_beside 62 = .ok (.ifCond .eq 11, 3) := by decide +kernel
theorem dX8_beside_65 : decode cX8_beside 65 = .ok (.iconst 5, 1) := by decide +kernel
theorem dX8_beside_66 : decode cX8_beside 66 = .ok (.iload_n 3, 1) := by decide +kernel
theorem dX8_beside_67 : decode cX8_beside 67 = .ok (.imul, 1) := by decide +kernel
theorem dX8_beside_68 : decode cX8_beside 68 = .ok (.iload_n 2, 1) := by decide +kernel
theorem dX8_beside_69 : decode cX8_beside 69 = .ok (.iadd, 1) := by decide +kernel
theorem dX8_beside_70 : decode cX8_beside 70 = .ok (.goto 4, 3) := by decide +kernel
theorem dX8_beside_73 : decode cX8_beside 73 = .ok (.iconst (-1), 1) := by decide +kernel
theorem dX8_beside_74 : decode cX8_beside 74 = .ok (.ireturn, 1) := by decide +kernel
theorem dX8_hanging_0 : decode cX8_hanging 0 = .ok (.iload_n 0, 1) := by decide +kernel
theorem dX8_hanging_1 : decode cX8_hanging 1 = .ok (.iload_n 1, 1) := by decide +kernel
theorem dX8_hanging_2 : decode cX8_hanging 2 = .ok (.iand, 1) := by decide +kernel
theorem dX8_hanging_3 : decode cX8_hanging 3 = .ok (.istore_n 2, 1) := by decide +kernel
theorem dX8_hanging_4 : decode cX8_hanging 4 = .ok (.iconst 0, 1) := by decide +kernel
theorem dX8_hanging_5 : decode cX8_hanging 5 = .ok (.istore_n 3, 1) := by decide +kernel
theorem dX8_hanging_6 : decode cX8_hanging 6 = .ok (.iload_n 2, 1) := by decide +kernel
theorem dX8_hanging_7 : decode cX8_hanging 7 = .ok (.iload_n 3, 1) := by decide +kernel
theorem dX8_hanging_8 : decode cX8_hanging 8 = .ok (.if_icmp .eq 82, 3) := by decide +kernel
theorem dX8_hanging_11 : decode cX8_hanging 11 = .ok (.iload_n 2, 1) := by decide +kernel
theorem dX8_hanging_12 : decode cX8_hanging 12 = .ok (.istore_n 3, 1) := by decide +kernel
theorem dX8_hanging_13 : decode cX8_hanging 13 = .ok (.iconst 0, 1) := by decide +kernel
theorem dX8_hanging_14 : decode cX8_hanging 14 = .ok (.istore 4, 2) := by decide +kernel
theorem dX8_hanging_16 : decode cX8_hanging 16 = .ok (.iload 4, 2) := by decide +kernel
theorem dX8_hanging_18 : decode cX8_hanging 18 = .ok (.bipush 25, 2) := by decide +kernel
theorem dX8_hanging_20 : decode cX8_hanging 20 = .ok (.if_icmp .ge 67, 3) := by decide +kernel
theorem dX8_hanging_23 : decode cX8_hanging 23 = .ok (.iconst 0, 1) := by decide +kernel
theorem dX8_hanging_24 : decode cX8_hanging 24 = .ok (.istore 5, 2) := by decide +kernel
theorem dX8_hanging_26 : decode cX8_hanging 26 = .ok (.iload 5, 2) := by decide +kernel
theorem dX8_hanging_28 : decode cX8_hanging 28 = .ok (.iconst 4, 1) := by decide +kernel
theorem dX8_hanging_29 : decode cX8_hanging 29 = .ok (.if_icmp .ge 52, 3) := by decide +kernel
theorem dX8_hanging_32 : decode cX8_hanging 32 = .ok (.iload_n 3, 1) := by decide +kernel
theorem dX8_hanging_33 : decode cX8_hanging 33 = .ok (.iload 4, 2) := by decide +kernel
theorem dX8_hanging_35 : decode cX8_hanging 35 = .ok (.invokestatic 123, 3) := by decide +kernel
theorem dX8_hanging_38 : decode cX8_hanging 38 = .ok (.ifCond .eq 43, 3) := by decide +kernel
theorem dX8_hanging_41 : decode cX8_hanging 41 = .ok (.iload 4, 2) := by decide +kernel
theorem dX8_hanging_43 : decode cX8_hanging 43 = .ok (.iload 5, 2) := by decide +kernel
theorem dX8_hanging_45 : decode cX8_hanging 45 = .ok (.invokestatic 216, 3) := by decide +kernel
theorem dX8_hanging_48 : decode cX8_hanging 48 = .ok (.istore 6, 2) := by decide +kernel
theorem dX8_hanging_50 : decode cX8_hanging 50 = .ok (.iload_n 2, 1) := by decide +kernel
theorem dX8_hanging_51 : decode cX8_hanging 51 = .ok (.iload 6, 2) := by decide +kernel
theorem dX8_hanging_53 : decode cX8_hanging 53 = .ok (.ifCond .lt 19, 3) := by decide +kernel
theorem dX8_hanging_56 : decode cX8_hanging 56 = .ok (.iload_n 0, 1) := by decide +kernel
theorem dX8_hanging_57 : decode cX8_hanging 57 = .ok (.iload 6, 2) := by decide +kernel
theorem dX8_hanging_59 : decode cX8_hanging 59 = .ok (.invokestatic 123, 3) := by decide +kernel
theorem dX8_hanging_62 : decode cX8_hanging 62 = .ok (.ifCond .eq 10, 3) := by decide +kernel
theorem dX8_hanging_65 : decode cX8_hanging 65 = .ok (.iconst 1, 1) := by decide +kernel
theorem dX8_hanging_66 : decode cX8_hanging 66 = .ok (.iload 6, 2) := by decide +kernel
theorem dX8_hanging_68 : decode cX8_hanging 68 = .ok (.ishl, 1) := by decide +kernel
theorem dX8_hanging_69 : decode cX8_hanging 69 = .ok (.goto 4, 3) := by decide +kernel
theorem dX8_hanging_72 : decode cX8_hanging 72 = .ok (.iconst 0, 1) := by decide +kernel
theorem dX8_hanging_73 : decode cX8_hanging 73 = .ok (.ior, 1) := by decide +kernel
theorem dX8_hanging_74 : decode cX8_hanging 74 = .ok (.istore_n 2, 1) := by decide +kernel
theorem dX8_hanging_75 : decode cX8_hanging 75 = .ok (.iinc 5 1, 3) := by decide +kernel
theorem dX8_hanging_78 : decode cX8_hanging 78 = .ok (.goto (-52), 3) := by decide +kernel
theorem dX8_hanging_81 : decode cX8_hanging 81 = .ok (.iinc 4 1, 3) := by decide +kernel
theorem dX8_hanging_84 : decode cX8_hanging 84 = .ok (.goto (-68), 3) := by decide +kernel
theorem dX8_hanging_87 : decode cX8_hanging 87 = .ok (.goto (-81), 3) := by decide +kernel
theorem dX8_hanging_90 : decode cX8_hanging 90 = .ok (.iload_n 2, 1) := by decide +kernel
theorem dX8_hanging_91 : decode cX8_hanging 91 = .ok (.ireturn, 1) := by decide +kernel
theorem dX8_edge_0 : decode cX8_edge 0 = .ok (.iconst 0, 1) := by decide +kernel
theorem dX8_edge_1 : decode cX8_edge 1 = .ok (.istore_n 0, 1) := by decide +kernel
theorem dX8_edge_2 : decode cX8_edge 2 = .ok (.iconst 0, 1) := by decide +kernel
theorem dX8_edge_3 : decode cX8_edge 3 = .ok (.istore_n 1, 1) := by decide +kernel
theorem dX8_edge_4 : decode cX8_edge 4 = .ok (.iload_n 1, 1) := by decide +kernel
theorem dX8_edge_5 : decode cX8_edge 5 = .ok (.bipush 25, 2) := by decide +kernel
theorem dX8_edge_7 : decode cX8_edge 7 = .ok (.if_icmp .ge 40, 3) := by decide +kernel
theorem dX8_edge_10 : decode cX8_edge 10 = .ok (.iconst 0, 1) := by decide +kernel
theorem dX8_edge_11 : decode cX8_edge 11 = .ok (.istore_n 2, 1) := by decide +kernel
theorem dX8_edge_12 : decode cX8_edge 12 = .ok (.iload_n 2, 1) := by decide +kernel
theorem dX8_edge_13 : decode cX8_edge 13 = .ok (.iconst 4, 1) := by decide +kernel
theorem dX8_edge_14 : decode cX8_edge 14 = .ok (.if_icmp .ge 27, 3) := by decide +kernel
theorem dX8_edge_17 : decode cX8_edge 17 = .ok (.iload_n 0, 1) := by decide +kernel
theorem dX8_edge_18 : decode cX8_edge 18 = .ok (.iload_n 1, 1) := by decide +kernel
theorem dX8_edge_19 : decode cX8_edge 19 = .ok (.iload_n 2, 1) := by decide +kernel
theorem dX8_edge_20 : decode cX8_edge 20 = .ok (.invokestatic 216, 3) := by decide +kernel
theorem dX8_edge_23 : decode cX8_edge 23 = .ok (.ifCond .ge 9, 3) := by decide +kernel
theorem dX8_edge_26 : decode cX8_edge 26 = .ok (.iconst 1, 1) := by decide +kernel
theorem dX8_edge_27 : decode cX8_edge 27 = .ok (.iload_n 1, 1) := by decide +kernel
theorem dX8_edge_28 : decode cX8_edge 28 = .ok (.ishl, 1) := by decide +kernel
theorem dX8_edge_29 : decode cX8_edge 29 = .ok (.goto 4, 3) := by decide +kernel
theorem dX8_edge_32 : decode cX8_edge 32 = .ok (.iconst 0, 1) := by decide +kernel
theorem dX8_edge_33 : decode cX8_edge 33 = .ok (.ior, 1) := by decide +kernel
theorem dX8_edge_34 : decode cX8_edge 34 = .ok (.istore_n 0, 1) := by decide +kernel
theorem dX8_edge_35 : decode cX8_edge 35 = .ok (.iinc 2 1, 3) := by decide +kernel
theorem dX8_edge_38 : decode cX8_edge 38 = .ok (.goto (-26), 3) := by decide +kernel
theorem dX8_edge_41 : decode cX8_edge 41 = .ok (.iinc 1 1, 3) := by decide +kernel
theorem dX8_edge_44 : decode cX8_edge 44 = .ok (.goto (-40), 3) := by decide +kernel
theorem dX8_edge_47 : decode cX8_edge 47 = .ok (.iload_n 0, 1) := by decide +kernel
theorem dX8_edge_48 : decode cX8_edge 48 = .ok (.ireturn, 1) := by decide +kernel
theorem dX8_looseOf_0 : decode cX8_looseOf 0 = .ok (.iload_n 0, 1) := by decide +kernel
theorem dX8_looseOf_1 : decode cX8_looseOf 1 = .ok (.iload_n 0, 1) := by decide +kernel
theorem dX8_looseOf_2 : decode cX8_looseOf 2 = .ok (.invokestatic 219, 3) := by decide +kernel
theorem dX8_looseOf_5 : decode cX8_looseOf 5 = .ok (.invokestatic 222, 3) := by decide +kernel
theorem dX8_looseOf_8 : decode cX8_looseOf 8 = .ok (.iconst (-1), 1) := by decide +kernel
theorem dX8_looseOf_9 : decode cX8_looseOf 9 = .ok (.ixor, 1) := by decide +kernel
theorem dX8_looseOf_10 : decode cX8_looseOf 10 = .ok (.iand, 1) := by decide +kernel
theorem dX8_looseOf_11 : decode cX8_looseOf 11 = .ok (.ireturn, 1) := by decide +kernel
theorem dX8_dark_0 : decode cX8_dark 0 = .ok (.aload_n 0, 1) := by decide +kernel
theorem dX8_dark_1 : decode cX8_dark 1 = .ok (.iconst 0, 1) := by decide +kernel
theorem dX8_dark_2 : decode cX8_dark 2 = .ok (.putfield 3, 3) := by decide +kernel
theorem dX8_dark_5 : decode cX8_dark 5 = .ok (.aload_n 0, 1) := by decide +kernel
theorem dX8_dark_6 : decode cX8_dark 6 = .ok (.aload_n 0, 1) := by decide +kernel
theorem dX8_dark_7 : decode cX8_dark 7 = .ok (.iload_n 1, 1) := by decide +kernel
theorem dX8_dark_8 : decode cX8_dark 8 = .ok (.invokevirtual 202, 3) := by decide +kernel
theorem dX8_dark_11 : decode cX8_dark 11 = .ok (.iconst 1, 1) := by decide +kernel
theorem dX8_dark_12 : decode cX8_dark 12 = .ok (.invokevirtual 194, 3) := by decide +kernel
theorem dX8_dark_15 : decode cX8_dark 15 = .ok (.ifCond .eq 7, 3) := by decide +kernel
theorem dX8_dark_18 : decode cX8_dark 18 = .ok (.iconst 0, 1) := by decide +kernel
theorem dX8_dark_19 : decode cX8_dark 19 = .ok (.goto 9, 3) := by decide +kernel
theorem dX8_dark_22 : decode cX8_dark 22 = .ok (.aload_n 0, 1) := by decide +kernel
theorem dX8_dark_23 : decode cX8_dark 23 = .ok (.iload_n 1, 1) := by decide +kernel
theorem dX8_dark_24 : decode cX8_dark 24 = .ok (.iconst 1, 1) := by decide +kernel
theorem dX8_dark_25 : decode cX8_dark 25 = .ok (.invokevirtual 205, 3) := by decide +kernel
theorem dX8_dark_28 : decode cX8_dark 28 = .ok (.ireturn, 1) := by decide +kernel
theorem dX8_loose_0 : decode cX8_loose 0 = .ok (.aload_n 0, 1) := by decide +kernel
theorem dX8_loose_1 : decode cX8_loose 1 = .ok (.iconst 0, 1) := by decide +kernel
theorem dX8_loose_2 : decode cX8_loose 2 = .ok (.putfield 3, 3) := by decide +kernel
theorem dX8_loose_5 : decode cX8_loose 5 = .ok (.aload_n 0, 1) := by decide +kernel
theorem dX8_loose_6 : decode cX8_loose 6 = .ok (.aload_n 0, 1) := by decide +kernel
theorem dX8_loose_7 : decode cX8_loose 7 = .ok (.iload_n 1, 1) := by decide +kernel
theorem dX8_loose_8 : decode cX8_loose 8 = .ok (.invokevirtual 202, 3) := by decide +kernel
theorem dX8_loose_11 : decode cX8_loose 11 = .ok (.iconst 1, 1) := by decide +kernel
theorem dX8_loose_12 : decode cX8_loose 12 = .ok (.invokevirtual 194, 3) := by decide +kernel
theorem dX8_loose_15 : decode cX8_loose 15 = .ok (.ifCond .eq 7, 3) := by decide +kernel
theorem dX8_loose_18 : decode cX8_loose 18 = .ok (.iconst 0, 1) := by decide +kernel
theorem dX8_loose_19 : decode cX8_loose 19 = .ok (.goto 12, 3) := by decide +kernel
theorem dX8_loose_22 : decode cX8_loose 22 = .ok (.aload_n 0, 1) := by decide +kernel
theorem dX8_loose_23 : decode cX8_loose 23 = .ok (.iload_n 1, 1) := by decide +kernel
theorem dX8_loose_24 : decode cX8_loose 24 = .ok (.iconst 1, 1) := by decide +kernel
theorem dX8_loose_25 : decode cX8_loose 25 = .ok (.invokevirtual 205, 3) := by decide +kernel
theorem dX8_loose_28 : decode cX8_loose 28 = .ok (.invokestatic 208, 3) := by decide +kernel
theorem dX8_loose_31 : decode cX8_loose 31 = .ok (.ireturn, 1) := by decide +kernel
theorem dX8_bridgesOf_0 : decode cX8_bridgesOf 0 = .ok (.iconst 1, 1) := by decide +kernel
theorem dX8_bridgesOf_1 : decode cX8_bridgesOf 1 = .ok (.iload_n 1, 1) := by decide +kernel
theorem dX8_bridgesOf_2 : decode cX8_bridgesOf 2 = .ok (.ishl, 1) := by decide +kernel
theorem dX8_bridgesOf_3 : decode cX8_bridgesOf 3 = .ok (.iconst 1, 1) := by decide +kernel
theorem dX8_bridgesOf_4 : decode cX8_bridgesOf 4 = .ok (.isub, 1) := by decide +kernel
theorem dX8_bridgesOf_5 : decode cX8_bridgesOf 5 = .ok (.istore_n 2, 1) := by decide +kernel
theorem dX8_bridgesOf_6 : decode cX8_bridgesOf 6 = .ok (.iload_n 2, 1) := by decide +kernel
theorem dX8_bridgesOf_7 : decode cX8_bridgesOf 7 = .ok (.ldc 190, 2) := by decide +kernel
theorem dX8_bridgesOf_9 : decode cX8_bridgesOf 9 = .ok (.if_icmp .gt 51, 3) := by decide +kernel
theorem dX8_bridgesOf_12 : decode cX8_bridgesOf 12 = .ok (.iload_n 2, 1) := by decide +kernel
theorem dX8_bridgesOf_13 : decode cX8_bridgesOf 13 = .ok (.iload_n 0, 1) := by decide +kernel
theorem dX8_bridgesOf_14 : decode cX8_bridgesOf 14 = .ok (.iand, 1) := by decide +kernel
theorem dX8_bridgesOf_15 : decode cX8_bridgesOf 15 = .ok (.ifCond .ne 14, 3) := by decide +kernel
theorem dX8_bridgesOf_18 : decode cX8_bridgesOf 18 = .ok (.iload_n 0, 1) := by decide +kernel
theorem dX8_bridgesOf_19 : decode cX8_bridgesOf 19 = .ok (.iload_n 2, 1) := by decide +kernel
theorem dX8_bridgesOf_20 : decode cX8_bridgesOf 20 = .ok (.ior, 1) := by decide +kernel
theorem dX8_bridgesOf_21 : decode cX8_bridgesOf 21 = .ok (.invokestatic 208, 3) := by decide +kernel
theorem dX8_bridgesOf_24 : decode cX8_bridgesOf 24 = .ok (.ifCond .ne 5, 3) := by decide +kernel
theorem dX8_bridgesOf_27 : decode cX8_bridgesOf 27 = .ok (.iload_n 2, 1) := by decide +kernel
theorem dX8_bridgesOf_28 : decode cX8_bridgesOf 28 = .ok (.ireturn, 1) := by decide +kernel
theorem dX8_bridgesOf_29 : decode cX8_bridgesOf 29 = .ok (.iload_n 2, 1) := by decide +kernel
theorem dX8_bridgesOf_30 : decode cX8_bridgesOf 30 = .ok (.ifCond .ne 5, 3) := by decide +kernel
theorem dX8_bridgesOf_33 : decode cX8_bridgesOf 33 = .ok (.iconst (-1), 1) := by decide +kernel
theorem dX8_bridgesOf_34 : decode cX8_bridgesOf 34 = .ok (.ireturn, 1) := by decide +kernel
theorem dX8_bridgesOf_35 : decode cX8_bridgesOf 35 = .ok (.iload_n 2, 1) := by decide +kernel
theorem dX8_bridgesOf_36 : decode cX8_bridgesOf 36 = .ok (.iload_n 2, 1) := by decide +kernel
theorem dX8_bridgesOf_37 : decode cX8_bridgesOf 37 = .ok (.ineg, 1) := by decide +kernel
theorem dX8_bridgesOf_38 : decode cX8_bridgesOf 38 = .ok (.iand, 1) := by decide +kernel
theorem dX8_bridgesOf_39 : decode cX8_bridgesOf 39 = .ok (.istore_n 3, 1) := by decide +kernel
theorem dX8_bridgesOf_40 : decode cX8_bridgesOf 40 = .ok (.iload_n 2, 1) := by decide +kernel
theorem dX8_bridgesOf_41 : decode cX8_bridgesOf 41 = .ok (.iload_n 3, 1) := by decide +kernel
theorem dX8_bridgesOf_42 : decode cX8_bridgesOf 42 = .ok (.iadd, 1) := by decide +kernel
theorem dX8_bridgesOf_43 : decode cX8_bridgesOf 43 = .ok (.istore 4, 2) := by decide +kernel
theorem dX8_bridgesOf_45 : decode cX8_bridgesOf 45 = .ok (.iload_n 2, 1) := by decide +kernel
theorem dX8_bridgesOf_46 : decode cX8_bridgesOf 46 = .ok (.iload 4, 2) := by decide +kernel
theorem dX8_bridgesOf_48 : decode cX8_bridgesOf 48 = .ok (.ixor, 1) := by decide +kernel
theorem dX8_bridgesOf_49 : decode cX8_bridgesOf 49 = .ok (.iconst 2, 1) := by decide +kernel
theorem dX8_bridgesOf_50 : decode cX8_bridgesOf 50 = .ok (.iushr, 1) := by decide +kernel
theorem dX8_bridgesOf_51 : decode cX8_bridgesOf 51 = .ok (.iload_n 3, 1) := by decide +kernel
theorem dX8_bridgesOf_52 : decode cX8_bridgesOf 52 = .ok (.idiv, 1) := by decide +kernel
theorem dX8_bridgesOf_53 : decode cX8_bridgesOf 53 = .ok (.iload 4, 2) := by decide +kernel
theorem dX8_bridgesOf_55 : decode cX8_bridgesOf 55 = .ok (.ior, 1) := by decide +kernel
theorem dX8_bridgesOf_56 : decode cX8_bridgesOf 56 = .ok (.istore_n 2, 1) := by decide +kernel
theorem dX8_bridgesOf_57 : decode cX8_bridgesOf 57 = .ok (.goto (-51), 3) := by decide +kernel
theorem dX8_bridgesOf_60 : decode cX8_bridgesOf 60 = .ok (.iconst (-1), 1) := by decide +kernel
theorem dX8_bridgesOf_61 : decode cX8_bridgesOf 61 = .ok (.ireturn, 1) := by decide +kernel
theorem dX8_bridges_0 : decode cX8_bridges 0 = .ok (.aload_n 0, 1) := by decide +kernel
theorem dX8_bridges_1 : decode cX8_bridges 1 = .ok (.iconst 0, 1) := by decide +kernel
theorem dX8_bridges_2 : decode cX8_bridges 2 = .ok (.putfield 3, 3) := by decide +kernel
theorem dX8_bridges_5 : decode cX8_bridges 5 = .ok (.aload_n 0, 1) := by decide +kernel
theorem dX8_bridges_6 : decode cX8_bridges 6 = .ok (.aload_n 0, 1) := by decide +kernel
theorem dX8_bridges_7 : decode cX8_bridges 7 = .ok (.iload_n 1, 1) := by decide +kernel
theorem dX8_bridges_8 : decode cX8_bridges 8 = .ok (.invokevirtual 202, 3) := by decide +kernel
theorem dX8_bridges_11 : decode cX8_bridges 11 = .ok (.iconst 1, 1) := by decide +kernel
theorem dX8_bridges_12 : decode cX8_bridges 12 = .ok (.invokevirtual 194, 3) := by decide +kernel
theorem dX8_bridges_15 : decode cX8_bridges 15 = .ok (.ifCond .eq 5, 3) := by decide +kernel
theorem dX8_bridges_18 : decode cX8_bridges 18 = .ok (.iconst 0, 1) := by decide +kernel
theorem dX8_bridges_19 : decode cX8_bridges 19 = .ok (.ireturn, 1) := by decide +kernel
theorem dX8_bridges_20 : decode cX8_bridges 20 = .ok (.iconst 0, 1) := by decide +kernel
theorem dX8_bridges_21 : decode cX8_bridges 21 = .ok (.istore_n 2, 1) := by decide +kernel
theorem dX8_bridges_22 : decode cX8_bridges 22 = .ok (.iload_n 2, 1) := by decide +kernel
theorem dX8_bridges_23 : decode cX8_bridges 23 = .ok (.iconst 4, 1) := by decide +kernel
theorem dX8_bridges_24 : decode cX8_bridges 24 = .ok (.if_icmp .gt 26, 3) := by decide +kernel
theorem dX8_bridges_27 : decode cX8_bridges 27 = .ok (.aload_n 0, 1) := by decide +kernel
theorem dX8_bridges_28 : decode cX8_bridges 28 = .ok (.iload_n 1, 1) := by decide +kernel
theorem dX8_bridges_29 : decode cX8_bridges 29 = .ok (.iconst 1, 1) := by decide +kernel
theorem dX8_bridges_30 : decode cX8_bridges 30 = .ok (.invokevirtual 205, 3) := by decide +kernel
theorem dX8_bridges_33 : decode cX8_bridges 33 = .ok (.iload_n 2, 1) := by decide +kernel
theorem dX8_bridges_34 : decode cX8_bridges 34 = .ok (.invokestatic 225, 3) := by decide +kernel
theorem dX8_bridges_37 : decode cX8_bridges 37 = .ok (.istore_n 3, 1) := by decide +kernel
theorem dX8_bridges_38 : decode cX8_bridges 38 = .ok (.iload_n 3, 1) := by decide +kernel
theorem dX8_bridges_39 : decode cX8_bridges 39 = .ok (.ifCond .lt 5, 3) := by decide +kernel
theorem dX8_bridges_42 : decode cX8_bridges 42 = .ok (.iload_n 3, 1) := by decide +kernel
theorem dX8_bridges_43 : decode cX8_bridges 43 = .ok (.ireturn, 1) := by decide +kernel
theorem dX8_bridges_44 : decode cX8_bridges 44 = .ok (.iinc 2 1, 3) := by decide +kernel
theorem dX8_bridges_47 : decode cX8_bridges 47 = .ok (.goto (-25), 3) := by decide +kernel
theorem dX8_bridges_50 : decode cX8_bridges 50 = .ok (.iconst (-1), 1) := by decide +kernel
theorem dX8_bridges_51 : decode cX8_bridges 51 = .ok (.ireturn, 1) := by decide +kernel
theorem dX8_holes_0 : decode cX8_holes 0 = .ok (.aload_n 0, 1) := by decide +kernel
theorem dX8_holes_1 : decode cX8_holes 1 = .ok (.iconst 0, 1) := by decide +kernel
theorem dX8_holes_2 : decode cX8_holes 2 = .ok (.putfield 3, 3) := by decide +kernel
theorem dX8_holes_5 : decode cX8_holes 5 = .ok (.aload_n 0, 1) := by decide +kernel
theorem dX8_holes_6 : decode cX8_holes 6 = .ok (.aload_n 0, 1) := by decide +kernel
theorem dX8_holes_7 : decode cX8_holes 7 = .ok (.iload_n 1, 1) := by decide +kernel
theorem dX8_holes_8 : decode cX8_holes 8 = .ok (.invokevirtual 202, 3) := by decide +kernel
theorem dX8_holes_11 : decode cX8_holes 11 = .ok (.iconst 1, 1) := by decide +kernel
theorem dX8_holes_12 : decode cX8_holes 12 = .ok (.invokevirtual 194, 3) := by decide +kernel
theorem dX8_holes_15 : decode cX8_holes 15 = .ok (.ifCond .eq 5, 3) := by decide +kernel
theorem dX8_holes_18 : decode cX8_holes 18 = .ok (.iconst 0, 1) := by decide +kernel
theorem dX8_holes_19 : decode cX8_holes 19 = .ok (.ireturn, 1) := by decide +kernel
theorem dX8_holes_20 : decode cX8_holes 20 = .ok (.aload_n 0, 1) := by decide +kernel
theorem dX8_holes_21 : decode cX8_holes 21 = .ok (.iload_n 1, 1) := by decide +kernel
theorem dX8_holes_22 : decode cX8_holes 22 = .ok (.iconst 1, 1) := by decide +kernel
theorem dX8_holes_23 : decode cX8_holes 23 = .ok (.invokevirtual 205, 3) := by decide +kernel
theorem dX8_holes_26 : decode cX8_holes 26 = .ok (.iconst (-1), 1) := by decide +kernel
theorem dX8_holes_27 : decode cX8_holes 27 = .ok (.ixor, 1) := by decide +kernel
theorem dX8_holes_28 : decode cX8_holes 28 = .ok (.ldc 190, 2) := by decide +kernel
theorem dX8_holes_30 : decode cX8_holes 30 = .ok (.iand, 1) := by decide +kernel
theorem dX8_holes_31 : decode cX8_holes 31 = .ok (.istore_n 2, 1) := by decide +kernel
theorem dX8_holes_32 : decode cX8_holes 32 = .ok (.iconst 0, 1) := by decide +kernel
theorem dX8_holes_33 : decode cX8_holes 33 = .ok (.istore_n 3, 1) := by decide +kernel
theorem dX8_holes_34 : decode cX8_holes 34 = .ok (.iload_n 2, 1) := by decide +kernel
theorem dX8_holes_35 : decode cX8_holes 35 = .ok (.ifCond .eq 22, 3) := by decide +kernel
theorem dX8_holes_38 : decode cX8_holes 38 = .ok (.iload_n 2, 1) := by decide +kernel
theorem dX8_holes_39 : decode cX8_holes 39 = .ok (.iload_n 2, 1) := by decide +kernel
theorem dX8_holes_40 : decode cX8_holes 40 = .ok (.iload_n 2, 1) := by decide +kernel
theorem dX8_holes_41 : decode cX8_holes 41 = .ok (.iload_n 2, 1) := by decide +kernel
theorem dX8_holes_42 : decode cX8_holes 42 = .ok (.ineg, 1) := by decide +kernel
theorem dX8_holes_43 : decode cX8_holes 43 = .ok (.iand, 1) := by decide +kernel
theorem dX8_holes_44 : decode cX8_holes 44 = .ok (.invokestatic 222, 3) := by decide +kernel
theorem dX8_holes_47 : decode cX8_holes 47 = .ok (.iconst (-1), 1) := by decide +kernel
theorem dX8_holes_48 : decode cX8_holes 48 = .ok (.ixor, 1) := by decide +kernel
theorem dX8_holes_49 : decode cX8_holes 49 = .ok (.iand, 1) := by decide +kernel
theorem dX8_holes_50 : decode cX8_holes 50 = .ok (.istore_n 2, 1) := by decide +kernel
theorem dX8_holes_51 : decode cX8_holes 51 = .ok (.iinc 3 1, 3) := by decide +kernel
theorem dX8_holes_54 : decode cX8_holes 54 = .ok (.goto (-20), 3) := by decide +kernel
theorem dX8_holes_57 : decode cX8_holes 57 = .ok (.iload_n 3, 1) := by decide +kernel
theorem dX8_holes_58 : decode cX8_holes 58 = .ok (.ireturn, 1) := by decide +kernel
theorem dX8_frays_0 : decode cX8_frays 0 = .ok (.iconst 0, 1) := by decide +kernel
theorem dX8_frays_1 : decode cX8_frays 1 = .ok (.istore_n 1, 1) := by decide +kernel
theorem dX8_frays_2 : decode cX8_frays 2 = .ok (.iload_n 1, 1) := by decide +kernel
theorem dX8_frays_3 : decode cX8_frays 3 = .ok (.bipush 25, 2) := by decide +kernel
theorem dX8_frays_5 : decode cX8_frays 5 = .ok (.if_icmp .ge 50, 3) := by decide +kernel
theorem dX8_frays_8 : decode cX8_frays 8 = .ok (.iconst 0, 1) := by decide +kernel
theorem dX8_frays_9 : decode cX8_frays 9 = .ok (.istore_n 2, 1) := by decide +kernel
theorem dX8_frays_10 : decode cX8_frays 10 = .ok (.iload_n 2, 1) := by decide +kernel
theorem dX8_frays_11 : decode cX8_frays 11 = .ok (.iconst 4, 1) := by decide +kernel
theorem dX8_frays_12 : decode cX8_frays 12 = .ok (.if_icmp .ge 37, 3) := by decide +kernel
theorem dX8_frays_15 : decode cX8_frays 15 = .ok (.iload_n 0, 1) := by decide +kernel
theorem dX8_frays_16 : decode cX8_frays 16 = .ok (.iload_n 1, 1) := by decide +kernel
theorem dX8_frays_17 : decode cX8_frays 17 = .ok (.invokestatic 123, 3) := by decide +kernel
theorem dX8_frays_20 : decode cX8_frays 20 = .ok (.ifCond .eq 29, 3) := by decide +kernel
theorem dX8_frays_23 : decode cX8_frays 23 = .ok (.iload_n 1, 1) := by decide +kernel
theorem dX8_frays_24 : decode cX8_frays 24 = .ok (.iload_n 2, 1) := by decide +kernel
theorem dX8_frays_25 : decode cX8_frays 25 = .ok (.invokestatic 216, 3) := by decide +kernel
theorem dX8_frays_28 : decode cX8_frays 28 = .ok (.istore_n 3, 1) := by decide +kernel
theorem dX8_frays_29 : decode cX8_frays 29 = .ok (.iload_n 3, 1) := by decide +kernel
theorem dX8_frays_30 : decode cX8_frays 30 = .ok (.ifCond .lt 13, 3) := by decide +kernel
theorem dX8_frays_33 : decode cX8_frays 33 = .ok (.iload_n 0, 1) := by decide +kernel
theorem dX8_frays_34 : decode cX8_frays 34 = .ok (.iload_n 3, 1) := by decide +kernel
theorem dX8_frays_35 : decode cX8_frays 35 = .ok (.invokestatic 123, 3) := by decide +kernel
theorem dX8_frays_38 : decode cX8_frays 38 = .ok (.ifCond .ne 5, 3) := by decide +kernel
theorem dX8_frays_41 : decode cX8_frays 41 = .ok (.iload_n 1, 1) := by decide +kernel
theorem dX8_frays_42 : decode cX8_frays 42 = .ok (.ireturn, 1) := by decide +kernel
theorem dX8_frays_43 : decode cX8_frays 43 = .ok (.iinc 2 1, 3) := by decide +kernel
theorem dX8_frays_46 : decode cX8_frays 46 = .ok (.goto (-36), 3) := by decide +kernel
theorem dX8_frays_49 : decode cX8_frays 49 = .ok (.iinc 1 1, 3) := by decide +kernel
theorem dX8_frays_52 : decode cX8_frays 52 = .ok (.goto (-50), 3) := by decide +kernel
theorem dX8_frays_55 : decode cX8_frays 55 = .ok (.iconst (-1), 1) := by decide +kernel
theorem dX8_frays_56 : decode cX8_frays 56 = .ok (.ireturn, 1) := by decide +kernel
theorem dX8_lasts_0 : decode cX8_lasts 0 = .ok (.aload_n 0, 1) := by decide +kernel
theorem dX8_lasts_1 : decode cX8_lasts 1 = .ok (.iconst 0, 1) := by decide +kernel
theorem dX8_lasts_2 : decode cX8_lasts 2 = .ok (.putfield 3, 3) := by decide +kernel
theorem dX8_lasts_5 : decode cX8_lasts 5 = .ok (.aload_n 0, 1) := by decide +kernel
theorem dX8_lasts_6 : decode cX8_lasts 6 = .ok (.aload_n 0, 1) := by decide +kernel
theorem dX8_lasts_7 : decode cX8_lasts 7 = .ok (.iload_n 1, 1) := by decide +kernel
theorem dX8_lasts_8 : decode cX8_lasts 8 = .ok (.invokevirtual 202, 3) := by decide +kernel
theorem dX8_lasts_11 : decode cX8_lasts 11 = .ok (.iconst 1, 1) := by decide +kernel
theorem dX8_lasts_12 : decode cX8_lasts 12 = .ok (.invokevirtual 194, 3) := by decide +kernel
theorem dX8_lasts_15 : decode cX8_lasts 15 = .ok (.ifCond .eq 5, 3) := by decide +kernel
theorem dX8_lasts_18 : decode cX8_lasts 18 = .ok (.iconst 0, 1) := by decide +kernel
theorem dX8_lasts_19 : decode cX8_lasts 19 = .ok (.ireturn, 1) := by decide +kernel
theorem dX8_lasts_20 : decode cX8_lasts 20 = .ok (.aload_n 0, 1) := by decide +kernel
theorem dX8_lasts_21 : decode cX8_lasts 21 = .ok (.iload_n 1, 1) := by decide +kernel
theorem dX8_lasts_22 : decode cX8_lasts 22 = .ok (.iconst 1, 1) := by decide +kernel
theorem dX8_lasts_23 : decode cX8_lasts 23 = .ok (.invokevirtual 205, 3) := by decide +kernel
theorem dX8_lasts_26 : decode cX8_lasts 26 = .ok (.istore_n 2, 1) := by decide +kernel
theorem dX8_lasts_27 : decode cX8_lasts 27 = .ok (.iconst 0, 1) := by decide +kernel
theorem dX8_lasts_28 : decode cX8_lasts 28 = .ok (.istore_n 3, 1) := by decide +kernel
theorem dX8_lasts_29 : decode cX8_lasts 29 = .ok (.iload_n 2, 1) := by decide +kernel
theorem dX8_lasts_30 : decode cX8_lasts 30 = .ok (.invokestatic 208, 3) := by decide +kernel
theorem dX8_lasts_33 : decode cX8_lasts 33 = .ok (.ifCond .ne 31, 3) := by decide +kernel
theorem dX8_lasts_36 : decode cX8_lasts 36 = .ok (.iload_n 2, 1) := by decide +kernel
theorem dX8_lasts_37 : decode cX8_lasts 37 = .ok (.invokestatic 228, 3) := by decide +kernel
theorem dX8_lasts_40 : decode cX8_lasts 40 = .ok (.istore 4, 2) := by decide +kernel
theorem dX8_lasts_42 : decode cX8_lasts 42 = .ok (.iload 4, 2) := by decide +kernel
theorem dX8_lasts_44 : decode cX8_lasts 44 = .ok (.ifCond .ge 5, 3) := by decide +kernel
theorem dX8_lasts_47 : decode cX8_lasts 47 = .ok (.iconst (-1), 1) := by decide +kernel
theorem dX8_lasts_48 : decode cX8_lasts 48 = .ok (.ireturn, 1) := by decide +kernel
theorem dX8_lasts_49 : decode cX8_lasts 49 = .ok (.iload_n 2, 1) := by decide +kernel
theorem dX8_lasts_50 : decode cX8_lasts 50 = .ok (.iconst 1, 1) := by decide +kernel
theorem dX8_lasts_51 : decode cX8_lasts 51 = .ok (.iload 4, 2) := by decide +kernel
theorem dX8_lasts_53 : decode cX8_lasts 53 = .ok (.ishl, 1) := by decide +kernel
theorem dX8_lasts_54 : decode cX8_lasts 54 = .ok (.iconst (-1), 1) := by decide +kernel
theorem dX8_lasts_55 : decode cX8_lasts 55 = .ok (.ixor, 1) := by decide +kernel
theorem dX8_lasts_56 : decode cX8_lasts 56 = .ok (.iand, 1) := by decide +kernel
theorem dX8_lasts_57 : decode cX8_lasts 57 = .ok (.istore_n 2, 1) := by decide +kernel
theorem dX8_lasts_58 : decode cX8_lasts 58 = .ok (.iinc 3 1, 3) := by decide +kernel
theorem dX8_lasts_61 : decode cX8_lasts 61 = .ok (.goto (-32), 3) := by decide +kernel
theorem dX8_lasts_64 : decode cX8_lasts 64 = .ok (.iload_n 3, 1) := by decide +kernel
theorem dX8_lasts_65 : decode cX8_lasts 65 = .ok (.ireturn, 1) := by decide +kernel
theorem dX8_parts_0 : decode cX8_parts 0 = .ok (.sipush 452, 3) := by decide +kernel
theorem dX8_parts_3 : decode cX8_parts 3 = .ok (.ireturn, 1) := by decide +kernel
theorem dX8_stroked_0 : decode cX8_stroked 0 = .ok (.iload_n 2, 1) := by decide +kernel
theorem dX8_stroked_1 : decode cX8_stroked 1 = .ok (.sipush 450, 3) := by decide +kernel
theorem dX8_stroked_4 : decode cX8_stroked 4 = .ok (.if_icmp .lt 22, 3) := by decide +kernel
theorem dX8_stroked_7 : decode cX8_stroked 7 = .ok (.iload_n 2, 1) := by decide +kernel
theorem dX8_stroked_8 : decode cX8_stroked 8 = .ok (.sipush 450, 3) := by decide +kernel
theorem dX8_stroked_11 : decode cX8_stroked 11 = .ok (.if_icmp .ne 10, 3) := by decide +kernel
theorem dX8_stroked_14 : decode cX8_stroked 14 = .ok (.iload_n 1, 1) := by decide +kernel
theorem dX8_stroked_15 : decode cX8_stroked 15 = .ok (.invokestatic 135, 3) := by decide +kernel
theorem dX8_stroked_18 : decode cX8_stroked 18 = .ok (.goto 7, 3) := by decide +kernel
theorem dX8_stroked_21 : decode cX8_stroked 21 = .ok (.iload_n 1, 1) := by decide +kernel
theorem dX8_stroked_22 : decode cX8_stroked 22 = .ok (.invokestatic 141, 3) := by decide +kernel
theorem dX8_stroked_25 : decode cX8_stroked 25 = .ok (.ireturn, 1) := by decide +kernel
theorem dX8_stroked_26 : decode cX8_stroked 26 = .ok (.aload_n 0, 1) := by decide +kernel
theorem dX8_stroked_27 : decode cX8_stroked 27 = .ok (.getfield 30, 3) := by decide +kernel
theorem dX8_stroked_30 : decode cX8_stroked 30 = .ok (.iload_n 2, 1) := by decide +kernel
theorem dX8_stroked_31 : decode cX8_stroked 31 = .ok (.iconst 2, 1) := by decide +kernel
theorem dX8_stroked_32 : decode cX8_stroked 32 = .ok (.idiv, 1) := by decide +kernel
theorem dX8_stroked_33 : decode cX8_stroked 33 = .ok (.iaload, 1) := by decide +kernel
theorem dX8_stroked_34 : decode cX8_stroked 34 = .ok (.istore_n 3, 1) := by decide +kernel
theorem dX8_stroked_35 : decode cX8_stroked 35 = .ok (.iload_n 2, 1) := by decide +kernel
theorem dX8_stroked_36 : decode cX8_stroked 36 = .ok (.iconst 2, 1) := by decide +kernel
theorem dX8_stroked_37 : decode cX8_stroked 37 = .ok (.irem, 1) := by decide +kernel
theorem dX8_stroked_38 : decode cX8_stroked 38 = .ok (.ifCond .ne 11, 3) := by decide +kernel
theorem dX8_stroked_41 : decode cX8_stroked 41 = .ok (.iload_n 1, 1) := by decide +kernel
theorem dX8_stroked_42 : decode cX8_stroked 42 = .ok (.iload_n 3, 1) := by decide +kernel
theorem dX8_stroked_43 : decode cX8_stroked 43 = .ok (.iconst (-1), 1) := by decide +kernel
theorem dX8_stroked_44 : decode cX8_stroked 44 = .ok (.ixor, 1) := by decide +kernel
theorem dX8_stroked_45 : decode cX8_stroked 45 = .ok (.iand, 1) := by decide +kernel
theorem dX8_stroked_46 : decode cX8_stroked 46 = .ok (.goto 6, 3) := by decide +kernel
theorem dX8_stroked_49 : decode cX8_stroked 49 = .ok (.iload_n 1, 1) := by decide +kernel
theorem dX8_stroked_50 : decode cX8_stroked 50 = .ok (.iload_n 3, 1) := by decide +kernel
theorem dX8_stroked_51 : decode cX8_stroked 51 = .ok (.ior, 1) := by decide +kernel
theorem dX8_stroked_52 : decode cX8_stroked 52 = .ok (.ireturn, 1) := by decide +kernel
theorem dX8_rectangles_0 : decode cX8_rectangles 0 = .ok (.iconst 0, 1) := by decide +kernel
theorem dX8_rectangles_1 : decode cX8_rectangles 1 = .ok (.istore_n 1, 1) := by decide +kernel
theorem dX8_rectangles_2 : decode cX8_rectangles 2 = .ok (.iconst 0, 1) := by decide +kernel
theorem dX8_rectangles_3 : decode cX8_rectangles 3 = .ok (.istore_n 2, 1) := by decide +kernel
theorem dX8_rectangles_4 : decode cX8_rectangles 4 = .ok (.iload_n 2, 1) := by decide +kernel
theorem dX8_rectangles_5 : decode cX8_rectangles 5 = .ok (.iconst 5, 1) := by decide +kernel
theorem dX8_rectangles_6 : decode cX8_rectangles 6 = .ok (.if_icmp .ge 81, 3) := by decide +kernel
theorem dX8_rectangles_9 : decode cX8_rectangles 9 = .ok (.aload_n 0, 1) := by decide +kernel
theorem dX8_rectangles_10 : decode cX8_rectangles 10 = .ok (.getfield 231, 3) := by decide +kernel
theorem dX8_rectangles_13 : decode cX8_rectangles 13 = .ok (.ifCond .ne 74, 3) := by decide +kernel
theorem dX8_rectangles_16 : decode cX8_rectangles 16 = .ok (.iconst 0, 1) := by decide +kernel
theorem dX8_rectangles_17 : decode cX8_rectangles 17 = .ok (.istore_n 3, 1) := by decide +kernel
theorem dX8_rectangles_18 : decode cX8_rectangles 18 = .ok (.iload_n 3, 1) := by decide +kernel
theorem dX8_rectangles_19 : decode cX8_rectangles 19 = .ok (.iconst 5, 1) := by decide +kernel
theorem dX8_rectangles_20 : decode cX8_rectangles 20 = .ok (.if_icmp .ge 61, 3) := by decide +kernel
theorem dX8_rectangles_23 : decode cX8_rectangles 23 = .ok (.iconst 1, 1) := by decide +kernel
theorem dX8_rectangles_24 : decode cX8_rectangles 24 = .ok (.istore 4, 2) := by decide +kernel
theorem dX8_rectangles_26 : decode cX8_rectangles 26 = .ok (.iload_n 2, 1) := by decide +kernel
theorem dX8_rectangles_27 : decode cX8_rectangles 27 = .ok (.iload 4, 2) := by decide +kernel
theorem dX8_rectangles_29 : decode cX8_rectangles 29 = .ok (.iadd, 1) := by decide +kernel
theorem dX8_rectangles_30 : decode cX8_rectangles 30 = .ok (.iconst 5, 1) := by decide +kernel
theorem dX8_rectangles_31 : decode cX8_rectangles 31 = .ok (.if_icmp .gt 44, 3) := by decide +kernel
theorem dX8_rectangles_34 : decode cX8_rectangles 34 = .ok (.iconst 1, 1) := by decide +kernel
theorem dX8_rectangles_35 : decode cX8_rectangles 35 = .ok (.istore 5, 2) := by decide +kernel
theorem dX8_rectangles_37 : decode cX8_rectangles 37 = .ok (.iload_n 3, 1) := by decide +kernel
theorem dX8_rectangles_38 : decode cX8_rectangles 38 = .ok (.iload 5, 2) := by decide +kernel
theorem dX8_rectangles_40 : decode cX8_rectangles 40 = .ok (.iadd, 1) := by decide +kernel
theorem dX8_rectangles_41 : decode cX8_rectangles 41 = .ok (.iconst 5, 1) := by decide +kernel
theorem dX8_rectangles_42 : decode cX8_rectangles 42 = .ok (.if_icmp .gt 27, 3) := by decide +kernel
theorem dX8_rectangles_45 : decode cX8_rectangles 45 = .ok (.aload_n 0, 1) := by decide +kernel
theorem dX8_rectangles_46 : decode cX8_rectangles 46 = .ok (.getfield 30, 3) := by decide +kernel
theorem dX8_rectangles_49 : decode cX8_rectangles 49 = .ok (.iload_n 1, 1) := by decide +kernel
theorem dX8_rectangles_50 : decode cX8_rectangles 50 = .ok (.iload_n 2, 1) := by decide +kernel
theorem dX8_rectangles_51 : decode cX8_rectangles 51 = .ok (.iload_n 3, 1) := by decide +kernel
theorem dX8_rectangles_52 : decode cX8_rectangles 52 = .ok (.iload 4, 2) := by decide +kernel
theorem dX8_rectangles_54 : decode cX8_rectangles 54 = .ok (.iload 5, 2) := by decide +kernel
theorem dX8_rectangles_56 : decode cX8_rectangles 56 = .ok (.invokestatic 152, 3) := by decide +kernel
theorem dX8_rectangles_59 : decode cX8_rectangles 59 = .ok (.iastore, 1) := by decide +kernel
theorem dX8_rectangles_60 : decode cX8_rectangles 60 = .ok (.iinc 1 1, 3) := by decide +kernel
theorem dX8_rectangles_63 : decode cX8_rectangles 63 = .ok (.iinc 5 1, 3) := by decide +kernel
theorem dX8_rectangles_66 : decode cX8_rectangles 66 = .ok (.goto (-29), 3) := by decide +kernel
theorem dX8_rectangles_69 : decode cX8_rectangles 69 = .ok (.iinc 4 1, 3) := by decide +kernel
theorem dX8_rectangles_72 : decode cX8_rectangles 72 = .ok (.goto (-46), 3) := by decide +kernel
theorem dX8_rectangles_75 : decode cX8_rectangles 75 = .ok (.iinc 3 1, 3) := by decide +kernel
theorem dX8_rectangles_78 : decode cX8_rectangles 78 = .ok (.goto (-60), 3) := by decide +kernel
theorem dX8_rectangles_81 : decode cX8_rectangles 81 = .ok (.iinc 2 1, 3) := by decide +kernel
theorem dX8_rectangles_84 : decode cX8_rectangles 84 = .ok (.goto (-80), 3) := by decide +kernel
theorem dX8_rectangles_87 : decode cX8_rectangles 87 = .ok (.aload_n 0, 1) := by decide +kernel
theorem dX8_rectangles_88 : decode cX8_rectangles 88 = .ok (.iconst 1, 1) := by decide +kernel
theorem dX8_rectangles_89 : decode cX8_rectangles 89 = .ok (.putfield 231, 3) := by decide +kernel
theorem dX8_rectangles_92 : decode cX8_rectangles 92 = .ok (.return_, 1) := by decide +kernel
theorem dX8_shaped_0 : decode cX8_shaped 0 = .ok (.aload_n 0, 1) := by decide +kernel
theorem dX8_shaped_1 : decode cX8_shaped 1 = .ok (.iconst 0, 1) := by decide +kernel
theorem dX8_shaped_2 : decode cX8_shaped 2 = .ok (.putfield 3, 3) := by decide +kernel
theorem dX8_shaped_5 : decode cX8_shaped 5 = .ok (.aload_n 0, 1) := by decide +kernel
theorem dX8_shaped_6 : decode cX8_shaped 6 = .ok (.aload_n 0, 1) := by decide +kernel
theorem dX8_shaped_7 : decode cX8_shaped 7 = .ok (.iload_n 1, 1) := by decide +kernel
theorem dX8_shaped_8 : decode cX8_shaped 8 = .ok (.invokevirtual 202, 3) := by decide +kernel
theorem dX8_shaped_11 : decode cX8_shaped 11 = .ok (.iconst 1, 1) := by decide +kernel
theorem dX8_shaped_12 : decode cX8_shaped 12 = .ok (.invokevirtual 194, 3) := by decide +kernel
theorem dX8_shaped_15 : decode cX8_shaped 15 = .ok (.ifCond .ne 26, 3) := by decide +kernel
theorem dX8_shaped_18 : decode cX8_shaped 18 = .ok (.aload_n 0, 1) := by decide +kernel
theorem dX8_shaped_19 : decode cX8_shaped 19 = .ok (.iload_n 2, 1) := by decide +kernel
theorem dX8_shaped_20 : decode cX8_shaped 20 = .ok (.iconst 0, 1) := by decide +kernel
theorem dX8_shaped_21 : decode cX8_shaped 21 = .ok (.ldc 190, 2) := by decide +kernel
theorem dX8_shaped_23 : decode cX8_shaped 23 = .ok (.invokestatic 72, 3) := by decide +kernel
theorem dX8_shaped_26 : decode cX8_shaped 26 = .ok (.ifCond .ne 7, 3) := by decide +kernel
theorem dX8_shaped_29 : decode cX8_shaped 29 = .ok (.iconst 1, 1) := by decide +kernel
theorem dX8_shaped_30 : decode cX8_shaped 30 = .ok (.goto 4, 3) := by decide +kernel
theorem dX8_shaped_33 : decode cX8_shaped 33 = .ok (.iconst 0, 1) := by decide +kernel
theorem dX8_shaped_34 : decode cX8_shaped 34 = .ok (.iconst 2, 1) := by decide +kernel
theorem dX8_shaped_35 : decode cX8_shaped 35 = .ok (.invokevirtual 194, 3) := by decide +kernel
theorem dX8_shaped_38 : decode cX8_shaped 38 = .ok (.ifCond .eq 5, 3) := by decide +kernel
theorem dX8_shaped_41 : decode cX8_shaped 41 = .ok (.iconst 0, 1) := by decide +kernel
theorem dX8_shaped_42 : decode cX8_shaped 42 = .ok (.ireturn, 1) := by decide +kernel
theorem dX8_shaped_43 : decode cX8_shaped 43 = .ok (.aload_n 0, 1) := by decide +kernel
theorem dX8_shaped_44 : decode cX8_shaped 44 = .ok (.invokevirtual 234, 3) := by decide +kernel
theorem dX8_shaped_47 : decode cX8_shaped 47 = .ok (.aload_n 0, 1) := by decide +kernel
theorem dX8_shaped_48 : decode cX8_shaped 48 = .ok (.iload_n 1, 1) := by decide +kernel
theorem dX8_shaped_49 : decode cX8_shaped 49 = .ok (.iconst 1, 1) := by decide +kernel
theorem dX8_shaped_50 : decode cX8_shaped 50 = .ok (.invokevirtual 205, 3) := by decide +kernel
theorem dX8_shaped_53 : decode cX8_shaped 53 = .ok (.istore_n 3, 1) := by decide +kernel
theorem dX8_shaped_54 : decode cX8_shaped 54 = .ok (.iload_n 3, 1) := by decide +kernel
theorem dX8_shaped_55 : decode cX8_shaped 55 = .ok (.iload_n 2, 1) := by decide +kernel
theorem dX8_shaped_56 : decode cX8_shaped 56 = .ok (.if_icmp .ne 5, 3) := by decide +kernel
theorem dX8_shaped_59 : decode cX8_shaped 59 = .ok (.iconst 0, 1) := by decide +kernel
theorem dX8_shaped_60 : decode cX8_shaped 60 = .ok (.ireturn, 1) := by decide +kernel
theorem dX8_shaped_61 : decode cX8_shaped 61 = .ok (.iconst 0, 1) := by decide +kernel
theorem dX8_shaped_62 : decode cX8_shaped 62 = .ok (.istore 4, 2) := by decide +kernel
theorem dX8_shaped_64 : decode cX8_shaped 64 = .ok (.iload 4, 2) := by decide +kernel
theorem dX8_shaped_66 : decode cX8_shaped 66 = .ok (.invokestatic 237, 3) := by decide +kernel
theorem dX8_shaped_69 : decode cX8_shaped 69 = .ok (.if_icmp .ge 22, 3) := by decide +kernel
theorem dX8_shaped_72 : decode cX8_shaped 72 = .ok (.aload_n 0, 1) := by decide +kernel
theorem dX8_shaped_73 : decode cX8_shaped 73 = .ok (.iload_n 3, 1) := by decide +kernel
theorem dX8_shaped_74 : decode cX8_shaped 74 = .ok (.iload 4, 2) := by decide +kernel
theorem dX8_shaped_76 : decode cX8_shaped 76 = .ok (.invokevirtual 240, 3) := by decide +kernel
theorem dX8_shaped_79 : decode cX8_shaped 79 = .ok (.iload_n 2, 1) := by decide +kernel
theorem dX8_shaped_80 : decode cX8_shaped 80 = .ok (.if_icmp .ne 5, 3) := by decide +kernel
theorem dX8_shaped_83 : decode cX8_shaped 83 = .ok (.iconst 1, 1) := by decide +kernel
theorem dX8_shaped_84 : decode cX8_shaped 84 = .ok (.ireturn, 1) := by decide +kernel
theorem dX8_shaped_85 : decode cX8_shaped 85 = .ok (.iinc 4 1, 3) := by decide +kernel
theorem dX8_shaped_88 : decode cX8_shaped 88 = .ok (.goto (-24), 3) := by decide +kernel
theorem dX8_shaped_91 : decode cX8_shaped 91 = .ok (.iconst 0, 1) := by decide +kernel
theorem dX8_shaped_92 : decode cX8_shaped 92 = .ok (.istore 4, 2) := by decide +kernel
theorem dX8_shaped_94 : decode cX8_shaped 94 = .ok (.iload 4, 2) := by decide +kernel
theorem dX8_shaped_96 : decode cX8_shaped 96 = .ok (.invokestatic 237, 3) := by decide +kernel
theorem dX8_shaped_99 : decode cX8_shaped 99 = .ok (.if_icmp .ge 49, 3) := by decide +kernel
theorem dX8_shaped_102 : decode cX8_shaped 102 = .ok (.aload_n 0, 1) := by decide +kernel
theorem dX8_shaped_103 : decode cX8_shaped 103 = .ok (.iload_n 3, 1) := by decide +kernel
theorem dX8_shaped_104 : decode cX8_shaped 104 = .ok (.iload 4, 2) := by decide +kernel
theorem dX8_shaped_106 : decode cX8_shaped 106 = .ok (.invokevirtual 240, 3) := by decide +kernel
theorem dX8_shaped_109 : decode cX8_shaped 109 = .ok (.istore 5, 2) := by decide +kernel
theorem dX8_shaped_111 : decode cX8_shaped 111 = .ok (.iconst 0, 1) := by decide +kernel
theorem dX8_shaped_112 : decode cX8_shaped 112 = .ok (.istore 6, 2) := by decide +kernel
theorem dX8_shaped_114 : decode cX8_shaped 114 = .ok (.iload 6, 2) := by decide +kernel
theorem dX8_shaped_116 : decode cX8_shaped 116 = .ok (.invokestatic 237, 3) := by decide +kernel
theorem dX8_shaped_119 : decode cX8_shaped 119 = .ok (.if_icmp .ge 23, 3) := by decide +kernel
theorem dX8_shaped_122 : decode cX8_shaped 122 = .ok (.aload_n 0, 1) := by decide +kernel
theorem dX8_shaped_123 : decode cX8_shaped 123 = .ok (.iload 5, 2) := by decide +kernel
theorem dX8_shaped_125 : decode cX8_shaped 125 = .ok (.iload 6, 2) := by decide +kernel
theorem dX8_shaped_127 : decode cX8_shaped 127 = .ok (.invokevirtual 240, 3) := by decide +kernel
theorem dX8_shaped_130 : decode cX8_shaped 130 = .ok (.iload_n 2, 1) := by decide +kernel
theorem dX8_shaped_131 : decode cX8_shaped 131 = .ok (.if_icmp .ne 5, 3) := by decide +kernel
theorem dX8_shaped_134 : decode cX8_shaped 134 = .ok (.iconst 2, 1) := by decide +kernel
theorem dX8_shaped_135 : decode cX8_shaped 135 = .ok (.ireturn, 1) := by decide +kernel
theorem dX8_shaped_136 : decode cX8_shaped 136 = .ok (.iinc 6 1, 3) := by decide +kernel
theorem dX8_shaped_139 : decode cX8_shaped 139 = .ok (.goto (-25), 3) := by decide +kernel
theorem dX8_shaped_142 : decode cX8_shaped 142 = .ok (.iinc 4 1, 3) := by decide +kernel
theorem dX8_shaped_145 : decode cX8_shaped 145 = .ok (.goto (-51), 3) := by decide +kernel
theorem dX8_shaped_148 : decode cX8_shaped 148 = .ok (.iconst (-1), 1) := by decide +kernel
theorem dX8_shaped_149 : decode cX8_shaped 149 = .ok (.ireturn, 1) := by decide +kernel
theorem dX8_slot_0 : decode cX8_slot 0 = .ok (.aload_n 0, 1) := by decide +kernel
theorem dX8_slot_1 : decode cX8_slot 1 = .ok (.iconst 0, 1) := by decide +kernel
theorem dX8_slot_2 : decode cX8_slot 2 = .ok (.putfield 3, 3) := by decide +kernel
theorem dX8_slot_5 : decode cX8_slot 5 = .ok (.aload_n 0, 1) := by decide +kernel
theorem dX8_slot_6 : decode cX8_slot 6 = .ok (.iload_n 1, 1) := by decide +kernel
theorem dX8_slot_7 : decode cX8_slot 7 = .ok (.iconst 1, 1) := by decide +kernel
theorem dX8_slot_8 : decode cX8_slot 8 = .ok (.iconst 3, 1) := by decide +kernel
theorem dX8_slot_9 : decode cX8_slot 9 = .ok (.invokestatic 72, 3) := by decide +kernel
theorem dX8_slot_12 : decode cX8_slot 12 = .ok (.ifCond .eq 25, 3) := by decide +kernel
theorem dX8_slot_15 : decode cX8_slot 15 = .ok (.iload_n 2, 1) := by decide +kernel
theorem dX8_slot_16 : decode cX8_slot 16 = .ok (.bipush (-12), 2) := by decide +kernel
theorem dX8_slot_18 : decode cX8_slot 18 = .ok (.bipush 12, 2) := by decide +kernel
theorem dX8_slot_20 : decode cX8_slot 20 = .ok (.invokestatic 72, 3) := by decide +kernel
theorem dX8_slot_23 : decode cX8_slot 23 = .ok (.ifCond .eq 14, 3) := by decide +kernel
theorem dX8_slot_26 : decode cX8_slot 26 = .ok (.iload_n 3, 1) := by decide +kernel
theorem dX8_slot_27 : decode cX8_slot 27 = .ok (.bipush (-12), 2) := by decide +kernel
theorem dX8_slot_29 : decode cX8_slot 29 = .ok (.bipush 12, 2) := by decide +kernel
theorem dX8_slot_31 : decode cX8_slot 31 = .ok (.invokestatic 72, 3) := by decide +kernel
theorem dX8_slot_34 : decode cX8_slot 34 = .ok (.ifCond .ne 7, 3) := by decide +kernel
theorem dX8_slot_37 : decode cX8_slot 37 = .ok (.iconst 1, 1) := by decide +kernel
theorem dX8_slot_38 : decode cX8_slot 38 = .ok (.goto 4, 3) := by decide +kernel
theorem dX8_slot_41 : decode cX8_slot 41 = .ok (.iconst 0, 1) := by decide +kernel
theorem dX8_slot_42 : decode cX8_slot 42 = .ok (.iconst 1, 1) := by decide +kernel
theorem dX8_slot_43 : decode cX8_slot 43 = .ok (.invokevirtual 194, 3) := by decide +kernel
theorem dX8_slot_46 : decode cX8_slot 46 = .ok (.ifCond .ne 24, 3) := by decide +kernel
theorem dX8_slot_49 : decode cX8_slot 49 = .ok (.aload_n 0, 1) := by decide +kernel
theorem dX8_slot_50 : decode cX8_slot 50 = .ok (.aload_n 0, 1) := by decide +kernel
theorem dX8_slot_51 : decode cX8_slot 51 = .ok (.invokevirtual 76, 3) := by decide +kernel
theorem dX8_slot_54 : decode cX8_slot 54 = .ok (.iconst 4, 1) := by decide +kernel
theorem dX8_slot_55 : decode cX8_slot 55 = .ok (.if_icmp .ne 7, 3) := by decide +kernel
theorem dX8_slot_58 : decode cX8_slot 58 = .ok (.iconst 1, 1) := by decide +kernel
theorem dX8_slot_59 : decode cX8_slot 59 = .ok (.goto 4, 3) := by decide +kernel
theorem dX8_slot_62 : decode cX8_slot 62 = .ok (.iconst 0, 1) := by decide +kernel
theorem dX8_slot_63 : decode cX8_slot 63 = .ok (.iconst 2, 1) := by decide +kernel
theorem dX8_slot_64 : decode cX8_slot 64 = .ok (.invokevirtual 194, 3) := by decide +kernel
theorem dX8_slot_67 : decode cX8_slot 67 = .ok (.ifCond .eq 5, 3) := by decide +kernel
theorem dX8_slot_70 : decode cX8_slot 70 = .ok (.iconst 0, 1) := by decide +kernel
theorem dX8_slot_71 : decode cX8_slot 71 = .ok (.ireturn, 1) := by decide +kernel
theorem dX8_slot_72 : decode cX8_slot 72 = .ok (.bipush 32, 2) := by decide +kernel
theorem dX8_slot_74 : decode cX8_slot 74 = .ok (.iconst 3, 1) := by decide +kernel
theorem dX8_slot_75 : decode cX8_slot 75 = .ok (.aload_n 0, 1) := by decide +kernel
theorem dX8_slot_76 : decode cX8_slot 76 = .ok (.invokevirtual 76, 3) := by decide +kernel
theorem dX8_slot_79 : decode cX8_slot 79 = .ok (.imul, 1) := by decide +kernel
theorem dX8_slot_80 : decode cX8_slot 80 = .ok (.iadd, 1) := by decide +kernel
theorem dX8_slot_81 : decode cX8_slot 81 = .ok (.istore 4, 2) := by decide +kernel
theorem dX8_slot_83 : decode cX8_slot 83 = .ok (.aload_n 0, 1) := by decide +kernel
theorem dX8_slot_84 : decode cX8_slot 84 = .ok (.getfield 13, 3) := by decide +kernel
theorem dX8_slot_87 : decode cX8_slot 87 = .ok (.iload 4, 2) := by decide +kernel
theorem dX8_slot_89 : decode cX8_slot 89 = .ok (.iload_n 1, 1) := by decide +kernel
theorem dX8_slot_90 : decode cX8_slot 90 = .ok (.iastore, 1) := by decide +kernel
theorem dX8_slot_91 : decode cX8_slot 91 = .ok (.aload_n 0, 1) := by decide +kernel
theorem dX8_slot_92 : decode cX8_slot 92 = .ok (.getfield 13, 3) := by decide +kernel
theorem dX8_slot_95 : decode cX8_slot 95 = .ok (.iload 4, 2) := by decide +kernel
theorem dX8_slot_97 : decode cX8_slot 97 = .ok (.iconst 1, 1) := by decide +kernel
theorem dX8_slot_98 : decode cX8_slot 98 = .ok (.iadd, 1) := by decide +kernel
theorem dX8_slot_99 : decode cX8_slot 99 = .ok (.iload_n 2, 1) := by decide +kernel
theorem dX8_slot_100 : decode cX8_slot 100 = .ok (.iastore, 1) := by decide +kernel
theorem dX8_slot_101 : decode cX8_slot 101 = .ok (.aload_n 0, 1) := by decide +kernel
theorem dX8_slot_102 : decode cX8_slot 102 = .ok (.getfield 13, 3) := by decide +kernel
theorem dX8_slot_105 : decode cX8_slot 105 = .ok (.iload 4, 2) := by decide +kernel
theorem dX8_slot_107 : decode cX8_slot 107 = .ok (.iconst 2, 1) := by decide +kernel
theorem dX8_slot_108 : decode cX8_slot 108 = .ok (.iadd, 1) := by decide +kernel
theorem dX8_slot_109 : decode cX8_slot 109 = .ok (.iload_n 3, 1) := by decide +kernel
theorem dX8_slot_110 : decode cX8_slot 110 = .ok (.iastore, 1) := by decide +kernel
theorem dX8_slot_111 : decode cX8_slot 111 = .ok (.aload_n 0, 1) := by decide +kernel
theorem dX8_slot_112 : decode cX8_slot 112 = .ok (.getfield 13, 3) := by decide +kernel
theorem dX8_slot_115 : decode cX8_slot 115 = .ok (.iconst 1, 1) := by decide +kernel
theorem dX8_slot_116 : decode cX8_slot 116 = .ok (.dup2, 1) := by decide +kernel
theorem dX8_slot_117 : decode cX8_slot 117 = .ok (.iaload, 1) := by decide +kernel
theorem dX8_slot_118 : decode cX8_slot 118 = .ok (.iconst 1, 1) := by decide +kernel
theorem dX8_slot_119 : decode cX8_slot 119 = .ok (.iadd, 1) := by decide +kernel
theorem dX8_slot_120 : decode cX8_slot 120 = .ok (.iastore, 1) := by decide +kernel
theorem dX8_slot_121 : decode cX8_slot 121 = .ok (.aload_n 0, 1) := by decide +kernel
theorem dX8_slot_122 : decode cX8_slot 122 = .ok (.invokevirtual 76, 3) := by decide +kernel
theorem dX8_slot_125 : decode cX8_slot 125 = .ok (.iconst 1, 1) := by decide +kernel
theorem dX8_slot_126 : decode cX8_slot 126 = .ok (.isub, 1) := by decide +kernel
theorem dX8_slot_127 : decode cX8_slot 127 = .ok (.ireturn, 1) := by decide +kernel
theorem dX8_lamp_0 : decode cX8_lamp 0 = .ok (.aload_n 0, 1) := by decide +kernel
theorem dX8_lamp_1 : decode cX8_lamp 1 = .ok (.iconst 0, 1) := by decide +kernel
theorem dX8_lamp_2 : decode cX8_lamp 2 = .ok (.putfield 3, 3) := by decide +kernel
theorem dX8_lamp_5 : decode cX8_lamp 5 = .ok (.aload_n 0, 1) := by decide +kernel
theorem dX8_lamp_6 : decode cX8_lamp 6 = .ok (.iload_n 1, 1) := by decide +kernel
theorem dX8_lamp_7 : decode cX8_lamp 7 = .ok (.iconst 0, 1) := by decide +kernel
theorem dX8_lamp_8 : decode cX8_lamp 8 = .ok (.iconst 1, 1) := by decide +kernel
theorem dX8_lamp_9 : decode cX8_lamp 9 = .ok (.invokestatic 72, 3) := by decide +kernel
theorem dX8_lamp_12 : decode cX8_lamp 12 = .ok (.ifCond .ne 7, 3) := by decide +kernel
theorem dX8_lamp_15 : decode cX8_lamp 15 = .ok (.iconst 1, 1) := by decide +kernel
theorem dX8_lamp_16 : decode cX8_lamp 16 = .ok (.goto 4, 3) := by decide +kernel
theorem dX8_lamp_19 : decode cX8_lamp 19 = .ok (.iconst 0, 1) := by decide +kernel
theorem dX8_lamp_20 : decode cX8_lamp 20 = .ok (.iconst 1, 1) := by decide +kernel
theorem dX8_lamp_21 : decode cX8_lamp 21 = .ok (.invokevirtual 194, 3) := by decide +kernel
theorem dX8_lamp_24 : decode cX8_lamp 24 = .ok (.ifCond .eq 5, 3) := by decide +kernel
theorem dX8_lamp_27 : decode cX8_lamp 27 = .ok (.iconst 0, 1) := by decide +kernel
theorem dX8_lamp_28 : decode cX8_lamp 28 = .ok (.ireturn, 1) := by decide +kernel
theorem dX8_lamp_29 : decode cX8_lamp 29 = .ok (.aload_n 0, 1) := by decide +kernel
theorem dX8_lamp_30 : decode cX8_lamp 30 = .ok (.getfield 13, 3) := by decide +kernel
theorem dX8_lamp_33 : decode cX8_lamp 33 = .ok (.iconst 5, 1) := by decide +kernel
theorem dX8_lamp_34 : decode cX8_lamp 34 = .ok (.iaload, 1) := by decide +kernel
theorem dX8_lamp_35 : decode cX8_lamp 35 = .ok (.istore_n 2, 1) := by decide +kernel
theorem dX8_lamp_36 : decode cX8_lamp 36 = .ok (.aload_n 0, 1) := by decide +kernel
theorem dX8_lamp_37 : decode cX8_lamp 37 = .ok (.getfield 13, 3) := by decide +kernel
theorem dX8_lamp_40 : decode cX8_lamp 40 = .ok (.iconst 5, 1) := by decide +kernel
theorem dX8_lamp_41 : decode cX8_lamp 41 = .ok (.iload_n 1, 1) := by decide +kernel
theorem dX8_lamp_42 : decode cX8_lamp 42 = .ok (.iastore, 1) := by decide +kernel
theorem dX8_lamp_43 : decode cX8_lamp 43 = .ok (.iload_n 2, 1) := by decide +kernel
theorem dX8_lamp_44 : decode cX8_lamp 44 = .ok (.ireturn, 1) := by decide +kernel
theorem dX8_hands_0 : decode cX8_hands 0 = .ok (.aload_n 0, 1) := by decide +kernel
theorem dX8_hands_1 : decode cX8_hands 1 = .ok (.iconst 0, 1) := by decide +kernel
theorem dX8_hands_2 : decode cX8_hands 2 = .ok (.putfield 3, 3) := by decide +kernel
theorem dX8_hands_5 : decode cX8_hands 5 = .ok (.aload_n 0, 1) := by decide +kernel
theorem dX8_hands_6 : decode cX8_hands 6 = .ok (.iload_n 1, 1) := by decide +kernel
theorem dX8_hands_7 : decode cX8_hands 7 = .ok (.iconst 1, 1) := by decide +kernel
theorem dX8_hands_8 : decode cX8_hands 8 = .ok (.iconst 2, 1) := by decide +kernel
theorem dX8_hands_9 : decode cX8_hands 9 = .ok (.invokestatic 72, 3) := by decide +kernel
theorem dX8_hands_12 : decode cX8_hands 12 = .ok (.ifCond .ne 7, 3) := by decide +kernel
theorem dX8_hands_15 : decode cX8_hands 15 = .ok (.iconst 1, 1) := by decide +kernel
theorem dX8_hands_16 : decode cX8_hands 16 = .ok (.goto 4, 3) := by decide +kernel
theorem dX8_hands_19 : decode cX8_hands 19 = .ok (.iconst 0, 1) := by decide +kernel
theorem dX8_hands_20 : decode cX8_hands 20 = .ok (.iconst 1, 1) := by decide +kernel
theorem dX8_hands_21 : decode cX8_hands 21 = .ok (.invokevirtual 194, 3) := by decide +kernel
theorem dX8_hands_24 : decode cX8_hands 24 = .ok (.ifCond .eq 5, 3) := by decide +kernel
theorem dX8_hands_27 : decode cX8_hands 27 = .ok (.iconst 0, 1) := by decide +kernel
theorem dX8_hands_28 : decode cX8_hands 28 = .ok (.ireturn, 1) := by decide +kernel
theorem dX8_hands_29 : decode cX8_hands 29 = .ok (.aload_n 0, 1) := by decide +kernel
theorem dX8_hands_30 : decode cX8_hands 30 = .ok (.getfield 13, 3) := by decide +kernel
theorem dX8_hands_33 : decode cX8_hands 33 = .ok (.bipush 6, 2) := by decide +kernel
theorem dX8_hands_35 : decode cX8_hands 35 = .ok (.iaload, 1) := by decide +kernel
theorem dX8_hands_36 : decode cX8_hands 36 = .ok (.istore_n 2, 1) := by decide +kernel
theorem dX8_hands_37 : decode cX8_hands 37 = .ok (.aload_n 0, 1) := by decide +kernel
theorem dX8_hands_38 : decode cX8_hands 38 = .ok (.getfield 13, 3) := by decide +kernel
theorem dX8_hands_41 : decode cX8_hands 41 = .ok (.bipush 6, 2) := by decide +kernel
theorem dX8_hands_43 : decode cX8_hands 43 = .ok (.iload_n 1, 1) := by decide +kernel
theorem dX8_hands_44 : decode cX8_hands 44 = .ok (.iastore, 1) := by decide +kernel
theorem dX8_hands_45 : decode cX8_hands 45 = .ok (.iload_n 2, 1) := by decide +kernel
theorem dX8_hands_46 : decode cX8_hands 46 = .ok (.ireturn, 1) := by decide +kernel
theorem dX8_slotOf_0 : decode cX8_slotOf 0 = .ok (.iconst 0, 1) := by decide +kernel
theorem dX8_slotOf_1 : decode cX8_slotOf 1 = .ok (.istore_n 2, 1) := by decide +kernel
theorem dX8_slotOf_2 : decode cX8_slotOf 2 = .ok (.iload_n 2, 1) := by decide +kernel
theorem dX8_slotOf_3 : decode cX8_slotOf 3 = .ok (.aload_n 0, 1) := by decide +kernel
theorem dX8_slotOf_4 : decode cX8_slotOf 4 = .ok (.invokevirtual 76, 3) := by decide +kernel
theorem dX8_slotOf_7 : decode cX8_slotOf 7 = .ok (.if_icmp .ge 20, 3) := by decide +kernel
theorem dX8_slotOf_10 : decode cX8_slotOf 10 = .ok (.aload_n 0, 1) := by decide +kernel
theorem dX8_slotOf_11 : decode cX8_slotOf 11 = .ok (.iload_n 2, 1) := by decide +kernel
theorem dX8_slotOf_12 : decode cX8_slotOf 12 = .ok (.invokevirtual 243, 3) := by decide +kernel
theorem dX8_slotOf_15 : decode cX8_slotOf 15 = .ok (.iload_n 1, 1) := by decide +kernel
theorem dX8_slotOf_16 : decode cX8_slotOf 16 = .ok (.if_icmp .ne 5, 3) := by decide +kernel
theorem dX8_slotOf_19 : decode cX8_slotOf 19 = .ok (.iload_n 2, 1) := by decide +kernel
theorem dX8_slotOf_20 : decode cX8_slotOf 20 = .ok (.ireturn, 1) := by decide +kernel
theorem dX8_slotOf_21 : decode cX8_slotOf 21 = .ok (.iinc 2 1, 3) := by decide +kernel
theorem dX8_slotOf_24 : decode cX8_slotOf 24 = .ok (.goto (-22), 3) := by decide +kernel
theorem dX8_slotOf_27 : decode cX8_slotOf 27 = .ok (.iconst (-1), 1) := by decide +kernel
theorem dX8_slotOf_28 : decode cX8_slotOf 28 = .ok (.ireturn, 1) := by decide +kernel
theorem dX8_put_0 : decode cX8_put 0 = .ok (.aload_n 0, 1) := by decide +kernel
theorem dX8_put_1 : decode cX8_put 1 = .ok (.iconst 0, 1) := by decide +kernel
theorem dX8_put_2 : decode cX8_put 2 = .ok (.putfield 3, 3) := by decide +kernel
theorem dX8_put_5 : decode cX8_put 5 = .ok (.aload_n 0, 1) := by decide +kernel
theorem dX8_put_6 : decode cX8_put 6 = .ok (.aload_n 0, 1) := by decide +kernel
theorem dX8_put_7 : decode cX8_put 7 = .ok (.iload_n 1, 1) := by decide +kernel
theorem dX8_put_8 : decode cX8_put 8 = .ok (.invokevirtual 246, 3) := by decide +kernel
theorem dX8_put_11 : decode cX8_put 11 = .ok (.ifCond .ne 16, 3) := by decide +kernel
theorem dX8_put_14 : decode cX8_put 14 = .ok (.iload_n 2, 1) := by decide +kernel
theorem dX8_put_15 : decode cX8_put 15 = .ok (.iconst (-1), 1) := by decide +kernel
theorem dX8_put_16 : decode cX8_put 16 = .ok (.if_icmp .eq 15, 3) := by decide +kernel
theorem dX8_put_19 : decode cX8_put 19 = .ok (.aload_n 0, 1) := by decide +kernel
theorem dX8_put_20 : decode cX8_put 20 = .ok (.iload_n 2, 1) := by decide +kernel
theorem dX8_put_21 : decode cX8_put 21 = .ok (.invokevirtual 202, 3) := by decide +kernel
theorem dX8_put_24 : decode cX8_put 24 = .ok (.ifCond .eq 7, 3) := by decide +kernel
theorem dX8_put_27 : decode cX8_put 27 = .ok (.iconst 1, 1) := by decide +kernel
theorem dX8_put_28 : decode cX8_put 28 = .ok (.goto 4, 3) := by decide +kernel
theorem dX8_put_31 : decode cX8_put 31 = .ok (.iconst 0, 1) := by decide +kernel
theorem dX8_put_32 : decode cX8_put 32 = .ok (.iconst 1, 1) := by decide +kernel
theorem dX8_put_33 : decode cX8_put 33 = .ok (.invokevirtual 194, 3) := by decide +kernel
theorem dX8_put_36 : decode cX8_put 36 = .ok (.ifCond .eq 5, 3) := by decide +kernel
theorem dX8_put_39 : decode cX8_put 39 = .ok (.iconst 0, 1) := by decide +kernel
theorem dX8_put_40 : decode cX8_put 40 = .ok (.ireturn, 1) := by decide +kernel
theorem dX8_put_41 : decode cX8_put 41 = .ok (.aload_n 0, 1) := by decide +kernel
theorem dX8_put_42 : decode cX8_put 42 = .ok (.iload_n 1, 1) := by decide +kernel
theorem dX8_put_43 : decode cX8_put 43 = .ok (.invokevirtual 243, 3) := by decide +kernel
theorem dX8_put_46 : decode cX8_put 46 = .ok (.istore_n 3, 1) := by decide +kernel
theorem dX8_put_47 : decode cX8_put 47 = .ok (.iload_n 2, 1) := by decide +kernel
theorem dX8_put_48 : decode cX8_put 48 = .ok (.iconst (-1), 1) := by decide +kernel
theorem dX8_put_49 : decode cX8_put 49 = .ok (.if_icmp .eq 25, 3) := by decide +kernel
theorem dX8_put_52 : decode cX8_put 52 = .ok (.aload_n 0, 1) := by decide +kernel
theorem dX8_put_53 : decode cX8_put 53 = .ok (.iload_n 2, 1) := by decide +kernel
theorem dX8_put_54 : decode cX8_put 54 = .ok (.invokevirtual 249, 3) := by decide +kernel
theorem dX8_put_57 : decode cX8_put 57 = .ok (.ifCond .lt 17, 3) := by decide +kernel
theorem dX8_put_60 : decode cX8_put 60 = .ok (.aload_n 0, 1) := by decide +kernel
theorem dX8_put_61 : decode cX8_put 61 = .ok (.getfield 13, 3) := by decide +kernel
theorem dX8_put_64 : decode cX8_put 64 = .ok (.bipush 44, 2) := by decide +kernel
theorem dX8_put_66 : decode cX8_put 66 = .ok (.aload_n 0, 1) := by decide +kernel
theorem dX8_put_67 : decode cX8_put 67 = .ok (.iload_n 2, 1) := by decide +kernel
theorem dX8_put_68 : decode cX8_put 68 = .ok (.invokevirtual 249, 3) := by decide +kernel
theorem dX8_put_71 : decode cX8_put 71 = .ok (.iadd, 1) := by decide +kernel
theorem dX8_put_72 : decode cX8_put 72 = .ok (.iconst (-1), 1) := by decide +kernel
theorem dX8_put_73 : decode cX8_put 73 = .ok (.iastore, 1) := by decide +kernel
theorem dX8_put_74 : decode cX8_put 74 = .ok (.aload_n 0, 1) := by decide +kernel
theorem dX8_put_75 : decode cX8_put 75 = .ok (.getfield 13, 3) := by decide +kernel
theorem dX8_put_78 : decode cX8_put 78 = .ok (.bipush 44, 2) := by decide +kernel
theorem dX8_put_80 : decode cX8_put 80 = .ok (.iload_n 1, 1) := by decide +kernel
theorem dX8_put_81 : decode cX8_put 81 = .ok (.iadd, 1) := by decide +kernel
theorem dX8_put_82 : decode cX8_put 82 = .ok (.iload_n 2, 1) := by decide +kernel
theorem dX8_put_83 : decode cX8_put 83 = .ok (.iastore, 1) := by decide +kernel
theorem dX8_put_84 : decode cX8_put 84 = .ok (.iload_n 3, 1) := by decide +kernel
theorem dX8_put_85 : decode cX8_put 85 = .ok (.ireturn, 1) := by decide +kernel
theorem dX8_in_0 : decode cX8_in 0 = .ok (.aload_n 0, 1) := by decide +kernel
theorem dX8_in_1 : decode cX8_in 1 = .ok (.iconst 0, 1) := by decide +kernel
theorem dX8_in_2 : decode cX8_in 2 = .ok (.putfield 3, 3) := by decide +kernel
theorem dX8_in_5 : decode cX8_in 5 = .ok (.aload_n 0, 1) := by decide +kernel
theorem dX8_in_6 : decode cX8_in 6 = .ok (.aload_n 0, 1) := by decide +kernel
theorem dX8_in_7 : decode cX8_in 7 = .ok (.iload_n 1, 1) := by decide +kernel
theorem dX8_in_8 : decode cX8_in 8 = .ok (.invokevirtual 246, 3) := by decide +kernel
theorem dX8_in_11 : decode cX8_in 11 = .ok (.iconst 1, 1) := by decide +kernel
theorem dX8_in_12 : decode cX8_in 12 = .ok (.invokevirtual 194, 3) := by decide +kernel
theorem dX8_in_15 : decode cX8_in 15 = .ok (.ifCond .eq 7, 3) := by decide +kernel
theorem dX8_in_18 : decode cX8_in 18 = .ok (.iconst 0, 1) := by decide +kernel
theorem dX8_in_19 : decode cX8_in 19 = .ok (.goto 8, 3) := by decide +kernel
theorem dX8_in_22 : decode cX8_in 22 = .ok (.aload_n 0, 1) := by decide +kernel
theorem dX8_in_23 : decode cX8_in 23 = .ok (.iload_n 1, 1) := by decide +kernel
theorem dX8_in_24 : decode cX8_in 24 = .ok (.invokevirtual 243, 3) := by decide +kernel
theorem dX8_in_27 : decode cX8_in 27 = .ok (.ireturn, 1) := by decide +kernel
theorem dX8_isCovered_0 : decode cX8_isCovered 0 = .ok (.iload_n 2, 1) := by decide +kernel
theorem dX8_isCovered_1 : decode cX8_isCovered 1 = .ok (.iload_n 1, 1) := by decide +kernel
theorem dX8_isCovered_2 : decode cX8_isCovered 2 = .ok (.invokestatic 252, 3) := by decide +kernel
theorem dX8_isCovered_5 : decode cX8_isCovered 5 = .ok (.istore 4, 2) := by decide +kernel
theorem dX8_isCovered_7 : decode cX8_isCovered 7 = .ok (.iload_n 3, 1) := by decide +kernel
theorem dX8_isCovered_8 : decode cX8_isCovered 8 = .ok (.iload_n 1, 1) := by decide +kernel
theorem dX8_isCovered_9 : decode cX8_isCovered 9 = .ok (.invokestatic 252, 3) := by decide +kernel
theorem dX8_isCovered_12 : decode cX8_isCovered 12 = .ok (.istore 5, 2) := by decide +kernel
theorem dX8_isCovered_14 : decode cX8_isCovered 14 = .ok (.iload 4, 2) := by decide +kernel
theorem dX8_isCovered_16 : decode cX8_isCovered 16 = .ok (.iconst 0, 1) := by decide +kernel
theorem dX8_isCovered_17 : decode cX8_isCovered 17 = .ok (.iconst 4, 1) := by decide +kernel
theorem dX8_isCovered_18 : decode cX8_isCovered 18 = .ok (.invokestatic 72, 3) := by decide +kernel
theorem dX8_isCovered_21 : decode cX8_isCovered 21 = .ok (.ifCond .eq 31, 3) := by decide +kernel
theorem dX8_isCovered_24 : decode cX8_isCovered 24 = .ok (.iload 5, 2) := by decide +kernel
theorem dX8_isCovered_26 : decode cX8_isCovered 26 = .ok (.iconst 0, 1) := by decide +kernel
theorem dX8_isCovered_27 : decode cX8_isCovered 27 = .ok (.iconst 4, 1) := by decide +kernel
theorem dX8_isCovered_28 : decode cX8_isCovered 28 = .ok (.invokestatic 72, 3) := by decide +kernel
theorem dX8_isCovered_31 : decode cX8_isCovered 31 = .ok (.ifCond .eq 21, 3) := by decide +kernel
theorem dX8_isCovered_34 : decode cX8_isCovered 34 = .ok (.iload_n 0, 1) := by decide +kernel
theorem dX8_isCovered_35 : decode cX8_isCovered 35 = .ok (.iconst 5, 1) := by decide +kernel
theorem dX8_isCovered_36 : decode cX8_isCovered 36 = .ok (.iload 5, 2) := by decide +kernel
theorem dX8_isCovered_38 : decode cX8_isCovered 38 = .ok (.imul, 1) := by decide +kernel
theorem dX8_isCovered_39 : decode cX8_isCovered 39 = .ok (.iload 4, 2) := by decide +kernel
theorem dX8_isCovered_41 : decode cX8_isCovered 41 = .ok (.iadd, 1) := by decide +kernel
theorem dX8_isCovered_42 : decode cX8_isCovered 42 = .ok (.invokestatic 123, 3) := by decide +kernel
theorem dX8_isCovered_45 : decode cX8_isCovered 45 = .ok (.ifCond .eq 7, 3) := by decide +kernel
theorem dX8_isCovered_48 : decode cX8_isCovered 48 = .ok (.iconst 1, 1) := by decide +kernel
theorem dX8_isCovered_49 : decode cX8_isCovered 49 = .ok (.goto 4, 3) := by decide +kernel
theorem dX8_isCovered_52 : decode cX8_isCovered 52 = .ok (.iconst 0, 1) := by decide +kernel
theorem dX8_isCovered_53 : decode cX8_isCovered 53 = .ok (.ireturn, 1) := by decide +kernel
theorem dX8_shadeBy_0 : decode cX8_shadeBy 0 = .ok (.iload_n 0, 1) := by decide +kernel
theorem dX8_shadeBy_1 : decode cX8_shadeBy 1 = .ok (.iload_n 1, 1) := by decide +kernel
theorem dX8_shadeBy_2 : decode cX8_shadeBy 2 = .ok (.iload_n 3, 1) := by decide +kernel
theorem dX8_shadeBy_3 : decode cX8_shadeBy 3 = .ok (.iload 4, 2) := by decide +kernel
theorem dX8_shadeBy_5 : decode cX8_shadeBy 5 = .ok (.invokestatic 257, 3) := by decide +kernel
theorem dX8_shadeBy_8 : decode cX8_shadeBy 8 = .ok (.ifCond .ne 5, 3) := by decide +kernel
theorem dX8_shadeBy_11 : decode cX8_shadeBy 11 = .ok (.iconst 0, 1) := by decide +kernel
theorem dX8_shadeBy_12 : decode cX8_shadeBy 12 = .ok (.ireturn, 1) := by decide +kernel
theorem dX8_shadeBy_13 : decode cX8_shadeBy 13 = .ok (.iconst 1, 1) := by decide +kernel
theorem dX8_shadeBy_14 : decode cX8_shadeBy 14 = .ok (.istore 5, 2) := by decide +kernel
theorem dX8_shadeBy_16 : decode cX8_shadeBy 16 = .ok (.iload_n 2, 1) := by decide +kernel
theorem dX8_shadeBy_17 : decode cX8_shadeBy 17 = .ok (.ineg, 1) := by decide +kernel
theorem dX8_shadeBy_18 : decode cX8_shadeBy 18 = .ok (.istore 6, 2) := by decide +kernel
theorem dX8_shadeBy_20 : decode cX8_shadeBy 20 = .ok (.iload 6, 2) := by decide +kernel
theorem dX8_shadeBy_22 : decode cX8_shadeBy 22 = .ok (.iload_n 2, 1) := by decide +kernel
theorem dX8_shadeBy_23 : decode cX8_shadeBy 23 = .ok (.if_icmp .gt 69, 3) := by decide +kernel
theorem dX8_shadeBy_26 : decode cX8_shadeBy 26 = .ok (.iload_n 2, 1) := by decide +kernel
theorem dX8_shadeBy_27 : decode cX8_shadeBy 27 = .ok (.ineg, 1) := by decide +kernel
theorem dX8_shadeBy_28 : decode cX8_shadeBy 28 = .ok (.istore 7, 2) := by decide +kernel
theorem dX8_shadeBy_30 : decode cX8_shadeBy 30 = .ok (.iload 7, 2) := by decide +kernel
theorem dX8_shadeBy_32 : decode cX8_shadeBy 32 = .ok (.iload_n 2, 1) := by decide +kernel
theorem dX8_shadeBy_33 : decode cX8_shadeBy 33 = .ok (.if_icmp .gt 53, 3) := by decide +kernel
theorem dX8_shadeBy_36 : decode cX8_shadeBy 36 = .ok (.iload 5, 2) := by decide +kernel
theorem dX8_shadeBy_38 : decode cX8_shadeBy 38 = .ok (.ifCond .eq 39, 3) := by decide +kernel
theorem dX8_shadeBy_41 : decode cX8_shadeBy 41 = .ok (.iload 6, 2) := by decide +kernel
theorem dX8_shadeBy_43 : decode cX8_shadeBy 43 = .ok (.invokestatic 261, 3) := by decide +kernel
theorem dX8_shadeBy_46 : decode cX8_shadeBy 46 = .ok (.iload 7, 2) := by decide +kernel
theorem dX8_shadeBy_48 : decode cX8_shadeBy 48 = .ok (.invokestatic 261, 3) := by decide +kernel
theorem dX8_shadeBy_51 : decode cX8_shadeBy 51 = .ok (.iadd, 1) := by decide +kernel
theorem dX8_shadeBy_52 : decode cX8_shadeBy 52 = .ok (.iload_n 2, 1) := by decide +kernel
theorem dX8_shadeBy_53 : decode cX8_shadeBy 53 = .ok (.if_icmp .gt 20, 3) := by decide +kernel
theorem dX8_shadeBy_56 : decode cX8_shadeBy 56 = .ok (.iload_n 0, 1) := by decide +kernel
theorem dX8_shadeBy_57 : decode cX8_shadeBy 57 = .ok (.iload_n 1, 1) := by decide +kernel
theorem dX8_shadeBy_58 : decode cX8_shadeBy 58 = .ok (.iload_n 3, 1) := by decide +kernel
theorem dX8_shadeBy_59 : decode cX8_shadeBy 59 = .ok (.iload 6, 2) := by decide +kernel
theorem dX8_shadeBy_61 : decode cX8_shadeBy 61 = .ok (.iadd, 1) := by decide +kernel
theorem dX8_shadeBy_62 : decode cX8_shadeBy 62 = .ok (.iload 4, 2) := by decide +kernel
theorem dX8_shadeBy_64 : decode cX8_shadeBy 64 = .ok (.iload 7, 2) := by decide +kernel
theorem dX8_shadeBy_66 : decode cX8_shadeBy 66 = .ok (.iadd, 1) := by decide +kernel
theorem dX8_shadeBy_67 : decode cX8_shadeBy 67 = .ok (.invokestatic 257, 3) := by decide +kernel
theorem dX8_shadeBy_70 : decode cX8_shadeBy 70 = .ok (.ifCond .eq 7, 3) := by decide +kernel
theorem dX8_shadeBy_73 : decode cX8_shadeBy 73 = .ok (.iconst 1, 1) := by decide +kernel
theorem dX8_shadeBy_74 : decode cX8_shadeBy 74 = .ok (.goto 4, 3) := by decide +kernel
theorem dX8_shadeBy_77 : decode cX8_shadeBy 77 = .ok (.iconst 0, 1) := by decide +kernel
theorem dX8_shadeBy_78 : decode cX8_shadeBy 78 = .ok (.istore 5, 2) := by decide +kernel
theorem dX8_shadeBy_80 : decode cX8_shadeBy 80 = .ok (.iinc 7 1, 3) := by decide +kernel
theorem dX8_shadeBy_83 : decode cX8_shadeBy 83 = .ok (.goto (-53), 3) := by decide +kernel
theorem dX8_shadeBy_86 : decode cX8_shadeBy 86 = .ok (.iinc 6 1, 3) := by decide +kernel
theorem dX8_shadeBy_89 : decode cX8_shadeBy 89 = .ok (.goto (-69), 3) := by decide +kernel
theorem dX8_shadeBy_92 : decode cX8_shadeBy 92 = .ok (.iload 5, 2) := by decide +kernel
theorem dX8_shadeBy_94 : decode cX8_shadeBy 94 = .ok (.ifCond .eq 7, 3) := by decide +kernel
theorem dX8_shadeBy_97 : decode cX8_shadeBy 97 = .ok (.iconst 2, 1) := by decide +kernel
theorem dX8_shadeBy_98 : decode cX8_shadeBy 98 = .ok (.goto 4, 3) := by decide +kernel
theorem dX8_shadeBy_101 : decode cX8_shadeBy 101 = .ok (.iconst 1, 1) := by decide +kernel
theorem dX8_shadeBy_102 : decode cX8_shadeBy 102 = .ok (.ireturn, 1) := by decide +kernel
theorem dX8_madeAt_0 : decode cX8_madeAt 0 = .ok (.bipush 6, 2) := by decide +kernel
theorem dX8_madeAt_2 : decode cX8_madeAt 2 = .ok (.iload_n 0, 1) := by decide +kernel
theorem dX8_madeAt_3 : decode cX8_madeAt 3 = .ok (.imul, 1) := by decide +kernel
theorem dX8_madeAt_4 : decode cX8_madeAt 4 = .ok (.iload_n 1, 1) := by decide +kernel
theorem dX8_madeAt_5 : decode cX8_madeAt 5 = .ok (.iadd, 1) := by decide +kernel
theorem dX8_madeAt_6 : decode cX8_madeAt 6 = .ok (.sipush 144, 3) := by decide +kernel
theorem dX8_madeAt_9 : decode cX8_madeAt 9 = .ok (.imul, 1) := by decide +kernel
theorem dX8_madeAt_10 : decode cX8_madeAt 10 = .ok (.ireturn, 1) := by decide +kernel
theorem dX8_lays_0 : decode cX8_lays 0 = .ok (.iconst 0, 1) := by decide +kernel
theorem dX8_lays_1 : decode cX8_lays 1 = .ok (.istore_n 3, 1) := by decide +kernel
theorem dX8_lays_2 : decode cX8_lays 2 = .ok (.iload_n 3, 1) := by decide +kernel
theorem dX8_lays_3 : decode cX8_lays 3 = .ok (.aload_n 0, 1) := by decide +kernel
theorem dX8_lays_4 : decode cX8_lays 4 = .ok (.invokevirtual 76, 3) := by decide +kernel
theorem dX8_lays_7 : decode cX8_lays 7 = .ok (.if_icmp .ge 36, 3) := by decide +kernel
theorem dX8_lays_10 : decode cX8_lays 10 = .ok (.iconst 0, 1) := by decide +kernel
theorem dX8_lays_11 : decode cX8_lays 11 = .ok (.istore 4, 2) := by decide +kernel
theorem dX8_lays_13 : decode cX8_lays 13 = .ok (.iload 4, 2) := by decide +kernel
theorem dX8_lays_15 : decode cX8_lays 15 = .ok (.aload_n 0, 1) := by decide +kernel
theorem dX8_lays_16 : decode cX8_lays 16 = .ok (.invokevirtual 68, 3) := by decide +kernel
theorem dX8_lays_19 : decode cX8_lays 19 = .ok (.if_icmp .ge 18, 3) := by decide +kernel
theorem dX8_lays_22 : decode cX8_lays 22 = .ok (.aload_n 0, 1) := by decide +kernel
theorem dX8_lays_23 : decode cX8_lays 23 = .ok (.iload_n 3, 1) := by decide +kernel
theorem dX8_lays_24 : decode cX8_lays 24 = .ok (.iload 4, 2) := by decide +kernel
theorem dX8_lays_26 : decode cX8_lays 26 = .ok (.iload_n 1, 1) := by decide +kernel
theorem dX8_lays_27 : decode cX8_lays 27 = .ok (.iload_n 2, 1) := by decide +kernel
theorem dX8_lays_28 : decode cX8_lays 28 = .ok (.invokevirtual 264, 3) := by decide +kernel
theorem dX8_lays_31 : decode cX8_lays 31 = .ok (.iinc 4 1, 3) := by decide +kernel
theorem dX8_lays_34 : decode cX8_lays 34 = .ok (.goto (-21), 3) := by decide +kernel
theorem dX8_lays_37 : decode cX8_lays 37 = .ok (.iinc 3 1, 3) := by decide +kernel
theorem dX8_lays_40 : decode cX8_lays 40 = .ok (.goto (-38), 3) := by decide +kernel
theorem dX8_lays_43 : decode cX8_lays 43 = .ok (.return_, 1) := by decide +kernel
theorem dX8_laysOne_0 : decode cX8_laysOne 0 = .ok (.bipush 32, 2) := by decide +kernel
theorem dX8_laysOne_2 : decode cX8_laysOne 2 = .ok (.iconst 3, 1) := by decide +kernel
theorem dX8_laysOne_3 : decode cX8_laysOne 3 = .ok (.iload_n 1, 1) := by decide +kernel
theorem dX8_laysOne_4 : decode cX8_laysOne 4 = .ok (.imul, 1) := by decide +kernel
theorem dX8_laysOne_5 : decode cX8_laysOne 5 = .ok (.iadd, 1) := by decide +kernel
theorem dX8_laysOne_6 : decode cX8_laysOne 6 = .ok (.istore 5, 2) := by decide +kernel
theorem dX8_laysOne_8 : decode cX8_laysOne 8 = .ok (.aload_n 0, 1) := by decide +kernel
theorem dX8_laysOne_9 : decode cX8_laysOne 9 = .ok (.getfield 13, 3) := by decide +kernel
theorem dX8_laysOne_12 : decode cX8_laysOne 12 = .ok (.iload 5, 2) := by decide +kernel
theorem dX8_laysOne_14 : decode cX8_laysOne 14 = .ok (.iaload, 1) := by decide +kernel
theorem dX8_laysOne_15 : decode cX8_laysOne 15 = .ok (.istore 6, 2) := by decide +kernel
theorem dX8_laysOne_17 : decode cX8_laysOne 17 = .ok (.aload_n 0, 1) := by decide +kernel
theorem dX8_laysOne_18 : decode cX8_laysOne 18 = .ok (.getfield 13, 3) := by decide +kernel
theorem dX8_laysOne_21 : decode cX8_laysOne 21 = .ok (.iload 5, 2) := by decide +kernel
theorem dX8_laysOne_23 : decode cX8_laysOne 23 = .ok (.iconst 1, 1) := by decide +kernel
theorem dX8_laysOne_24 : decode cX8_laysOne 24 = .ok (.iadd, 1) := by decide +kernel
theorem dX8_laysOne_25 : decode cX8_laysOne 25 = .ok (.iaload, 1) := by decide +kernel
theorem dX8_laysOne_26 : decode cX8_laysOne 26 = .ok (.iload 4, 2) := by decide +kernel
theorem dX8_laysOne_28 : decode cX8_laysOne 28 = .ok (.iload 6, 2) := by decide +kernel
theorem dX8_laysOne_30 : decode cX8_laysOne 30 = .ok (.iconst 1, 1) := by decide +kernel
theorem dX8_laysOne_31 : decode cX8_laysOne 31 = .ok (.isub, 1) := by decide +kernel
theorem dX8_laysOne_32 : decode cX8_laysOne 32 = .ok (.imul, 1) := by decide +kernel
theorem dX8_laysOne_33 : decode cX8_laysOne 33 = .ok (.iadd, 1) := by decide +kernel
theorem dX8_laysOne_34 : decode cX8_laysOne 34 = .ok (.istore 7, 2) := by decide +kernel
theorem dX8_laysOne_36 : decode cX8_laysOne 36 = .ok (.aload_n 0, 1) := by decide +kernel
theorem dX8_laysOne_37 : decode cX8_laysOne 37 = .ok (.iload_n 2, 1) := by decide +kernel
theorem dX8_laysOne_38 : decode cX8_laysOne 38 = .ok (.iconst 0, 1) := by decide +kernel
theorem dX8_laysOne_39 : decode cX8_laysOne 39 = .ok (.invokevirtual 205, 3) := by decide +kernel
theorem dX8_laysOne_42 : decode cX8_laysOne 42 = .ok (.iload_n 3, 1) := by decide +kernel
theorem dX8_laysOne_43 : decode cX8_laysOne 43 = .ok (.invokestatic 123, 3) := by decide +kernel
theorem dX8_laysOne_46 : decode cX8_laysOne 46 = .ok (.istore 8, 2) := by decide +kernel
theorem dX8_laysOne_48 : decode cX8_laysOne 48 = .ok (.iconst 0, 1) := by decide +kernel
theorem dX8_laysOne_49 : decode cX8_laysOne 49 = .ok (.istore 9, 2) := by decide +kernel
theorem dX8_laysOne_51 : decode cX8_laysOne 51 = .ok (.iload 9, 2) := by decide +kernel
theorem dX8_laysOne_53 : decode cX8_laysOne 53 = .ok (.sipush 144, 3) := by decide +kernel
theorem dX8_laysOne_56 : decode cX8_laysOne 56 = .ok (.if_icmp .ge 77, 3) := by decide +kernel
theorem dX8_laysOne_59 : decode cX8_laysOne 59 = .ok (.aload_n 0, 1) := by decide +kernel
theorem dX8_laysOne_60 : decode cX8_laysOne 60 = .ok (.getfield 33, 3) := by decide +kernel
theorem dX8_laysOne_63 : decode cX8_laysOne 63 = .ok (.iload_n 1, 1) := by decide +kernel
theorem dX8_laysOne_64 : decode cX8_laysOne 64 = .ok (.iload_n 2, 1) := by decide +kernel
theorem dX8_laysOne_65 : decode cX8_laysOne 65 = .ok (.invokestatic 268, 3) := by decide +kernel
theorem dX8_laysOne_68 : decode cX8_laysOne 68 = .ok (.iload 9, 2) := by decide +kernel
theorem dX8_laysOne_70 : decode cX8_laysOne 70 = .ok (.iadd, 1) := by decide +kernel
theorem dX8_laysOne_71 : decode cX8_laysOne 71 = .ok (.iload 8, 2) := by decide +kernel
theorem dX8_laysOne_73 : decode cX8_laysOne 73 = .ok (.ifCond .eq 51, 3) := by decide +kernel
theorem dX8_laysOne_76 : decode cX8_laysOne 76 = .ok (.aload_n 0, 1) := by decide +kernel
theorem dX8_laysOne_77 : decode cX8_laysOne 77 = .ok (.iload_n 2, 1) := by decide +kernel
theorem dX8_laysOne_78 : decode cX8_laysOne 78 = .ok (.iconst 1, 1) := by decide +kernel
theorem dX8_laysOne_79 : decode cX8_laysOne 79 = .ok (.invokevirtual 205, 3) := by decide +kernel
theorem dX8_laysOne_82 : decode cX8_laysOne 82 = .ok (.iload 6, 2) := by decide +kernel
theorem dX8_laysOne_84 : decode cX8_laysOne 84 = .ok (.aload_n 0, 1) := by decide +kernel
theorem dX8_laysOne_85 : decode cX8_laysOne 85 = .ok (.getfield 13, 3) := by decide +kernel
theorem dX8_laysOne_88 : decode cX8_laysOne 88 = .ok (.iconst 5, 1) := by decide +kernel
theorem dX8_laysOne_89 : decode cX8_laysOne 89 = .ok (.iaload, 1) := by decide +kernel
theorem dX8_laysOne_90 : decode cX8_laysOne 90 = .ok (.iload 6, 2) := by decide +kernel
theorem dX8_laysOne_92 : decode cX8_laysOne 92 = .ok (.iconst 1, 1) := by decide +kernel
theorem dX8_laysOne_93 : decode cX8_laysOne 93 = .ok (.isub, 1) := by decide +kernel
theorem dX8_laysOne_94 : decode cX8_laysOne 94 = .ok (.imul, 1) := by decide +kernel
theorem dX8_laysOne_95 : decode cX8_laysOne 95 = .ok (.iload 9, 2) := by decide +kernel
theorem dX8_laysOne_97 : decode cX8_laysOne 97 = .ok (.bipush 12, 2) := by decide +kernel
theorem dX8_laysOne_99 : decode cX8_laysOne 99 = .ok (.irem, 1) := by decide +kernel
theorem dX8_laysOne_100 : decode cX8_laysOne 100 = .ok (.iload 7, 2) := by decide +kernel
theorem dX8_laysOne_102 : decode cX8_laysOne 102 = .ok (.isub, 1) := by decide +kernel
theorem dX8_laysOne_103 : decode cX8_laysOne 103 = .ok (.iload 9, 2) := by decide +kernel
theorem dX8_laysOne_105 : decode cX8_laysOne 105 = .ok (.bipush 12, 2) := by decide +kernel
theorem dX8_laysOne_107 : decode cX8_laysOne 107 = .ok (.idiv, 1) := by decide +kernel
theorem dX8_laysOne_108 : decode cX8_laysOne 108 = .ok (.aload_n 0, 1) := by decide +kernel
theorem dX8_laysOne_109 : decode cX8_laysOne 109 = .ok (.getfield 13, 3) := by decide +kernel
theorem dX8_laysOne_112 : decode cX8_laysOne 112 = .ok (.iload 5, 2) := by decide +kernel
theorem dX8_laysOne_114 : decode cX8_laysOne 114 = .ok (.iconst 2, 1) := by decide +kernel
theorem dX8_laysOne_115 : decode cX8_laysOne 115 = .ok (.iadd, 1) := by decide +kernel
theorem dX8_laysOne_116 : decode cX8_laysOne 116 = .ok (.iaload, 1) := by decide +kernel
theorem dX8_laysOne_117 : decode cX8_laysOne 117 = .ok (.isub, 1) := by decide +kernel
theorem dX8_laysOne_118 : decode cX8_laysOne 118 = .ok (.invokestatic 271, 3) := by decide +kernel
theorem dX8_laysOne_121 : decode cX8_laysOne 121 = .ok (.goto 4, 3) := by decide +kernel
theorem dX8_laysOne_124 : decode cX8_laysOne 124 = .ok (.iconst 0, 1) := by decide +kernel
theorem dX8_laysOne_125 : decode cX8_laysOne 125 = .ok (.i2b, 1) := by decide +kernel
theorem dX8_laysOne_126 : decode cX8_laysOne 126 = .ok (.bastore, 1) := by decide +kernel
theorem dX8_laysOne_127 : decode cX8_laysOne 127 = .ok (.iinc 9 1, 3) := by decide +kernel
theorem dX8_laysOne_130 : decode cX8_laysOne 130 = .ok (.goto (-79), 3) := by decide +kernel
theorem dX8_laysOne_133 : decode cX8_laysOne 133 = .ok (.return_, 1) := by decide +kernel
theorem dX8_takes_0 : decode cX8_takes 0 = .ok (.iconst 0, 1) := by decide +kernel
theorem dX8_takes_1 : decode cX8_takes 1 = .ok (.istore_n 1, 1) := by decide +kernel
theorem dX8_takes_2 : decode cX8_takes 2 = .ok (.iload_n 1, 1) := by decide +kernel
theorem dX8_takes_3 : decode cX8_takes 3 = .ok (.iconst 4, 1) := by decide +kernel
theorem dX8_takes_4 : decode cX8_takes 4 = .ok (.if_icmp .ge 20, 3) := by decide +kernel
theorem dX8_takes_7 : decode cX8_takes 7 = .ok (.aload_n 0, 1) := by decide +kernel
theorem dX8_takes_8 : decode cX8_takes 8 = .ok (.getfield 36, 3) := by decide +kernel
theorem dX8_takes_11 : decode cX8_takes 11 = .ok (.iload_n 1, 1) := by decide +kernel
theorem dX8_takes_12 : decode cX8_takes 12 = .ok (.aload_n 0, 1) := by decide +kernel
theorem dX8_takes_13 : decode cX8_takes 13 = .ok (.iload_n 1, 1) := by decide +kernel
theorem dX8_takes_14 : decode cX8_takes 14 = .ok (.invokevirtual 243, 3) := by decide +kernel
theorem dX8_takes_17 : decode cX8_takes 17 = .ok (.iastore, 1) := by decide +kernel
theorem dX8_takes_18 : decode cX8_takes 18 = .ok (.iinc 1 1, 3) := by decide +kernel
theorem dX8_takes_21 : decode cX8_takes 21 = .ok (.goto (-19), 3) := by decide +kernel
theorem dX8_takes_24 : decode cX8_takes 24 = .ok (.return_, 1) := by decide +kernel
theorem dX8_shadeNow_0 : decode cX8_shadeNow 0 = .ok (.iconst 0, 1) := by decide +kernel
theorem dX8_shadeNow_1 : decode cX8_shadeNow 1 = .ok (.istore_n 2, 1) := by decide +kernel
theorem dX8_shadeNow_2 : decode cX8_shadeNow 2 = .ok (.iconst 0, 1) := by decide +kernel
theorem dX8_shadeNow_3 : decode cX8_shadeNow 3 = .ok (.istore_n 3, 1) := by decide +kernel
theorem dX8_shadeNow_4 : decode cX8_shadeNow 4 = .ok (.iload_n 3, 1) := by decide +kernel
theorem dX8_shadeNow_5 : decode cX8_shadeNow 5 = .ok (.aload_n 0, 1) := by decide +kernel
theorem dX8_shadeNow_6 : decode cX8_shadeNow 6 = .ok (.invokevirtual 76, 3) := by decide +kernel
theorem dX8_shadeNow_9 : decode cX8_shadeNow 9 = .ok (.if_icmp .ge 53, 3) := by decide +kernel
theorem dX8_shadeNow_12 : decode cX8_shadeNow 12 = .ok (.aload_n 0, 1) := by decide +kernel
theorem dX8_shadeNow_13 : decode cX8_shadeNow 13 = .ok (.getfield 36, 3) := by decide +kernel
theorem dX8_shadeNow_16 : decode cX8_shadeNow 16 = .ok (.iload_n 3, 1) := by decide +kernel
theorem dX8_shadeNow_17 : decode cX8_shadeNow 17 = .ok (.iaload, 1) := by decide +kernel
theorem dX8_shadeNow_18 : decode cX8_shadeNow 18 = .ok (.ifCond .ge 6, 3) := by decide +kernel
theorem dX8_shadeNow_21 : decode cX8_shadeNow 21 = .ok (.goto 35, 3) := by decide +kernel
theorem dX8_shadeNow_24 : decode cX8_shadeNow 24 = .ok (.aload_n 0, 1) := by decide +kernel
theorem dX8_shadeNow_25 : decode cX8_shadeNow 25 = .ok (.getfield 33, 3) := by decide +kernel
theorem dX8_shadeNow_28 : decode cX8_shadeNow 28 = .ok (.iload_n 3, 1) := by decide +kernel
theorem dX8_shadeNow_29 : decode cX8_shadeNow 29 = .ok (.aload_n 0, 1) := by decide +kernel
theorem dX8_shadeNow_30 : decode cX8_shadeNow 30 = .ok (.getfield 36, 3) := by decide +kernel
theorem dX8_shadeNow_33 : decode cX8_shadeNow 33 = .ok (.iload_n 3, 1) := by decide +kernel
theorem dX8_shadeNow_34 : decode cX8_shadeNow 34 = .ok (.iaload, 1) := by decide +kernel
theorem dX8_shadeNow_35 : decode cX8_shadeNow 35 = .ok (.invokestatic 268, 3) := by decide +kernel
theorem dX8_shadeNow_38 : decode cX8_shadeNow 38 = .ok (.iload_n 1, 1) := by decide +kernel
theorem dX8_shadeNow_39 : decode cX8_shadeNow 39 = .ok (.iadd, 1) := by decide +kernel
theorem dX8_shadeNow_40 : decode cX8_shadeNow 40 = .ok (.baload, 1) := by decide +kernel
theorem dX8_shadeNow_41 : decode cX8_shadeNow 41 = .ok (.istore 4, 2) := by decide +kernel
theorem dX8_shadeNow_43 : decode cX8_shadeNow 43 = .ok (.iload 4, 2) := by decide +kernel
theorem dX8_shadeNow_45 : decode cX8_shadeNow 45 = .ok (.iconst 2, 1) := by decide +kernel
theorem dX8_shadeNow_46 : decode cX8_shadeNow 46 = .ok (.if_icmp .ne 5, 3) := by decide +kernel
theorem dX8_shadeNow_49 : decode cX8_shadeNow 49 = .ok (.iconst 2, 1) := by decide +kernel
theorem dX8_shadeNow_50 : decode cX8_shadeNow 50 = .ok (.ireturn, 1) := by decide +kernel
theorem dX8_shadeNow_51 : decode cX8_shadeNow 51 = .ok (.iload_n 2, 1) := by decide +kernel
theorem dX8_shadeNow_52 : decode cX8_shadeNow 52 = .ok (.iload 4, 2) := by decide +kernel
theorem dX8_shadeNow_54 : decode cX8_shadeNow 54 = .ok (.iadd, 1) := by decide +kernel
theorem dX8_shadeNow_55 : decode cX8_shadeNow 55 = .ok (.istore_n 2, 1) := by decide +kernel
theorem dX8_shadeNow_56 : decode cX8_shadeNow 56 = .ok (.iinc 3 1, 3) := by decide +kernel
theorem dX8_shadeNow_59 : decode cX8_shadeNow 59 = .ok (.goto (-55), 3) := by decide +kernel
theorem dX8_shadeNow_62 : decode cX8_shadeNow 62 = .ok (.iconst 2, 1) := by decide +kernel
theorem dX8_shadeNow_63 : decode cX8_shadeNow 63 = .ok (.iload_n 2, 1) := by decide +kernel
theorem dX8_shadeNow_64 : decode cX8_shadeNow 64 = .ok (.invokestatic 275, 3) := by decide +kernel
theorem dX8_shadeNow_67 : decode cX8_shadeNow 67 = .ok (.ireturn, 1) := by decide +kernel
theorem dX8_noView_0 : decode cX8_noView 0 = .ok (.iload_n 1, 1) := by decide +kernel
theorem dX8_noView_1 : decode cX8_noView 1 = .ok (.invokestatic 278, 3) := by decide +kernel
theorem dX8_noView_4 : decode cX8_noView 4 = .ok (.ifCond .ne 10, 3) := by decide +kernel
theorem dX8_noView_7 : decode cX8_noView 7 = .ok (.iload_n 2, 1) := by decide +kernel
theorem dX8_noView_8 : decode cX8_noView 8 = .ok (.invokestatic 281, 3) := by decide +kernel
theorem dX8_noView_11 : decode cX8_noView 11 = .ok (.ifCond .eq 7, 3) := by decide +kernel
theorem dX8_noView_14 : decode cX8_noView 14 = .ok (.iconst 1, 1) := by decide +kernel
theorem dX8_noView_15 : decode cX8_noView 15 = .ok (.goto 4, 3) := by decide +kernel
theorem dX8_noView_18 : decode cX8_noView 18 = .ok (.iconst 0, 1) := by decide +kernel
theorem dX8_noView_19 : decode cX8_noView 19 = .ok (.ireturn, 1) := by decide +kernel
theorem dX8_shade_0 : decode cX8_shade 0 = .ok (.aload_n 0, 1) := by decide +kernel
theorem dX8_shade_1 : decode cX8_shade 1 = .ok (.iconst 0, 1) := by decide +kernel
theorem dX8_shade_2 : decode cX8_shade 2 = .ok (.putfield 3, 3) := by decide +kernel
theorem dX8_shade_5 : decode cX8_shade 5 = .ok (.aload_n 0, 1) := by decide +kernel
theorem dX8_shade_6 : decode cX8_shade 6 = .ok (.iload_n 1, 1) := by decide +kernel
theorem dX8_shade_7 : decode cX8_shade 7 = .ok (.invokestatic 284, 3) := by decide +kernel
theorem dX8_shade_10 : decode cX8_shade 10 = .ok (.ifCond .ne 12, 3) := by decide +kernel
theorem dX8_shade_13 : decode cX8_shade 13 = .ok (.aload_n 0, 1) := by decide +kernel
theorem dX8_shade_14 : decode cX8_shade 14 = .ok (.iload_n 2, 1) := by decide +kernel
theorem dX8_shade_15 : decode cX8_shade 15 = .ok (.iload_n 3, 1) := by decide +kernel
theorem dX8_shade_16 : decode cX8_shade 16 = .ok (.invokevirtual 287, 3) := by decide +kernel
theorem dX8_shade_19 : decode cX8_shade 19 = .ok (.ifCond .eq 7, 3) := by decide +kernel
theorem dX8_shade_22 : decode cX8_shade 22 = .ok (.iconst 1, 1) := by decide +kernel
theorem dX8_shade_23 : decode cX8_shade 23 = .ok (.goto 4, 3) := by decide +kernel
theorem dX8_shade_26 : decode cX8_shade 26 = .ok (.iconst 0, 1) := by decide +kernel
theorem dX8_shade_27 : decode cX8_shade 27 = .ok (.iconst 1, 1) := by decide +kernel
theorem dX8_shade_28 : decode cX8_shade 28 = .ok (.invokevirtual 194, 3) := by decide +kernel
theorem dX8_shade_31 : decode cX8_shade 31 = .ok (.ifCond .eq 5, 3) := by decide +kernel
theorem dX8_shade_34 : decode cX8_shade 34 = .ok (.iconst 0, 1) := by decide +kernel
theorem dX8_shade_35 : decode cX8_shade 35 = .ok (.ireturn, 1) := by decide +kernel
theorem dX8_shade_36 : decode cX8_shade 36 = .ok (.aload_n 0, 1) := by decide +kernel
theorem dX8_shade_37 : decode cX8_shade 37 = .ok (.invokevirtual 290, 3) := by decide +kernel
theorem dX8_shade_40 : decode cX8_shade 40 = .ok (.aload_n 0, 1) := by decide +kernel
theorem dX8_shade_41 : decode cX8_shade 41 = .ok (.iload_n 2, 1) := by decide +kernel
theorem dX8_shade_42 : decode cX8_shade 42 = .ok (.iload_n 3, 1) := by decide +kernel
theorem dX8_shade_43 : decode cX8_shade 43 = .ok (.invokevirtual 293, 3) := by decide +kernel
theorem dX8_shade_46 : decode cX8_shade 46 = .ok (.aload_n 0, 1) := by decide +kernel
theorem dX8_shade_47 : decode cX8_shade 47 = .ok (.iload_n 1, 1) := by decide +kernel
theorem dX8_shade_48 : decode cX8_shade 48 = .ok (.invokevirtual 297, 3) := by decide +kernel
theorem dX8_shade_51 : decode cX8_shade 51 = .ok (.ireturn, 1) := by decide +kernel
theorem dX8_shades_0 : decode cX8_shades 0 = .ok (.aload_n 0, 1) := by decide +kernel
theorem dX8_shades_1 : decode cX8_shades 1 = .ok (.iconst 0, 1) := by decide +kernel
theorem dX8_shades_2 : decode cX8_shades 2 = .ok (.putfield 3, 3) := by decide +kernel
theorem dX8_shades_5 : decode cX8_shades 5 = .ok (.aload_n 0, 1) := by decide +kernel
theorem dX8_shades_6 : decode cX8_shades 6 = .ok (.aload_n 0, 1) := by decide +kernel
theorem dX8_shades_7 : decode cX8_shades 7 = .ok (.iload_n 2, 1) := by decide +kernel
theorem dX8_shades_8 : decode cX8_shades 8 = .ok (.iload_n 3, 1) := by decide +kernel
theorem dX8_shades_9 : decode cX8_shades 9 = .ok (.invokevirtual 287, 3) := by decide +kernel
theorem dX8_shades_12 : decode cX8_shades 12 = .ok (.iconst 1, 1) := by decide +kernel
theorem dX8_shades_13 : decode cX8_shades 13 = .ok (.invokevirtual 194, 3) := by decide +kernel
theorem dX8_shades_16 : decode cX8_shades 16 = .ok (.ifCond .ne 25, 3) := by decide +kernel
theorem dX8_shades_19 : decode cX8_shades 19 = .ok (.aload_n 0, 1) := by decide +kernel
theorem dX8_shades_20 : decode cX8_shades 20 = .ok (.iload_n 1, 1) := by decide +kernel
theorem dX8_shades_21 : decode cX8_shades 21 = .ok (.iconst 0, 1) := by decide +kernel
theorem dX8_shades_22 : decode cX8_shades 22 = .ok (.iconst 2, 1) := by decide +kernel
theorem dX8_shades_23 : decode cX8_shades 23 = .ok (.invokestatic 72, 3) := by decide +kernel
theorem dX8_shades_26 : decode cX8_shades 26 = .ok (.ifCond .ne 7, 3) := by decide +kernel
theorem dX8_shades_29 : decode cX8_shades 29 = .ok (.iconst 1, 1) := by decide +kernel
theorem dX8_shades_30 : decode cX8_shades 30 = .ok (.goto 4, 3) := by decide +kernel
theorem dX8_shades_33 : decode cX8_shades 33 = .ok (.iconst 0, 1) := by decide +kernel
theorem dX8_shades_34 : decode cX8_shades 34 = .ok (.iconst 2, 1) := by decide +kernel
theorem dX8_shades_35 : decode cX8_shades 35 = .ok (.invokevirtual 194, 3) := by decide +kernel
theorem dX8_shades_38 : decode cX8_shades 38 = .ok (.ifCond .eq 5, 3) := by decide +kernel
theorem dX8_shades_41 : decode cX8_shades 41 = .ok (.iconst 0, 1) := by decide +kernel
theorem dX8_shades_42 : decode cX8_shades 42 = .ok (.ireturn, 1) := by decide +kernel
theorem dX8_shades_43 : decode cX8_shades 43 = .ok (.aload_n 0, 1) := by decide +kernel
theorem dX8_shades_44 : decode cX8_shades 44 = .ok (.invokevirtual 290, 3) := by decide +kernel
theorem dX8_shades_47 : decode cX8_shades 47 = .ok (.aload_n 0, 1) := by decide +kernel
theorem dX8_shades_48 : decode cX8_shades 48 = .ok (.iload_n 2, 1) := by decide +kernel
theorem dX8_shades_49 : decode cX8_shades 49 = .ok (.iload_n 3, 1) := by decide +kernel
theorem dX8_shades_50 : decode cX8_shades 50 = .ok (.invokevirtual 293, 3) := by decide +kernel
theorem dX8_shades_53 : decode cX8_shades 53 = .ok (.iconst 0, 1) := by decide +kernel
theorem dX8_shades_54 : decode cX8_shades 54 = .ok (.istore 4, 2) := by decide +kernel
theorem dX8_shades_56 : decode cX8_shades 56 = .ok (.iconst 0, 1) := by decide +kernel
theorem dX8_shades_57 : decode cX8_shades 57 = .ok (.istore 5, 2) := by decide +kernel
theorem dX8_shades_59 : decode cX8_shades 59 = .ok (.iload 5, 2) := by decide +kernel
theorem dX8_shades_61 : decode cX8_shades 61 = .ok (.sipush 144, 3) := by decide +kernel
theorem dX8_shades_64 : decode cX8_shades 64 = .ok (.if_icmp .ge 29, 3) := by decide +kernel
theorem dX8_shades_67 : decode cX8_shades 67 = .ok (.iload 4, 2) := by decide +kernel
theorem dX8_shades_69 : decode cX8_shades 69 = .ok (.aload_n 0, 1) := by decide +kernel
theorem dX8_shades_70 : decode cX8_shades 70 = .ok (.iload 5, 2) := by decide +kernel
theorem dX8_shades_72 : decode cX8_shades 72 = .ok (.invokevirtual 297, 3) := by decide +kernel
theorem dX8_shades_75 : decode cX8_shades 75 = .ok (.iload_n 1, 1) := by decide +kernel
theorem dX8_shades_76 : decode cX8_shades 76 = .ok (.if_icmp .ne 7, 3) := by decide +kernel
theorem dX8_shades_79 : decode cX8_shades 79 = .ok (.iconst 1, 1) := by decide +kernel
theorem dX8_shades_80 : decode cX8_shades 80 = .ok (.goto 4, 3) := by decide +kernel
theorem dX8_shades_83 : decode cX8_shades 83 = .ok (.iconst 0, 1) := by decide +kernel
theorem dX8_shades_84 : decode cX8_shades 84 = .ok (.iadd, 1) := by decide +kernel
theorem dX8_shades_85 : decode cX8_shades 85 = .ok (.istore 4, 2) := by decide +kernel
theorem dX8_shades_87 : decode cX8_shades 87 = .ok (.iinc 5 1, 3) := by decide +kernel
theorem dX8_shades_90 : decode cX8_shades 90 = .ok (.goto (-31), 3) := by decide +kernel
theorem dX8_shades_93 : decode cX8_shades 93 = .ok (.iload 4, 2) := by decide +kernel
theorem dX8_shades_95 : decode cX8_shades 95 = .ok (.ireturn, 1) := by decide +kernel
theorem dX8_told_0 : decode cX8_told 0 = .ok (.aload_n 0, 1) := by decide +kernel
theorem dX8_told_1 : decode cX8_told 1 = .ok (.iconst 0, 1) := by decide +kernel
theorem dX8_told_2 : decode cX8_told 2 = .ok (.putfield 3, 3) := by decide +kernel
theorem dX8_told_5 : decode cX8_told 5 = .ok (.aload_n 0, 1) := by decide +kernel
theorem dX8_told_6 : decode cX8_told 6 = .ok (.aload_n 0, 1) := by decide +kernel
theorem dX8_told_7 : decode cX8_told 7 = .ok (.iload_n 1, 1) := by decide +kernel
theorem dX8_told_8 : decode cX8_told 8 = .ok (.invokevirtual 300, 3) := by decide +kernel
theorem dX8_told_11 : decode cX8_told 11 = .ok (.ifCond .ne 10, 3) := by decide +kernel
theorem dX8_told_14 : decode cX8_told 14 = .ok (.iload_n 2, 1) := by decide +kernel
theorem dX8_told_15 : decode cX8_told 15 = .ok (.invokestatic 284, 3) := by decide +kernel
theorem dX8_told_18 : decode cX8_told 18 = .ok (.ifCond .eq 7, 3) := by decide +kernel
theorem dX8_told_21 : decode cX8_told 21 = .ok (.iconst 1, 1) := by decide +kernel
theorem dX8_told_22 : decode cX8_told 22 = .ok (.goto 4, 3) := by decide +kernel
theorem dX8_told_25 : decode cX8_told 25 = .ok (.iconst 0, 1) := by decide +kernel
theorem dX8_told_26 : decode cX8_told 26 = .ok (.iconst 1, 1) := by decide +kernel
theorem dX8_told_27 : decode cX8_told 27 = .ok (.invokevirtual 194, 3) := by decide +kernel
theorem dX8_told_30 : decode cX8_told 30 = .ok (.ifCond .eq 7, 3) := by decide +kernel
theorem dX8_told_33 : decode cX8_told 33 = .ok (.iconst 0, 1) := by decide +kernel
theorem dX8_told_34 : decode cX8_told 34 = .ok (.goto 18, 3) := by decide +kernel
theorem dX8_told_37 : decode cX8_told 37 = .ok (.aload_n 0, 1) := by decide +kernel
theorem dX8_told_38 : decode cX8_told 38 = .ok (.getfield 13, 3) := by decide +kernel
theorem dX8_told_41 : decode cX8_told 41 = .ok (.bipush 48, 2) := by decide +kernel
theorem dX8_told_43 : decode cX8_told 43 = .ok (.sipush 144, 3) := by decide +kernel
theorem dX8_told_46 : decode cX8_told 46 = .ok (.iload_n 1, 1) := by decide +kernel
theorem dX8_told_47 : decode cX8_told 47 = .ok (.imul, 1) := by decide +kernel
theorem dX8_told_48 : decode cX8_told 48 = .ok (.iadd, 1) := by decide +kernel
theorem dX8_told_49 : decode cX8_told 49 = .ok (.iload_n 2, 1) := by decide +kernel
theorem dX8_told_50 : decode cX8_told 50 = .ok (.iadd, 1) := by decide +kernel
theorem dX8_told_51 : decode cX8_told 51 = .ok (.iaload, 1) := by decide +kernel
theorem dX8_told_52 : decode cX8_told 52 = .ok (.ireturn, 1) := by decide +kernel
theorem dX8_isWrong_0 : decode cX8_isWrong 0 = .ok (.aload_n 0, 1) := by decide +kernel
theorem dX8_isWrong_1 : decode cX8_isWrong 1 = .ok (.getfield 13, 3) := by decide +kernel
theorem dX8_isWrong_4 : decode cX8_isWrong 4 = .ok (.bipush 48, 2) := by decide +kernel
theorem dX8_isWrong_6 : decode cX8_isWrong 6 = .ok (.sipush 144, 3) := by decide +kernel
theorem dX8_isWrong_9 : decode cX8_isWrong 9 = .ok (.iload_n 1, 1) := by decide +kernel
theorem dX8_isWrong_10 : decode cX8_isWrong 10 = .ok (.imul, 1) := by decide +kernel
theorem dX8_isWrong_11 : decode cX8_isWrong 11 = .ok (.iadd, 1) := by decide +kernel
theorem dX8_isWrong_12 : decode cX8_isWrong 12 = .ok (.iload_n 2, 1) := by decide +kernel
theorem dX8_isWrong_13 : decode cX8_isWrong 13 = .ok (.iadd, 1) := by decide +kernel
theorem dX8_isWrong_14 : decode cX8_isWrong 14 = .ok (.iaload, 1) := by decide +kernel
theorem dX8_isWrong_15 : decode cX8_isWrong 15 = .ok (.istore_n 3, 1) := by decide +kernel
theorem dX8_isWrong_16 : decode cX8_isWrong 16 = .ok (.iload_n 3, 1) := by decide +kernel
theorem dX8_isWrong_17 : decode cX8_isWrong 17 = .ok (.iconst 3, 1) := by decide +kernel
theorem dX8_isWrong_18 : decode cX8_isWrong 18 = .ok (.if_icmp .eq 16, 3) := by decide +kernel
theorem dX8_isWrong_21 : decode cX8_isWrong 21 = .ok (.iload_n 3, 1) := by decide +kernel
theorem dX8_isWrong_22 : decode cX8_isWrong 22 = .ok (.aload_n 0, 1) := by decide +kernel
theorem dX8_isWrong_23 : decode cX8_isWrong 23 = .ok (.iload_n 2, 1) := by decide +kernel
theorem dX8_isWrong_24 : decode cX8_isWrong 24 = .ok (.invokevirtual 297, 3) := by decide +kernel
theorem dX8_isWrong_27 : decode cX8_isWrong 27 = .ok (.if_icmp .eq 7, 3) := by decide +kernel
theorem dX8_isWrong_30 : decode cX8_isWrong 30 = .ok (.iconst 1, 1) := by decide +kernel
theorem dX8_isWrong_31 : decode cX8_isWrong 31 = .ok (.goto 4, 3) := by decide +kernel
theorem dX8_isWrong_34 : decode cX8_isWrong 34 = .ok (.iconst 0, 1) := by decide +kernel
theorem dX8_isWrong_35 : decode cX8_isWrong 35 = .ok (.ireturn, 1) := by decide +kernel
theorem dX8_wrongNow_0 : decode cX8_wrongNow 0 = .ok (.iconst 0, 1) := by decide +kernel
theorem dX8_wrongNow_1 : decode cX8_wrongNow 1 = .ok (.istore_n 2, 1) := by decide +kernel
theorem dX8_wrongNow_2 : decode cX8_wrongNow 2 = .ok (.iconst 0, 1) := by decide +kernel
theorem dX8_wrongNow_3 : decode cX8_wrongNow 3 = .ok (.istore_n 3, 1) := by decide +kernel
theorem dX8_wrongNow_4 : decode cX8_wrongNow 4 = .ok (.iload_n 3, 1) := by decide +kernel
theorem dX8_wrongNow_5 : decode cX8_wrongNow 5 = .ok (.sipush 144, 3) := by decide +kernel
theorem dX8_wrongNow_8 : decode cX8_wrongNow 8 = .ok (.if_icmp .ge 26, 3) := by decide +kernel
theorem dX8_wrongNow_11 : decode cX8_wrongNow 11 = .ok (.iload_n 2, 1) := by decide +kernel
theorem dX8_wrongNow_12 : decode cX8_wrongNow 12 = .ok (.aload_n 0, 1) := by decide +kernel
theorem dX8_wrongNow_13 : decode cX8_wrongNow 13 = .ok (.iload_n 1, 1) := by decide +kernel
theorem dX8_wrongNow_14 : decode cX8_wrongNow 14 = .ok (.iload_n 3, 1) := by decide +kernel
theorem dX8_wrongNow_15 : decode cX8_wrongNow 15 = .ok (.invokevirtual 303, 3) := by decide +kernel
theorem dX8_wrongNow_18 : decode cX8_wrongNow 18 = .ok (.ifCond .eq 7, 3) := by decide +kernel
theorem dX8_wrongNow_21 : decode cX8_wrongNow 21 = .ok (.iconst 1, 1) := by decide +kernel
theorem dX8_wrongNow_22 : decode cX8_wrongNow 22 = .ok (.goto 4, 3) := by decide +kernel
theorem dX8_wrongNow_25 : decode cX8_wrongNow 25 = .ok (.iconst 0, 1) := by decide +kernel
theorem dX8_wrongNow_26 : decode cX8_wrongNow 26 = .ok (.iadd, 1) := by decide +kernel
theorem dX8_wrongNow_27 : decode cX8_wrongNow 27 = .ok (.istore_n 2, 1) := by decide +kernel
theorem dX8_wrongNow_28 : decode cX8_wrongNow 28 = .ok (.iinc 3 1, 3) := by decide +kernel
theorem dX8_wrongNow_31 : decode cX8_wrongNow 31 = .ok (.goto (-27), 3) := by decide +kernel
theorem dX8_wrongNow_34 : decode cX8_wrongNow 34 = .ok (.iload_n 2, 1) := by decide +kernel
theorem dX8_wrongNow_35 : decode cX8_wrongNow 35 = .ok (.ireturn, 1) := by decide +kernel
theorem dX8_wrong_0 : decode cX8_wrong 0 = .ok (.aload_n 0, 1) := by decide +kernel
theorem dX8_wrong_1 : decode cX8_wrong 1 = .ok (.iconst 0, 1) := by decide +kernel
theorem dX8_wrong_2 : decode cX8_wrong 2 = .ok (.putfield 3, 3) := by decide +kernel
theorem dX8_wrong_5 : decode cX8_wrong 5 = .ok (.aload_n 0, 1) := by decide +kernel
theorem dX8_wrong_6 : decode cX8_wrong 6 = .ok (.aload_n 0, 1) := by decide +kernel
theorem dX8_wrong_7 : decode cX8_wrong 7 = .ok (.iload_n 1, 1) := by decide +kernel
theorem dX8_wrong_8 : decode cX8_wrong 8 = .ok (.invokevirtual 300, 3) := by decide +kernel
theorem dX8_wrong_11 : decode cX8_wrong 11 = .ok (.ifCond .ne 12, 3) := by decide +kernel
theorem dX8_wrong_14 : decode cX8_wrong 14 = .ok (.aload_n 0, 1) := by decide +kernel
theorem dX8_wrong_15 : decode cX8_wrong 15 = .ok (.iload_n 2, 1) := by decide +kernel
theorem dX8_wrong_16 : decode cX8_wrong 16 = .ok (.iload_n 3, 1) := by decide +kernel
theorem dX8_wrong_17 : decode cX8_wrong 17 = .ok (.invokevirtual 287, 3) := by decide +kernel
theorem dX8_wrong_20 : decode cX8_wrong 20 = .ok (.ifCond .eq 7, 3) := by decide +kernel
theorem dX8_wrong_23 : decode cX8_wrong 23 = .ok (.iconst 1, 1) := by decide +kernel
theorem dX8_wrong_24 : decode cX8_wrong 24 = .ok (.goto 4, 3) := by decide +kernel
theorem dX8_wrong_27 : decode cX8_wrong 27 = .ok (.iconst 0, 1) := by decide +kernel
theorem dX8_wrong_28 : decode cX8_wrong 28 = .ok (.iconst 1, 1) := by decide +kernel
theorem dX8_wrong_29 : decode cX8_wrong 29 = .ok (.invokevirtual 194, 3) := by decide +kernel
theorem dX8_wrong_32 : decode cX8_wrong 32 = .ok (.ifCond .ne 22, 3) := by decide +kernel
theorem dX8_wrong_35 : decode cX8_wrong 35 = .ok (.aload_n 0, 1) := by decide +kernel
theorem dX8_wrong_36 : decode cX8_wrong 36 = .ok (.iload 4, 2) := by decide +kernel
theorem dX8_wrong_38 : decode cX8_wrong 38 = .ok (.iconst (-1), 1) := by decide +kernel
theorem dX8_wrong_39 : decode cX8_wrong 39 = .ok (.if_icmp .ge 7, 3) := by decide +kernel
theorem dX8_wrong_42 : decode cX8_wrong 42 = .ok (.iconst 1, 1) := by decide +kernel
theorem dX8_wrong_43 : decode cX8_wrong 43 = .ok (.goto 4, 3) := by decide +kernel
theorem dX8_wrong_46 : decode cX8_wrong 46 = .ok (.iconst 0, 1) := by decide +kernel
theorem dX8_wrong_47 : decode cX8_wrong 47 = .ok (.iconst 2, 1) := by decide +kernel
theorem dX8_wrong_48 : decode cX8_wrong 48 = .ok (.invokevirtual 194, 3) := by decide +kernel
theorem dX8_wrong_51 : decode cX8_wrong 51 = .ok (.ifCond .eq 5, 3) := by decide +kernel
theorem dX8_wrong_54 : decode cX8_wrong 54 = .ok (.iconst 0, 1) := by decide +kernel
theorem dX8_wrong_55 : decode cX8_wrong 55 = .ok (.ireturn, 1) := by decide +kernel
theorem dX8_wrong_56 : decode cX8_wrong 56 = .ok (.aload_n 0, 1) := by decide +kernel
theorem dX8_wrong_57 : decode cX8_wrong 57 = .ok (.invokevirtual 290, 3) := by decide +kernel
theorem dX8_wrong_60 : decode cX8_wrong 60 = .ok (.aload_n 0, 1) := by decide +kernel
theorem dX8_wrong_61 : decode cX8_wrong 61 = .ok (.iload_n 2, 1) := by decide +kernel
theorem dX8_wrong_62 : decode cX8_wrong 62 = .ok (.iload_n 3, 1) := by decide +kernel
theorem dX8_wrong_63 : decode cX8_wrong 63 = .ok (.invokevirtual 293, 3) := by decide +kernel
theorem dX8_wrong_66 : decode cX8_wrong 66 = .ok (.iload 4, 2) := by decide +kernel
theorem dX8_wrong_68 : decode cX8_wrong 68 = .ok (.iconst (-1), 1) := by decide +kernel
theorem dX8_wrong_69 : decode cX8_wrong 69 = .ok (.if_icmp .ne 9, 3) := by decide +kernel
theorem dX8_wrong_72 : decode cX8_wrong 72 = .ok (.aload_n 0, 1) := by decide +kernel
theorem dX8_wrong_73 : decode cX8_wrong 73 = .ok (.iload_n 1, 1) := by decide +kernel
theorem dX8_wrong_74 : decode cX8_wrong 74 = .ok (.invokevirtual 306, 3) := by decide +kernel
theorem dX8_wrong_77 : decode cX8_wrong 77 = .ok (.ireturn, 1) := by decide +kernel
theorem dX8_wrong_78 : decode cX8_wrong 78 = .ok (.iconst 0, 1) := by decide +kernel
theorem dX8_wrong_79 : decode cX8_wrong 79 = .ok (.istore 5, 2) := by decide +kernel
theorem dX8_wrong_81 : decode cX8_wrong 81 = .ok (.iconst 0, 1) := by decide +kernel
theorem dX8_wrong_82 : decode cX8_wrong 82 = .ok (.istore 6, 2) := by decide +kernel
theorem dX8_wrong_84 : decode cX8_wrong 84 = .ok (.iload 6, 2) := by decide +kernel
theorem dX8_wrong_86 : decode cX8_wrong 86 = .ok (.sipush 144, 3) := by decide +kernel
theorem dX8_wrong_89 : decode cX8_wrong 89 = .ok (.if_icmp .ge 35, 3) := by decide +kernel
theorem dX8_wrong_92 : decode cX8_wrong 92 = .ok (.aload_n 0, 1) := by decide +kernel
theorem dX8_wrong_93 : decode cX8_wrong 93 = .ok (.iload_n 1, 1) := by decide +kernel
theorem dX8_wrong_94 : decode cX8_wrong 94 = .ok (.iload 6, 2) := by decide +kernel
theorem dX8_wrong_96 : decode cX8_wrong 96 = .ok (.invokevirtual 303, 3) := by decide +kernel
theorem dX8_wrong_99 : decode cX8_wrong 99 = .ok (.ifCond .ne 6, 3) := by decide +kernel
theorem dX8_wrong_102 : decode cX8_wrong 102 = .ok (.goto 16, 3) := by decide +kernel
theorem dX8_wrong_105 : decode cX8_wrong 105 = .ok (.iload 5, 2) := by decide +kernel
theorem dX8_wrong_107 : decode cX8_wrong 107 = .ok (.iload 4, 2) := by decide +kernel
theorem dX8_wrong_109 : decode cX8_wrong 109 = .ok (.if_icmp .ne 6, 3) := by decide +kernel
theorem dX8_wrong_112 : decode cX8_wrong 112 = .ok (.iload 6, 2) := by decide +kernel
theorem dX8_wrong_114 : decode cX8_wrong 114 = .ok (.ireturn, 1) := by decide +kernel
theorem dX8_wrong_115 : decode cX8_wrong 115 = .ok (.iinc 5 1, 3) := by decide +kernel
theorem dX8_wrong_118 : decode cX8_wrong 118 = .ok (.iinc 6 1, 3) := by decide +kernel
theorem dX8_wrong_121 : decode cX8_wrong 121 = .ok (.goto (-37), 3) := by decide +kernel
theorem dX8_wrong_124 : decode cX8_wrong 124 = .ok (.iconst (-1), 1) := by decide +kernel
theorem dX8_wrong_125 : decode cX8_wrong 125 = .ok (.ireturn, 1) := by decide +kernel
theorem dX8_slotNow_0 : decode cX8_slotNow 0 = .ok (.iconst (-1), 1) := by decide +kernel
theorem dX8_slotNow_1 : decode cX8_slotNow 1 = .ok (.istore_n 2, 1) := by decide +kernel
theorem dX8_slotNow_2 : decode cX8_slotNow 2 = .ok (.iconst 0, 1) := by decide +kernel
theorem dX8_slotNow_3 : decode cX8_slotNow 3 = .ok (.istore_n 3, 1) := by decide +kernel
theorem dX8_slotNow_4 : decode cX8_slotNow 4 = .ok (.iload_n 3, 1) := by decide +kernel
theorem dX8_slotNow_5 : decode cX8_slotNow 5 = .ok (.aload_n 0, 1) := by decide +kernel
theorem dX8_slotNow_6 : decode cX8_slotNow 6 = .ok (.invokevirtual 76, 3) := by decide +kernel
theorem dX8_slotNow_9 : decode cX8_slotNow 9 = .ok (.if_icmp .ge 25, 3) := by decide +kernel
theorem dX8_slotNow_12 : decode cX8_slotNow 12 = .ok (.aload_n 0, 1) := by decide +kernel
theorem dX8_slotNow_13 : decode cX8_slotNow 13 = .ok (.getfield 36, 3) := by decide +kernel
theorem dX8_slotNow_16 : decode cX8_slotNow 16 = .ok (.iload_n 3, 1) := by decide +kernel
theorem dX8_slotNow_17 : decode cX8_slotNow 17 = .ok (.iaload, 1) := by decide +kernel
theorem dX8_slotNow_18 : decode cX8_slotNow 18 = .ok (.iload_n 1, 1) := by decide +kernel
theorem dX8_slotNow_19 : decode cX8_slotNow 19 = .ok (.if_icmp .ne 7, 3) := by decide +kernel
theorem dX8_slotNow_22 : decode cX8_slotNow 22 = .ok (.iload_n 3, 1) := by decide +kernel
theorem dX8_slotNow_23 : decode cX8_slotNow 23 = .ok (.goto 4, 3) := by decide +kernel
theorem dX8_slotNow_26 : decode cX8_slotNow 26 = .ok (.iload_n 2, 1) := by decide +kernel
theorem dX8_slotNow_27 : decode cX8_slotNow 27 = .ok (.istore_n 2, 1) := by decide +kernel
theorem dX8_slotNow_28 : decode cX8_slotNow 28 = .ok (.iinc 3 1, 3) := by decide +kernel
theorem dX8_slotNow_31 : decode cX8_slotNow 31 = .ok (.goto (-27), 3) := by decide +kernel
theorem dX8_slotNow_34 : decode cX8_slotNow 34 = .ok (.iload_n 2, 1) := by decide +kernel
theorem dX8_slotNow_35 : decode cX8_slotNow 35 = .ok (.ireturn, 1) := by decide +kernel
theorem dX8_largeOf_0 : decode cX8_largeOf 0 = .ok (.aload_n 0, 1) := by decide +kernel
theorem dX8_largeOf_1 : decode cX8_largeOf 1 = .ok (.getfield 13, 3) := by decide +kernel
theorem dX8_largeOf_4 : decode cX8_largeOf 4 = .ok (.bipush 32, 2) := by decide +kernel
theorem dX8_largeOf_6 : decode cX8_largeOf 6 = .ok (.iconst 3, 1) := by decide +kernel
theorem dX8_largeOf_7 : decode cX8_largeOf 7 = .ok (.iload_n 1, 1) := by decide +kernel
theorem dX8_largeOf_8 : decode cX8_largeOf 8 = .ok (.imul, 1) := by decide +kernel
theorem dX8_largeOf_9 : decode cX8_largeOf 9 = .ok (.iadd, 1) := by decide +kernel
theorem dX8_largeOf_10 : decode cX8_largeOf 10 = .ok (.iaload, 1) := by decide +kernel
theorem dX8_largeOf_11 : decode cX8_largeOf 11 = .ok (.ireturn, 1) := by decide +kernel
theorem dX8_keepsRule_0 : decode cX8_keepsRule 0 = .ok (.aload_n 0, 1) := by decide +kernel
theorem dX8_keepsRule_1 : decode cX8_keepsRule 1 = .ok (.getfield 13, 3) := by decide +kernel
theorem dX8_keepsRule_4 : decode cX8_keepsRule 4 = .ok (.sipush 978, 3) := by decide +kernel
theorem dX8_keepsRule_7 : decode cX8_keepsRule 7 = .ok (.iconst 3, 1) := by decide +kernel
theorem dX8_keepsRule_8 : decode cX8_keepsRule 8 = .ok (.iload_n 1, 1) := by decide +kernel
theorem dX8_keepsRule_9 : decode cX8_keepsRule 9 = .ok (.imul, 1) := by decide +kernel
theorem dX8_keepsRule_10 : decode cX8_keepsRule 10 = .ok (.iadd, 1) := by decide +kernel
theorem dX8_keepsRule_11 : decode cX8_keepsRule 11 = .ok (.iaload, 1) := by decide +kernel
theorem dX8_keepsRule_12 : decode cX8_keepsRule 12 = .ok (.istore_n 2, 1) := by decide +kernel
theorem dX8_keepsRule_13 : decode cX8_keepsRule 13 = .ok (.aload_n 0, 1) := by decide +kernel
theorem dX8_keepsRule_14 : decode cX8_keepsRule 14 = .ok (.aload_n 0, 1) := by decide +kernel
theorem dX8_keepsRule_15 : decode cX8_keepsRule 15 = .ok (.getfield 13, 3) := by decide +kernel
theorem dX8_keepsRule_18 : decode cX8_keepsRule 18 = .ok (.sipush 978, 3) := by decide +kernel
theorem dX8_keepsRule_21 : decode cX8_keepsRule 21 = .ok (.iconst 3, 1) := by decide +kernel
theorem dX8_keepsRule_22 : decode cX8_keepsRule 22 = .ok (.iload_n 1, 1) := by decide +kernel
theorem dX8_keepsRule_23 : decode cX8_keepsRule 23 = .ok (.imul, 1) := by decide +kernel
theorem dX8_keepsRule_24 : decode cX8_keepsRule 24 = .ok (.iadd, 1) := by decide +kernel
theorem dX8_keepsRule_25 : decode cX8_keepsRule 25 = .ok (.iconst 1, 1) := by decide +kernel
theorem dX8_keepsRule_26 : decode cX8_keepsRule 26 = .ok (.iadd, 1) := by decide +kernel
theorem dX8_keepsRule_27 : decode cX8_keepsRule 27 = .ok (.iaload, 1) := by decide +kernel
theorem dX8_keepsRule_28 : decode cX8_keepsRule 28 = .ok (.invokevirtual 309, 3) := by decide +kernel
theorem dX8_keepsRule_31 : decode cX8_keepsRule 31 = .ok (.istore_n 3, 1) := by decide +kernel
theorem dX8_keepsRule_32 : decode cX8_keepsRule 32 = .ok (.aload_n 0, 1) := by decide +kernel
theorem dX8_keepsRule_33 : decode cX8_keepsRule 33 = .ok (.getfield 13, 3) := by decide +kernel
theorem dX8_keepsRule_36 : decode cX8_keepsRule 36 = .ok (.sipush 978, 3) := by decide +kernel
theorem dX8_keepsRule_39 : decode cX8_keepsRule 39 = .ok (.iconst 3, 1) := by decide +kernel
theorem dX8_keepsRule_40 : decode cX8_keepsRule 40 = .ok (.iload_n 1, 1) := by decide +kernel
theorem dX8_keepsRule_41 : decode cX8_keepsRule 41 = .ok (.imul, 1) := by decide +kernel
theorem dX8_keepsRule_42 : decode cX8_keepsRule 42 = .ok (.iadd, 1) := by decide +kernel
theorem dX8_keepsRule_43 : decode cX8_keepsRule 43 = .ok (.iconst 2, 1) := by decide +kernel
theorem dX8_keepsRule_44 : decode cX8_keepsRule 44 = .ok (.iadd, 1) := by decide +kernel
theorem dX8_keepsRule_45 : decode cX8_keepsRule 45 = .ok (.iaload, 1) := by decide +kernel
theorem dX8_keepsRule_46 : decode cX8_keepsRule 46 = .ok (.istore 4, 2) := by decide +kernel
theorem dX8_keepsRule_48 : decode cX8_keepsRule 48 = .ok (.iload_n 2, 1) := by decide +kernel
theorem dX8_keepsRule_49 : decode cX8_keepsRule 49 = .ok (.ifCond .ne 15, 3) := by decide +kernel
theorem dX8_keepsRule_52 : decode cX8_keepsRule 52 = .ok (.iload_n 3, 1) := by decide +kernel
theorem dX8_keepsRule_53 : decode cX8_keepsRule 53 = .ok (.iload 4, 2) := by decide +kernel
theorem dX8_keepsRule_55 : decode cX8_keepsRule 55 = .ok (.if_icmp .eq 7, 3) := by decide +kernel
theorem dX8_keepsRule_58 : decode cX8_keepsRule 58 = .ok (.iconst 1, 1) := by decide +kernel
theorem dX8_keepsRule_59 : decode cX8_keepsRule 59 = .ok (.goto 4, 3) := by decide +kernel
theorem dX8_keepsRule_62 : decode cX8_keepsRule 62 = .ok (.iconst 0, 1) := by decide +kernel
theorem dX8_keepsRule_63 : decode cX8_keepsRule 63 = .ok (.ireturn, 1) := by decide +kernel
theorem dX8_keepsRule_64 : decode cX8_keepsRule 64 = .ok (.aload_n 0, 1) := by decide +kernel
theorem dX8_keepsRule_65 : decode cX8_keepsRule 65 = .ok (.iload 4, 2) := by decide +kernel
theorem dX8_keepsRule_67 : decode cX8_keepsRule 67 = .ok (.invokevirtual 309, 3) := by decide +kernel
theorem dX8_keepsRule_70 : decode cX8_keepsRule 70 = .ok (.istore 5, 2) := by decide +kernel
theorem dX8_keepsRule_72 : decode cX8_keepsRule 72 = .ok (.iload_n 2, 1) := by decide +kernel
theorem dX8_keepsRule_73 : decode cX8_keepsRule 73 = .ok (.iconst 1, 1) := by decide +kernel
theorem dX8_keepsRule_74 : decode cX8_keepsRule 74 = .ok (.if_icmp .ne 31, 3) := by decide +kernel
theorem dX8_keepsRule_77 : decode cX8_keepsRule 77 = .ok (.iload_n 3, 1) := by decide +kernel
theorem dX8_keepsRule_78 : decode cX8_keepsRule 78 = .ok (.ifCond .lt 7, 3) := by decide +kernel
theorem dX8_keepsRule_81 : decode cX8_keepsRule 81 = .ok (.iconst 1, 1) := by decide +kernel
theorem dX8_keepsRule_82 : decode cX8_keepsRule 82 = .ok (.goto 4, 3) := by decide +kernel
theorem dX8_keepsRule_85 : decode cX8_keepsRule 85 = .ok (.iconst 0, 1) := by decide +kernel
theorem dX8_keepsRule_86 : decode cX8_keepsRule 86 = .ok (.iload 5, 2) := by decide +kernel
theorem dX8_keepsRule_88 : decode cX8_keepsRule 88 = .ok (.ifCond .lt 7, 3) := by decide +kernel
theorem dX8_keepsRule_91 : decode cX8_keepsRule 91 = .ok (.iconst 1, 1) := by decide +kernel
theorem dX8_keepsRule_92 : decode cX8_keepsRule 92 = .ok (.goto 4, 3) := by decide +kernel
theorem dX8_keepsRule_95 : decode cX8_keepsRule 95 = .ok (.iconst 0, 1) := by decide +kernel
theorem dX8_keepsRule_96 : decode cX8_keepsRule 96 = .ok (.if_icmp .ne 7, 3) := by decide +kernel
theorem dX8_keepsRule_99 : decode cX8_keepsRule 99 = .ok (.iconst 1, 1) := by decide +kernel
theorem dX8_keepsRule_100 : decode cX8_keepsRule 100 = .ok (.goto 4, 3) := by decide +kernel
theorem dX8_keepsRule_103 : decode cX8_keepsRule 103 = .ok (.iconst 0, 1) := by decide +kernel
theorem dX8_keepsRule_104 : decode cX8_keepsRule 104 = .ok (.ireturn, 1) := by decide +kernel
theorem dX8_keepsRule_105 : decode cX8_keepsRule 105 = .ok (.iload_n 3, 1) := by decide +kernel
theorem dX8_keepsRule_106 : decode cX8_keepsRule 106 = .ok (.ifCond .lt 27, 3) := by decide +kernel
theorem dX8_keepsRule_109 : decode cX8_keepsRule 109 = .ok (.iload 5, 2) := by decide +kernel
theorem dX8_keepsRule_111 : decode cX8_keepsRule 111 = .ok (.ifCond .lt 22, 3) := by decide +kernel
theorem dX8_keepsRule_114 : decode cX8_keepsRule 114 = .ok (.iload_n 2, 1) := by decide +kernel
theorem dX8_keepsRule_115 : decode cX8_keepsRule 115 = .ok (.iconst 3, 1) := by decide +kernel
theorem dX8_keepsRule_116 : decode cX8_keepsRule 116 = .ok (.if_icmp .ne 21, 3) := by decide +kernel
theorem dX8_keepsRule_119 : decode cX8_keepsRule 119 = .ok (.aload_n 0, 1) := by decide +kernel
theorem dX8_keepsRule_120 : decode cX8_keepsRule 120 = .ok (.iload_n 3, 1) := by decide +kernel
theorem dX8_keepsRule_121 : decode cX8_keepsRule 121 = .ok (.invokevirtual 312, 3) := by decide +kernel
theorem dX8_keepsRule_124 : decode cX8_keepsRule 124 = .ok (.aload_n 0, 1) := by decide +kernel
theorem dX8_keepsRule_125 : decode cX8_keepsRule 125 = .ok (.iload 5, 2) := by decide +kernel
theorem dX8_keepsRule_127 : decode cX8_keepsRule 127 = .ok (.invokevirtual 312, 3) := by decide +kernel
theorem dX8_keepsRule_130 : decode cX8_keepsRule 130 = .ok (.if_icmp .le 7, 3) := by decide +kernel
theorem dX8_keepsRule_133 : decode cX8_keepsRule 133 = .ok (.iconst 1, 1) := by decide +kernel
theorem dX8_keepsRule_134 : decode cX8_keepsRule 134 = .ok (.goto 4, 3) := by decide +kernel
theorem dX8_keepsRule_137 : decode cX8_keepsRule 137 = .ok (.iconst 0, 1) := by decide +kernel
theorem dX8_keepsRule_138 : decode cX8_keepsRule 138 = .ok (.ireturn, 1) := by decide +kernel
theorem dX8_isAllowed_0 : decode cX8_isAllowed 0 = .ok (.iconst 1, 1) := by decide +kernel
theorem dX8_isAllowed_1 : decode cX8_isAllowed 1 = .ok (.istore_n 1, 1) := by decide +kernel
theorem dX8_isAllowed_2 : decode cX8_isAllowed 2 = .ok (.iconst 0, 1) := by decide +kernel
theorem dX8_isAllowed_3 : decode cX8_isAllowed 3 = .ok (.istore_n 2, 1) := by decide +kernel
theorem dX8_isAllowed_4 : decode cX8_isAllowed 4 = .ok (.iload_n 2, 1) := by decide +kernel
theorem dX8_isAllowed_5 : decode cX8_isAllowed 5 = .ok (.aload_n 0, 1) := by decide +kernel
theorem dX8_isAllowed_6 : decode cX8_isAllowed 6 = .ok (.getfield 13, 3) := by decide +kernel
theorem dX8_isAllowed_9 : decode cX8_isAllowed 9 = .ok (.bipush 7, 2) := by decide +kernel
theorem dX8_isAllowed_11 : decode cX8_isAllowed 11 = .ok (.iaload, 1) := by decide +kernel
theorem dX8_isAllowed_12 : decode cX8_isAllowed 12 = .ok (.if_icmp .ge 19, 3) := by decide +kernel
theorem dX8_isAllowed_15 : decode cX8_isAllowed 15 = .ok (.iload_n 1, 1) := by decide +kernel
theorem dX8_isAllowed_16 : decode cX8_isAllowed 16 = .ok (.ifCond .eq 15, 3) := by decide +kernel
theorem dX8_isAllowed_19 : decode cX8_isAllowed 19 = .ok (.aload_n 0, 1) := by decide +kernel
theorem dX8_isAllowed_20 : decode cX8_isAllowed 20 = .ok (.iload_n 2, 1) := by decide +kernel
theorem dX8_isAllowed_21 : decode cX8_isAllowed 21 = .ok (.invokevirtual 315, 3) := by decide +kernel
theorem dX8_isAllowed_24 : decode cX8_isAllowed 24 = .ok (.istore_n 1, 1) := by decide +kernel
theorem dX8_isAllowed_25 : decode cX8_isAllowed 25 = .ok (.iinc 2 1, 3) := by decide +kernel
theorem dX8_isAllowed_28 : decode cX8_isAllowed 28 = .ok (.goto (-24), 3) := by decide +kernel
theorem dX8_isAllowed_31 : decode cX8_isAllowed 31 = .ok (.iload_n 1, 1) := by decide +kernel
theorem dX8_isAllowed_32 : decode cX8_isAllowed 32 = .ok (.ireturn, 1) := by decide +kernel
theorem dX8_allowed_0 : decode cX8_allowed 0 = .ok (.aload_n 0, 1) := by decide +kernel
theorem dX8_allowed_1 : decode cX8_allowed 1 = .ok (.iconst 0, 1) := by decide +kernel
theorem dX8_allowed_2 : decode cX8_allowed 2 = .ok (.putfield 3, 3) := by decide +kernel
theorem dX8_allowed_5 : decode cX8_allowed 5 = .ok (.aload_n 0, 1) := by decide +kernel
theorem dX8_allowed_6 : decode cX8_allowed 6 = .ok (.invokevirtual 290, 3) := by decide +kernel
theorem dX8_allowed_9 : decode cX8_allowed 9 = .ok (.aload_n 0, 1) := by decide +kernel
theorem dX8_allowed_10 : decode cX8_allowed 10 = .ok (.invokevirtual 318, 3) := by decide +kernel
theorem dX8_allowed_13 : decode cX8_allowed 13 = .ok (.ireturn, 1) := by decide +kernel
theorem dX8_many_0 : decode cX8_many 0 = .ok (.iconst 0, 1) := by decide +kernel
theorem dX8_many_1 : decode cX8_many 1 = .ok (.istore_n 1, 1) := by decide +kernel
theorem dX8_many_2 : decode cX8_many 2 = .ok (.iconst 0, 1) := by decide +kernel
theorem dX8_many_3 : decode cX8_many 3 = .ok (.istore_n 2, 1) := by decide +kernel
theorem dX8_many_4 : decode cX8_many 4 = .ok (.iload_n 2, 1) := by decide +kernel
theorem dX8_many_5 : decode cX8_many 5 = .ok (.aload_n 0, 1) := by decide +kernel
theorem dX8_many_6 : decode cX8_many 6 = .ok (.invokevirtual 76, 3) := by decide +kernel
theorem dX8_many_9 : decode cX8_many 9 = .ok (.if_icmp .ge 26, 3) := by decide +kernel
theorem dX8_many_12 : decode cX8_many 12 = .ok (.iload_n 1, 1) := by decide +kernel
theorem dX8_many_13 : decode cX8_many 13 = .ok (.aload_n 0, 1) := by decide +kernel
theorem dX8_many_14 : decode cX8_many 14 = .ok (.getfield 36, 3) := by decide +kernel
theorem dX8_many_17 : decode cX8_many 17 = .ok (.iload_n 2, 1) := by decide +kernel
theorem dX8_many_18 : decode cX8_many 18 = .ok (.iaload, 1) := by decide +kernel
theorem dX8_many_19 : decode cX8_many 19 = .ok (.ifCond .lt 7, 3) := by decide +kernel
theorem dX8_many_22 : decode cX8_many 22 = .ok (.iconst 1, 1) := by decide +kernel
theorem dX8_many_23 : decode cX8_many 23 = .ok (.goto 4, 3) := by decide +kernel
theorem dX8_many_26 : decode cX8_many 26 = .ok (.iconst 0, 1) := by decide +kernel
theorem dX8_many_27 : decode cX8_many 27 = .ok (.iadd, 1) := by decide +kernel
theorem dX8_many_28 : decode cX8_many 28 = .ok (.istore_n 1, 1) := by decide +kernel
theorem dX8_many_29 : decode cX8_many 29 = .ok (.iinc 2 1, 3) := by decide +kernel
theorem dX8_many_32 : decode cX8_many 32 = .ok (.goto (-28), 3) := by decide +kernel
theorem dX8_many_35 : decode cX8_many 35 = .ok (.iload_n 1, 1) := by decide +kernel
theorem dX8_many_36 : decode cX8_many 36 = .ok (.ireturn, 1) := by decide +kernel
theorem dX8_opens_0 : decode cX8_opens 0 = .ok (.iload_n 1, 1) := by decide +kernel
theorem dX8_opens_1 : decode cX8_opens 1 = .ok (.istore_n 2, 1) := by decide +kernel
theorem dX8_opens_2 : decode cX8_opens 2 = .ok (.iconst 0, 1) := by decide +kernel
theorem dX8_opens_3 : decode cX8_opens 3 = .ok (.istore_n 3, 1) := by decide +kernel
theorem dX8_opens_4 : decode cX8_opens 4 = .ok (.iconst 1, 1) := by decide +kernel
theorem dX8_opens_5 : decode cX8_opens 5 = .ok (.istore 4, 2) := by decide +kernel
theorem dX8_opens_7 : decode cX8_opens 7 = .ok (.iconst 3, 1) := by decide +kernel
theorem dX8_opens_8 : decode cX8_opens 8 = .ok (.istore 5, 2) := by decide +kernel
theorem dX8_opens_10 : decode cX8_opens 10 = .ok (.iload 5, 2) := by decide +kernel
theorem dX8_opens_12 : decode cX8_opens 12 = .ok (.ifCond .lt 106, 3) := by decide +kernel
theorem dX8_opens_15 : decode cX8_opens 15 = .ok (.aload_n 0, 1) := by decide +kernel
theorem dX8_opens_16 : decode cX8_opens 16 = .ok (.getfield 36, 3) := by decide +kernel
theorem dX8_opens_19 : decode cX8_opens 19 = .ok (.iload 5, 2) := by decide +kernel
theorem dX8_opens_21 : decode cX8_opens 21 = .ok (.iconst (-1), 1) := by decide +kernel
theorem dX8_opens_22 : decode cX8_opens 22 = .ok (.iastore, 1) := by decide +kernel
theorem dX8_opens_23 : decode cX8_opens 23 = .ok (.iload 5, 2) := by decide +kernel
theorem dX8_opens_25 : decode cX8_opens 25 = .ok (.aload_n 0, 1) := by decide +kernel
theorem dX8_opens_26 : decode cX8_opens 26 = .ok (.invokevirtual 76, 3) := by decide +kernel
theorem dX8_opens_29 : decode cX8_opens 29 = .ok (.if_icmp .lt 6, 3) := by decide +kernel
theorem dX8_opens_32 : decode cX8_opens 32 = .ok (.goto 80, 3) := by decide +kernel
theorem dX8_opens_35 : decode cX8_opens 35 = .ok (.aload_n 0, 1) := by decide +kernel
theorem dX8_opens_36 : decode cX8_opens 36 = .ok (.getfield 36, 3) := by decide +kernel
theorem dX8_opens_39 : decode cX8_opens 39 = .ok (.iload 5, 2) := by decide +kernel
theorem dX8_opens_41 : decode cX8_opens 41 = .ok (.iload_n 2, 1) := by decide +kernel
theorem dX8_opens_42 : decode cX8_opens 42 = .ok (.aload_n 0, 1) := by decide +kernel
theorem dX8_opens_43 : decode cX8_opens 43 = .ok (.invokevirtual 68, 3) := by decide +kernel
theorem dX8_opens_46 : decode cX8_opens 46 = .ok (.iconst 1, 1) := by decide +kernel
theorem dX8_opens_47 : decode cX8_opens 47 = .ok (.iadd, 1) := by decide +kernel
theorem dX8_opens_48 : decode cX8_opens 48 = .ok (.irem, 1) := by decide +kernel
theorem dX8_opens_49 : decode cX8_opens 49 = .ok (.iconst 1, 1) := by decide +kernel
theorem dX8_opens_50 : decode cX8_opens 50 = .ok (.isub, 1) := by decide +kernel
theorem dX8_opens_51 : decode cX8_opens 51 = .ok (.iastore, 1) := by decide +kernel
theorem dX8_opens_52 : decode cX8_opens 52 = .ok (.iload_n 2, 1) := by decide +kernel
theorem dX8_opens_53 : decode cX8_opens 53 = .ok (.aload_n 0, 1) := by decide +kernel
theorem dX8_opens_54 : decode cX8_opens 54 = .ok (.invokevirtual 68, 3) := by decide +kernel
theorem dX8_opens_57 : decode cX8_opens 57 = .ok (.iconst 1, 1) := by decide +kernel
theorem dX8_opens_58 : decode cX8_opens 58 = .ok (.iadd, 1) := by decide +kernel
theorem dX8_opens_59 : decode cX8_opens 59 = .ok (.idiv, 1) := by decide +kernel
theorem dX8_opens_60 : decode cX8_opens 60 = .ok (.istore_n 2, 1) := by decide +kernel
theorem dX8_opens_61 : decode cX8_opens 61 = .ok (.aload_n 0, 1) := by decide +kernel
theorem dX8_opens_62 : decode cX8_opens 62 = .ok (.getfield 36, 3) := by decide +kernel
theorem dX8_opens_65 : decode cX8_opens 65 = .ok (.iload 5, 2) := by decide +kernel
theorem dX8_opens_67 : decode cX8_opens 67 = .ok (.iaload, 1) := by decide +kernel
theorem dX8_opens_68 : decode cX8_opens 68 = .ok (.ifCond .ge 6, 3) := by decide +kernel
theorem dX8_opens_71 : decode cX8_opens 71 = .ok (.goto 41, 3) := by decide +kernel
theorem dX8_opens_74 : decode cX8_opens 74 = .ok (.iload 4, 2) := by decide +kernel
theorem dX8_opens_76 : decode cX8_opens 76 = .ok (.ifCond .eq 21, 3) := by decide +kernel
theorem dX8_opens_79 : decode cX8_opens 79 = .ok (.iload_n 3, 1) := by decide +kernel
theorem dX8_opens_80 : decode cX8_opens 80 = .ok (.aload_n 0, 1) := by decide +kernel
theorem dX8_opens_81 : decode cX8_opens 81 = .ok (.getfield 36, 3) := by decide +kernel
theorem dX8_opens_84 : decode cX8_opens 84 = .ok (.iload 5, 2) := by decide +kernel
theorem dX8_opens_86 : decode cX8_opens 86 = .ok (.iaload, 1) := by decide +kernel
theorem dX8_opens_87 : decode cX8_opens 87 = .ok (.invokestatic 123, 3) := by decide +kernel
theorem dX8_opens_90 : decode cX8_opens 90 = .ok (.ifCond .ne 7, 3) := by decide +kernel
theorem dX8_opens_93 : decode cX8_opens 93 = .ok (.iconst 1, 1) := by decide +kernel
theorem dX8_opens_94 : decode cX8_opens 94 = .ok (.goto 4, 3) := by decide +kernel
theorem dX8_opens_97 : decode cX8_opens 97 = .ok (.iconst 0, 1) := by decide +kernel
theorem dX8_opens_98 : decode cX8_opens 98 = .ok (.istore 4, 2) := by decide +kernel
theorem dX8_opens_100 : decode cX8_opens 100 = .ok (.iload_n 3, 1) := by decide +kernel
theorem dX8_opens_101 : decode cX8_opens 101 = .ok (.iconst 1, 1) := by decide +kernel
theorem dX8_opens_102 : decode cX8_opens 102 = .ok (.aload_n 0, 1) := by decide +kernel
theorem dX8_opens_103 : decode cX8_opens 103 = .ok (.getfield 36, 3) := by decide +kernel
theorem dX8_opens_106 : decode cX8_opens 106 = .ok (.iload 5, 2) := by decide +kernel
theorem dX8_opens_108 : decode cX8_opens 108 = .ok (.iaload, 1) := by decide +kernel
theorem dX8_opens_109 : decode cX8_opens 109 = .ok (.ishl, 1) := by decide +kernel
theorem dX8_opens_110 : decode cX8_opens 110 = .ok (.ior, 1) := by decide +kernel
theorem dX8_opens_111 : decode cX8_opens 111 = .ok (.istore_n 3, 1) := by decide +kernel
theorem dX8_opens_112 : decode cX8_opens 112 = .ok (.iinc 5 (-1), 3) := by decide +kernel
theorem dX8_opens_115 : decode cX8_opens 115 = .ok (.goto (-105), 3) := by decide +kernel
theorem dX8_opens_118 : decode cX8_opens 118 = .ok (.iload 4, 2) := by decide +kernel
theorem dX8_opens_120 : decode cX8_opens 120 = .ok (.ifCond .eq 14, 3) := by decide +kernel
theorem dX8_opens_123 : decode cX8_opens 123 = .ok (.aload_n 0, 1) := by decide +kernel
theorem dX8_opens_124 : decode cX8_opens 124 = .ok (.invokevirtual 318, 3) := by decide +kernel
theorem dX8_opens_127 : decode cX8_opens 127 = .ok (.ifCond .eq 7, 3) := by decide +kernel
theorem dX8_opens_130 : decode cX8_opens 130 = .ok (.iconst 1, 1) := by decide +kernel
theorem dX8_opens_131 : decode cX8_opens 131 = .ok (.goto 4, 3) := by decide +kernel
theorem dX8_opens_134 : decode cX8_opens 134 = .ok (.iconst 0, 1) := by decide +kernel
theorem dX8_opens_135 : decode cX8_opens 135 = .ok (.ireturn, 1) := by decide +kernel
theorem dX8_settings_0 : decode cX8_settings 0 = .ok (.iconst 1, 1) := by decide +kernel
theorem dX8_settings_1 : decode cX8_settings 1 = .ok (.istore_n 1, 1) := by decide +kernel
theorem dX8_settings_2 : decode cX8_settings 2 = .ok (.iconst 0, 1) := by decide +kernel
theorem dX8_settings_3 : decode cX8_settings 3 = .ok (.istore_n 2, 1) := by decide +kernel
theorem dX8_settings_4 : decode cX8_settings 4 = .ok (.iload_n 2, 1) := by decide +kernel
theorem dX8_settings_5 : decode cX8_settings 5 = .ok (.aload_n 0, 1) := by decide +kernel
theorem dX8_settings_6 : decode cX8_settings 6 = .ok (.invokevirtual 76, 3) := by decide +kernel
theorem dX8_settings_9 : decode cX8_settings 9 = .ok (.if_icmp .ge 18, 3) := by decide +kernel
theorem dX8_settings_12 : decode cX8_settings 12 = .ok (.iload_n 1, 1) := by decide +kernel
theorem dX8_settings_13 : decode cX8_settings 13 = .ok (.aload_n 0, 1) := by decide +kernel
theorem dX8_settings_14 : decode cX8_settings 14 = .ok (.invokevirtual 68, 3) := by decide +kernel
theorem dX8_settings_17 : decode cX8_settings 17 = .ok (.iconst 1, 1) := by decide +kernel
theorem dX8_settings_18 : decode cX8_settings 18 = .ok (.iadd, 1) := by decide +kernel
theorem dX8_settings_19 : decode cX8_settings 19 = .ok (.imul, 1) := by decide +kernel
theorem dX8_settings_20 : decode cX8_settings 20 = .ok (.istore_n 1, 1) := by decide +kernel
theorem dX8_settings_21 : decode cX8_settings 21 = .ok (.iinc 2 1, 3) := by decide +kernel
theorem dX8_settings_24 : decode cX8_settings 24 = .ok (.goto (-20), 3) := by decide +kernel
theorem dX8_settings_27 : decode cX8_settings 27 = .ok (.iload_n 1, 1) := by decide +kernel
theorem dX8_settings_28 : decode cX8_settings 28 = .ok (.ireturn, 1) := by decide +kernel
theorem dX8_tries_0 : decode cX8_tries 0 = .ok (.iload_n 3, 1) := by decide +kernel
theorem dX8_tries_1 : decode cX8_tries 1 = .ok (.ifCond .ne 31, 3) := by decide +kernel
theorem dX8_tries_4 : decode cX8_tries 4 = .ok (.iload_n 2, 1) := by decide +kernel
theorem dX8_tries_5 : decode cX8_tries 5 = .ok (.aload_n 0, 1) := by decide +kernel
theorem dX8_tries_6 : decode cX8_tries 6 = .ok (.getfield 321, 3) := by decide +kernel
theorem dX8_tries_9 : decode cX8_tries 9 = .ok (.if_icmp .gt 22, 3) := by decide +kernel
theorem dX8_tries_12 : decode cX8_tries 12 = .ok (.iload_n 2, 1) := by decide +kernel
theorem dX8_tries_13 : decode cX8_tries 13 = .ok (.aload_n 0, 1) := by decide +kernel
theorem dX8_tries_14 : decode cX8_tries 14 = .ok (.getfield 321, 3) := by decide +kernel
theorem dX8_tries_17 : decode cX8_tries 17 = .ok (.if_icmp .ne 15, 3) := by decide +kernel
theorem dX8_tries_20 : decode cX8_tries 20 = .ok (.aload_n 0, 1) := by decide +kernel
theorem dX8_tries_21 : decode cX8_tries 21 = .ok (.invokevirtual 324, 3) := by decide +kernel
theorem dX8_tries_24 : decode cX8_tries 24 = .ok (.aload_n 0, 1) := by decide +kernel
theorem dX8_tries_25 : decode cX8_tries 25 = .ok (.getfield 327, 3) := by decide +kernel
theorem dX8_tries_28 : decode cX8_tries 28 = .ok (.if_icmp .lt 4, 3) := by decide +kernel
theorem dX8_tries_31 : decode cX8_tries 31 = .ok (.return_, 1) := by decide +kernel
theorem dX8_tries_32 : decode cX8_tries 32 = .ok (.aload_n 0, 1) := by decide +kernel
theorem dX8_tries_33 : decode cX8_tries 33 = .ok (.iload_n 2, 1) := by decide +kernel
theorem dX8_tries_34 : decode cX8_tries 34 = .ok (.putfield 321, 3) := by decide +kernel
theorem dX8_tries_37 : decode cX8_tries 37 = .ok (.aload_n 0, 1) := by decide +kernel
theorem dX8_tries_38 : decode cX8_tries 38 = .ok (.iload_n 1, 1) := by decide +kernel
theorem dX8_tries_39 : decode cX8_tries 39 = .ok (.putfield 330, 3) := by decide +kernel
theorem dX8_tries_42 : decode cX8_tries 42 = .ok (.aload_n 0, 1) := by decide +kernel
theorem dX8_tries_43 : decode cX8_tries 43 = .ok (.aload_n 0, 1) := by decide +kernel
theorem dX8_tries_44 : decode cX8_tries 44 = .ok (.invokevirtual 324, 3) := by decide +kernel
theorem dX8_tries_47 : decode cX8_tries 47 = .ok (.putfield 327, 3) := by decide +kernel
theorem dX8_tries_50 : decode cX8_tries 50 = .ok (.return_, 1) := by decide +kernel
theorem dX8_findsBest_0 : decode cX8_findsBest 0 = .ok (.aload_n 0, 1) := by decide +kernel
theorem dX8_findsBest_1 : decode cX8_findsBest 1 = .ok (.iconst (-1), 1) := by decide +kernel
theorem dX8_findsBest_2 : decode cX8_findsBest 2 = .ok (.putfield 330, 3) := by decide +kernel
theorem dX8_findsBest_5 : decode cX8_findsBest 5 = .ok (.iconst 0, 1) := by decide +kernel
theorem dX8_findsBest_6 : decode cX8_findsBest 6 = .ok (.istore_n 2, 1) := by decide +kernel
theorem dX8_findsBest_7 : decode cX8_findsBest 7 = .ok (.iload_n 2, 1) := by decide +kernel
theorem dX8_findsBest_8 : decode cX8_findsBest 8 = .ok (.aload_n 0, 1) := by decide +kernel
theorem dX8_findsBest_9 : decode cX8_findsBest 9 = .ok (.invokevirtual 333, 3) := by decide +kernel
theorem dX8_findsBest_12 : decode cX8_findsBest 12 = .ok (.if_icmp .ge 39, 3) := by decide +kernel
theorem dX8_findsBest_15 : decode cX8_findsBest 15 = .ok (.aload_n 0, 1) := by decide +kernel
theorem dX8_findsBest_16 : decode cX8_findsBest 16 = .ok (.iload_n 2, 1) := by decide +kernel
theorem dX8_findsBest_17 : decode cX8_findsBest 17 = .ok (.invokevirtual 336, 3) := by decide +kernel
theorem dX8_findsBest_20 : decode cX8_findsBest 20 = .ok (.ifCond .eq 25, 3) := by decide +kernel
theorem dX8_findsBest_23 : decode cX8_findsBest 23 = .ok (.aload_n 0, 1) := by decide +kernel
theorem dX8_findsBest_24 : decode cX8_findsBest 24 = .ok (.iload_n 2, 1) := by decide +kernel
theorem dX8_findsBest_25 : decode cX8_findsBest 25 = .ok (.aload_n 0, 1) := by decide +kernel
theorem dX8_findsBest_26 : decode cX8_findsBest 26 = .ok (.iload_n 1, 1) := by decide +kernel
theorem dX8_findsBest_27 : decode cX8_findsBest 27 = .ok (.invokevirtual 306, 3) := by decide +kernel
theorem dX8_findsBest_30 : decode cX8_findsBest 30 = .ok (.aload_n 0, 1) := by decide +kernel
theorem dX8_findsBest_31 : decode cX8_findsBest 31 = .ok (.getfield 330, 3) := by decide +kernel
theorem dX8_findsBest_34 : decode cX8_findsBest 34 = .ok (.ifCond .ge 7, 3) := by decide +kernel
theorem dX8_findsBest_37 : decode cX8_findsBest 37 = .ok (.iconst 1, 1) := by decide +kernel
theorem dX8_findsBest_38 : decode cX8_findsBest 38 = .ok (.goto 4, 3) := by decide +kernel
theorem dX8_findsBest_41 : decode cX8_findsBest 41 = .ok (.iconst 0, 1) := by decide +kernel
theorem dX8_findsBest_42 : decode cX8_findsBest 42 = .ok (.invokevirtual 339, 3) := by decide +kernel
theorem dX8_findsBest_45 : decode cX8_findsBest 45 = .ok (.iinc 2 1, 3) := by decide +kernel
theorem dX8_findsBest_48 : decode cX8_findsBest 48 = .ok (.goto (-41), 3) := by decide +kernel
theorem dX8_findsBest_51 : decode cX8_findsBest 51 = .ok (.aload_n 0, 1) := by decide +kernel
theorem dX8_findsBest_52 : decode cX8_findsBest 52 = .ok (.aload_n 0, 1) := by decide +kernel
theorem dX8_findsBest_53 : decode cX8_findsBest 53 = .ok (.getfield 330, 3) := by decide +kernel
theorem dX8_findsBest_56 : decode cX8_findsBest 56 = .ok (.invokevirtual 336, 3) := by decide +kernel
theorem dX8_findsBest_59 : decode cX8_findsBest 59 = .ok (.pop, 1) := by decide +kernel
theorem dX8_findsBest_60 : decode cX8_findsBest 60 = .ok (.return_, 1) := by decide +kernel
theorem dX8_best_0 : decode cX8_best 0 = .ok (.aload_n 0, 1) := by decide +kernel
theorem dX8_best_1 : decode cX8_best 1 = .ok (.iconst 0, 1) := by decide +kernel
theorem dX8_best_2 : decode cX8_best 2 = .ok (.putfield 3, 3) := by decide +kernel
theorem dX8_best_5 : decode cX8_best 5 = .ok (.aload_n 0, 1) := by decide +kernel
theorem dX8_best_6 : decode cX8_best 6 = .ok (.aload_n 0, 1) := by decide +kernel
theorem dX8_best_7 : decode cX8_best 7 = .ok (.iload_n 1, 1) := by decide +kernel
theorem dX8_best_8 : decode cX8_best 8 = .ok (.invokevirtual 300, 3) := by decide +kernel
theorem dX8_best_11 : decode cX8_best 11 = .ok (.ifCond .ne 27, 3) := by decide +kernel
theorem dX8_best_14 : decode cX8_best 14 = .ok (.aload_n 0, 1) := by decide +kernel
theorem dX8_best_15 : decode cX8_best 15 = .ok (.iload_n 2, 1) := by decide +kernel
theorem dX8_best_16 : decode cX8_best 16 = .ok (.iload_n 3, 1) := by decide +kernel
theorem dX8_best_17 : decode cX8_best 17 = .ok (.invokevirtual 287, 3) := by decide +kernel
theorem dX8_best_20 : decode cX8_best 20 = .ok (.ifCond .ne 18, 3) := by decide +kernel
theorem dX8_best_23 : decode cX8_best 23 = .ok (.iload 4, 2) := by decide +kernel
theorem dX8_best_25 : decode cX8_best 25 = .ok (.iconst (-1), 1) := by decide +kernel
theorem dX8_best_26 : decode cX8_best 26 = .ok (.if_icmp .eq 16, 3) := by decide +kernel
theorem dX8_best_29 : decode cX8_best 29 = .ok (.aload_n 0, 1) := by decide +kernel
theorem dX8_best_30 : decode cX8_best 30 = .ok (.iload 4, 2) := by decide +kernel
theorem dX8_best_32 : decode cX8_best 32 = .ok (.invokevirtual 246, 3) := by decide +kernel
theorem dX8_best_35 : decode cX8_best 35 = .ok (.ifCond .eq 7, 3) := by decide +kernel
theorem dX8_best_38 : decode cX8_best 38 = .ok (.iconst 1, 1) := by decide +kernel
theorem dX8_best_39 : decode cX8_best 39 = .ok (.goto 4, 3) := by decide +kernel
theorem dX8_best_42 : decode cX8_best 42 = .ok (.iconst 0, 1) := by decide +kernel
theorem dX8_best_43 : decode cX8_best 43 = .ok (.iconst 1, 1) := by decide +kernel
theorem dX8_best_44 : decode cX8_best 44 = .ok (.invokevirtual 194, 3) := by decide +kernel
theorem dX8_best_47 : decode cX8_best 47 = .ok (.ifCond .eq 5, 3) := by decide +kernel
theorem dX8_best_50 : decode cX8_best 50 = .ok (.iconst 0, 1) := by decide +kernel
theorem dX8_best_51 : decode cX8_best 51 = .ok (.ireturn, 1) := by decide +kernel
theorem dX8_best_52 : decode cX8_best 52 = .ok (.aload_n 0, 1) := by decide +kernel
theorem dX8_best_53 : decode cX8_best 53 = .ok (.iload_n 2, 1) := by decide +kernel
theorem dX8_best_54 : decode cX8_best 54 = .ok (.iload_n 3, 1) := by decide +kernel
theorem dX8_best_55 : decode cX8_best 55 = .ok (.invokevirtual 293, 3) := by decide +kernel
theorem dX8_best_58 : decode cX8_best 58 = .ok (.aload_n 0, 1) := by decide +kernel
theorem dX8_best_59 : decode cX8_best 59 = .ok (.iload_n 1, 1) := by decide +kernel
theorem dX8_best_60 : decode cX8_best 60 = .ok (.invokevirtual 343, 3) := by decide +kernel
theorem dX8_best_63 : decode cX8_best 63 = .ok (.iload 4, 2) := by decide +kernel
theorem dX8_best_65 : decode cX8_best 65 = .ok (.iconst (-1), 1) := by decide +kernel
theorem dX8_best_66 : decode cX8_best 66 = .ok (.if_icmp .ne 10, 3) := by decide +kernel
theorem dX8_best_69 : decode cX8_best 69 = .ok (.aload_n 0, 1) := by decide +kernel
theorem dX8_best_70 : decode cX8_best 70 = .ok (.getfield 321, 3) := by decide +kernel
theorem dX8_best_73 : decode cX8_best 73 = .ok (.goto 10, 3) := by decide +kernel
theorem dX8_best_76 : decode cX8_best 76 = .ok (.aload_n 0, 1) := by decide +kernel
theorem dX8_best_77 : decode cX8_best 77 = .ok (.getfield 36, 3) := by decide +kernel
theorem dX8_best_80 : decode cX8_best 80 = .ok (.iload 4, 2) := by decide +kernel
theorem dX8_best_82 : decode cX8_best 82 = .ok (.iaload, 1) := by decide +kernel
theorem dX8_best_83 : decode cX8_best 83 = .ok (.ireturn, 1) := by decide +kernel
theorem dX8_bound_0 : decode cX8_bound 0 = .ok (.aload_n 0, 1) := by decide +kernel
theorem dX8_bound_1 : decode cX8_bound 1 = .ok (.iconst 0, 1) := by decide +kernel
theorem dX8_bound_2 : decode cX8_bound 2 = .ok (.putfield 3, 3) := by decide +kernel
theorem dX8_bound_5 : decode cX8_bound 5 = .ok (.aload_n 0, 1) := by decide +kernel
theorem dX8_bound_6 : decode cX8_bound 6 = .ok (.aload_n 0, 1) := by decide +kernel
theorem dX8_bound_7 : decode cX8_bound 7 = .ok (.iload_n 1, 1) := by decide +kernel
theorem dX8_bound_8 : decode cX8_bound 8 = .ok (.invokevirtual 300, 3) := by decide +kernel
theorem dX8_bound_11 : decode cX8_bound 11 = .ok (.ifCond .ne 12, 3) := by decide +kernel
theorem dX8_bound_14 : decode cX8_bound 14 = .ok (.aload_n 0, 1) := by decide +kernel
theorem dX8_bound_15 : decode cX8_bound 15 = .ok (.iload_n 2, 1) := by decide +kernel
theorem dX8_bound_16 : decode cX8_bound 16 = .ok (.iload_n 3, 1) := by decide +kernel
theorem dX8_bound_17 : decode cX8_bound 17 = .ok (.invokevirtual 287, 3) := by decide +kernel
theorem dX8_bound_20 : decode cX8_bound 20 = .ok (.ifCond .eq 7, 3) := by decide +kernel
theorem dX8_bound_23 : decode cX8_bound 23 = .ok (.iconst 1, 1) := by decide +kernel
theorem dX8_bound_24 : decode cX8_bound 24 = .ok (.goto 4, 3) := by decide +kernel
theorem dX8_bound_27 : decode cX8_bound 27 = .ok (.iconst 0, 1) := by decide +kernel
theorem dX8_bound_28 : decode cX8_bound 28 = .ok (.iconst 1, 1) := by decide +kernel
theorem dX8_bound_29 : decode cX8_bound 29 = .ok (.invokevirtual 194, 3) := by decide +kernel
theorem dX8_bound_32 : decode cX8_bound 32 = .ok (.ifCond .eq 5, 3) := by decide +kernel
theorem dX8_bound_35 : decode cX8_bound 35 = .ok (.iconst 0, 1) := by decide +kernel
theorem dX8_bound_36 : decode cX8_bound 36 = .ok (.ireturn, 1) := by decide +kernel
theorem dX8_bound_37 : decode cX8_bound 37 = .ok (.aload_n 0, 1) := by decide +kernel
theorem dX8_bound_38 : decode cX8_bound 38 = .ok (.iload_n 2, 1) := by decide +kernel
theorem dX8_bound_39 : decode cX8_bound 39 = .ok (.iload_n 3, 1) := by decide +kernel
theorem dX8_bound_40 : decode cX8_bound 40 = .ok (.invokevirtual 293, 3) := by decide +kernel
theorem dX8_bound_43 : decode cX8_bound 43 = .ok (.iconst 0, 1) := by decide +kernel
theorem dX8_bound_44 : decode cX8_bound 44 = .ok (.istore 4, 2) := by decide +kernel
theorem dX8_bound_46 : decode cX8_bound 46 = .ok (.iload 4, 2) := by decide +kernel
theorem dX8_bound_48 : decode cX8_bound 48 = .ok (.sipush 144, 3) := by decide +kernel
theorem dX8_bound_51 : decode cX8_bound 51 = .ok (.if_icmp .ge 17, 3) := by decide +kernel
theorem dX8_bound_54 : decode cX8_bound 54 = .ok (.aload_n 0, 1) := by decide +kernel
theorem dX8_bound_55 : decode cX8_bound 55 = .ok (.getfield 39, 3) := by decide +kernel
theorem dX8_bound_58 : decode cX8_bound 58 = .ok (.iload 4, 2) := by decide +kernel
theorem dX8_bound_60 : decode cX8_bound 60 = .ok (.iconst 1, 1) := by decide +kernel
theorem dX8_bound_61 : decode cX8_bound 61 = .ok (.bastore, 1) := by decide +kernel
theorem dX8_bound_62 : decode cX8_bound 62 = .ok (.iinc 4 1, 3) := by decide +kernel
theorem dX8_bound_65 : decode cX8_bound 65 = .ok (.goto (-19), 3) := by decide +kernel
theorem dX8_bound_68 : decode cX8_bound 68 = .ok (.iconst 0, 1) := by decide +kernel
theorem dX8_bound_69 : decode cX8_bound 69 = .ok (.istore 4, 2) := by decide +kernel
theorem dX8_bound_71 : decode cX8_bound 71 = .ok (.iload 4, 2) := by decide +kernel
theorem dX8_bound_73 : decode cX8_bound 73 = .ok (.aload_n 0, 1) := by decide +kernel
theorem dX8_bound_74 : decode cX8_bound 74 = .ok (.invokevirtual 333, 3) := by decide +kernel
theorem dX8_bound_77 : decode cX8_bound 77 = .ok (.if_icmp .ge 67, 3) := by decide +kernel
theorem dX8_bound_80 : decode cX8_bound 80 = .ok (.aload_n 0, 1) := by decide +kernel
theorem dX8_bound_81 : decode cX8_bound 81 = .ok (.iload 4, 2) := by decide +kernel
theorem dX8_bound_83 : decode cX8_bound 83 = .ok (.invokevirtual 336, 3) := by decide +kernel
theorem dX8_bound_86 : decode cX8_bound 86 = .ok (.ifCond .eq 52, 3) := by decide +kernel
theorem dX8_bound_89 : decode cX8_bound 89 = .ok (.iconst 0, 1) := by decide +kernel
theorem dX8_bound_90 : decode cX8_bound 90 = .ok (.istore 5, 2) := by decide +kernel
theorem dX8_bound_92 : decode cX8_bound 92 = .ok (.iload 5, 2) := by decide +kernel
theorem dX8_bound_94 : decode cX8_bound 94 = .ok (.sipush 144, 3) := by decide +kernel
theorem dX8_bound_97 : decode cX8_bound 97 = .ok (.if_icmp .ge 41, 3) := by decide +kernel
theorem dX8_bound_100 : decode cX8_bound 100 = .ok (.aload_n 0, 1) := by decide +kernel
theorem dX8_bound_101 : decode cX8_bound 101 = .ok (.getfield 39, 3) := by decide +kernel
theorem dX8_bound_104 : decode cX8_bound 104 = .ok (.iload 5, 2) := by decide +kernel
theorem dX8_bound_106 : decode cX8_bound 106 = .ok (.aload_n 0, 1) := by decide +kernel
theorem dX8_bound_107 : decode cX8_bound 107 = .ok (.getfield 39, 3) := by decide +kernel
theorem dX8_bound_110 : decode cX8_bound 110 = .ok (.iload 5, 2) := by decide +kernel
theorem dX8_bound_112 : decode cX8_bound 112 = .ok (.baload, 1) := by decide +kernel
theorem dX8_bound_113 : decode cX8_bound 113 = .ok (.ifCond .eq 17, 3) := by decide +kernel
theorem dX8_bound_116 : decode cX8_bound 116 = .ok (.aload_n 0, 1) := by decide +kernel
theorem dX8_bound_117 : decode cX8_bound 117 = .ok (.iload_n 1, 1) := by decide +kernel
theorem dX8_bound_118 : decode cX8_bound 118 = .ok (.iload 5, 2) := by decide +kernel
theorem dX8_bound_120 : decode cX8_bound 120 = .ok (.invokevirtual 303, 3) := by decide +kernel
theorem dX8_bound_123 : decode cX8_bound 123 = .ok (.ifCond .eq 7, 3) := by decide +kernel
theorem dX8_bound_126 : decode cX8_bound 126 = .ok (.iconst 1, 1) := by decide +kernel
theorem dX8_bound_127 : decode cX8_bound 127 = .ok (.goto 4, 3) := by decide +kernel
theorem dX8_bound_130 : decode cX8_bound 130 = .ok (.iconst 0, 1) := by decide +kernel
theorem dX8_bound_131 : decode cX8_bound 131 = .ok (.bastore, 1) := by decide +kernel
theorem dX8_bound_132 : decode cX8_bound 132 = .ok (.iinc 5 1, 3) := by decide +kernel
theorem dX8_bound_135 : decode cX8_bound 135 = .ok (.goto (-43), 3) := by decide +kernel
theorem dX8_bound_138 : decode cX8_bound 138 = .ok (.iinc 4 1, 3) := by decide +kernel
theorem dX8_bound_141 : decode cX8_bound 141 = .ok (.goto (-70), 3) := by decide +kernel
theorem dX8_bound_144 : decode cX8_bound 144 = .ok (.iconst 0, 1) := by decide +kernel
theorem dX8_bound_145 : decode cX8_bound 145 = .ok (.istore 4, 2) := by decide +kernel
theorem dX8_bound_147 : decode cX8_bound 147 = .ok (.iconst 0, 1) := by decide +kernel
theorem dX8_bound_148 : decode cX8_bound 148 = .ok (.istore 5, 2) := by decide +kernel
theorem dX8_bound_150 : decode cX8_bound 150 = .ok (.iload 5, 2) := by decide +kernel
theorem dX8_bound_152 : decode cX8_bound 152 = .ok (.sipush 144, 3) := by decide +kernel
theorem dX8_bound_155 : decode cX8_bound 155 = .ok (.if_icmp .ge 29, 3) := by decide +kernel
theorem dX8_bound_158 : decode cX8_bound 158 = .ok (.iload 4, 2) := by decide +kernel
theorem dX8_bound_160 : decode cX8_bound 160 = .ok (.aload_n 0, 1) := by decide +kernel
theorem dX8_bound_161 : decode cX8_bound 161 = .ok (.getfield 39, 3) := by decide +kernel
theorem dX8_bound_164 : decode cX8_bound 164 = .ok (.iload 5, 2) := by decide +kernel
theorem dX8_bound_166 : decode cX8_bound 166 = .ok (.baload, 1) := by decide +kernel
theorem dX8_bound_167 : decode cX8_bound 167 = .ok (.ifCond .eq 7, 3) := by decide +kernel
theorem dX8_bound_170 : decode cX8_bound 170 = .ok (.iconst 1, 1) := by decide +kernel
theorem dX8_bound_171 : decode cX8_bound 171 = .ok (.goto 4, 3) := by decide +kernel
theorem dX8_bound_174 : decode cX8_bound 174 = .ok (.iconst 0, 1) := by decide +kernel
theorem dX8_bound_175 : decode cX8_bound 175 = .ok (.iadd, 1) := by decide +kernel
theorem dX8_bound_176 : decode cX8_bound 176 = .ok (.istore 4, 2) := by decide +kernel
theorem dX8_bound_178 : decode cX8_bound 178 = .ok (.iinc 5 1, 3) := by decide +kernel
theorem dX8_bound_181 : decode cX8_bound 181 = .ok (.goto (-31), 3) := by decide +kernel
theorem dX8_bound_184 : decode cX8_bound 184 = .ok (.iload 4, 2) := by decide +kernel
theorem dX8_bound_186 : decode cX8_bound 186 = .ok (.ireturn, 1) := by decide +kernel
theorem dX8_step_0 : decode cX8_step 0 = .ok (.aload_n 0, 1) := by decide +kernel
theorem dX8_step_1 : decode cX8_step 1 = .ok (.iconst 0, 1) := by decide +kernel
theorem dX8_step_2 : decode cX8_step 2 = .ok (.putfield 3, 3) := by decide +kernel
theorem dX8_step_5 : decode cX8_step 5 = .ok (.aload_n 0, 1) := by decide +kernel
theorem dX8_step_6 : decode cX8_step 6 = .ok (.aload_n 0, 1) := by decide +kernel
theorem dX8_step_7 : decode cX8_step 7 = .ok (.iload_n 1, 1) := by decide +kernel
theorem dX8_step_8 : decode cX8_step 8 = .ok (.invokevirtual 300, 3) := by decide +kernel
theorem dX8_step_11 : decode cX8_step 11 = .ok (.ifCond .ne 12, 3) := by decide +kernel
theorem dX8_step_14 : decode cX8_step 14 = .ok (.aload_n 0, 1) := by decide +kernel
theorem dX8_step_15 : decode cX8_step 15 = .ok (.iload_n 2, 1) := by decide +kernel
theorem dX8_step_16 : decode cX8_step 16 = .ok (.iload_n 3, 1) := by decide +kernel
theorem dX8_step_17 : decode cX8_step 17 = .ok (.invokevirtual 287, 3) := by decide +kernel
theorem dX8_step_20 : decode cX8_step 20 = .ok (.ifCond .eq 7, 3) := by decide +kernel
theorem dX8_step_23 : decode cX8_step 23 = .ok (.iconst 1, 1) := by decide +kernel
theorem dX8_step_24 : decode cX8_step 24 = .ok (.goto 4, 3) := by decide +kernel
theorem dX8_step_27 : decode cX8_step 27 = .ok (.iconst 0, 1) := by decide +kernel
theorem dX8_step_28 : decode cX8_step 28 = .ok (.iconst 1, 1) := by decide +kernel
theorem dX8_step_29 : decode cX8_step 29 = .ok (.invokevirtual 194, 3) := by decide +kernel
theorem dX8_step_32 : decode cX8_step 32 = .ok (.ifCond .eq 5, 3) := by decide +kernel
theorem dX8_step_35 : decode cX8_step 35 = .ok (.iconst 0, 1) := by decide +kernel
theorem dX8_step_36 : decode cX8_step 36 = .ok (.ireturn, 1) := by decide +kernel
theorem dX8_step_37 : decode cX8_step 37 = .ok (.aload_n 0, 1) := by decide +kernel
theorem dX8_step_38 : decode cX8_step 38 = .ok (.iload_n 2, 1) := by decide +kernel
theorem dX8_step_39 : decode cX8_step 39 = .ok (.iload_n 3, 1) := by decide +kernel
theorem dX8_step_40 : decode cX8_step 40 = .ok (.invokevirtual 293, 3) := by decide +kernel
theorem dX8_step_43 : decode cX8_step 43 = .ok (.aload_n 0, 1) := by decide +kernel
theorem dX8_step_44 : decode cX8_step 44 = .ok (.invokevirtual 290, 3) := by decide +kernel
theorem dX8_step_47 : decode cX8_step 47 = .ok (.aload_n 0, 1) := by decide +kernel
theorem dX8_step_48 : decode cX8_step 48 = .ok (.iload_n 1, 1) := by decide +kernel
theorem dX8_step_49 : decode cX8_step 49 = .ok (.invokevirtual 306, 3) := by decide +kernel
theorem dX8_step_52 : decode cX8_step 52 = .ok (.istore 4, 2) := by decide +kernel
theorem dX8_step_54 : decode cX8_step 54 = .ok (.iconst (-1), 1) := by decide +kernel
theorem dX8_step_55 : decode cX8_step 55 = .ok (.istore 5, 2) := by decide +kernel
theorem dX8_step_57 : decode cX8_step 57 = .ok (.iconst 0, 1) := by decide +kernel
theorem dX8_step_58 : decode cX8_step 58 = .ok (.istore 6, 2) := by decide +kernel
theorem dX8_step_60 : decode cX8_step 60 = .ok (.iload 6, 2) := by decide +kernel
theorem dX8_step_62 : decode cX8_step 62 = .ok (.aload_n 0, 1) := by decide +kernel
theorem dX8_step_63 : decode cX8_step 63 = .ok (.invokevirtual 76, 3) := by decide +kernel
theorem dX8_step_66 : decode cX8_step 66 = .ok (.if_icmp .ge 105, 3) := by decide +kernel
theorem dX8_step_69 : decode cX8_step 69 = .ok (.iconst (-1), 1) := by decide +kernel
theorem dX8_step_70 : decode cX8_step 70 = .ok (.istore 7, 2) := by decide +kernel
theorem dX8_step_72 : decode cX8_step 72 = .ok (.iload 7, 2) := by decide +kernel
theorem dX8_step_74 : decode cX8_step 74 = .ok (.aload_n 0, 1) := by decide +kernel
theorem dX8_step_75 : decode cX8_step 75 = .ok (.invokevirtual 68, 3) := by decide +kernel
theorem dX8_step_78 : decode cX8_step 78 = .ok (.if_icmp .ge 87, 3) := by decide +kernel
theorem dX8_step_81 : decode cX8_step 81 = .ok (.aload_n 0, 1) := by decide +kernel
theorem dX8_step_82 : decode cX8_step 82 = .ok (.invokevirtual 290, 3) := by decide +kernel
theorem dX8_step_85 : decode cX8_step 85 = .ok (.iload 7, 2) := by decide +kernel
theorem dX8_step_87 : decode cX8_step 87 = .ok (.ifCond .lt 24, 3) := by decide +kernel
theorem dX8_step_90 : decode cX8_step 90 = .ok (.aload_n 0, 1) := by decide +kernel
theorem dX8_step_91 : decode cX8_step 91 = .ok (.iload 7, 2) := by decide +kernel
theorem dX8_step_93 : decode cX8_step 93 = .ok (.invokevirtual 309, 3) := by decide +kernel
theorem dX8_step_96 : decode cX8_step 96 = .ok (.ifCond .lt 15, 3) := by decide +kernel
theorem dX8_step_99 : decode cX8_step 99 = .ok (.aload_n 0, 1) := by decide +kernel
theorem dX8_step_100 : decode cX8_step 100 = .ok (.getfield 36, 3) := by decide +kernel
theorem dX8_step_103 : decode cX8_step 103 = .ok (.aload_n 0, 1) := by decide +kernel
theorem dX8_step_104 : decode cX8_step 104 = .ok (.iload 7, 2) := by decide +kernel
theorem dX8_step_106 : decode cX8_step 106 = .ok (.invokevirtual 309, 3) := by decide +kernel
theorem dX8_step_109 : decode cX8_step 109 = .ok (.iconst (-1), 1) := by decide +kernel
theorem dX8_step_110 : decode cX8_step 110 = .ok (.iastore, 1) := by decide +kernel
theorem dX8_step_111 : decode cX8_step 111 = .ok (.aload_n 0, 1) := by decide +kernel
theorem dX8_step_112 : decode cX8_step 112 = .ok (.getfield 36, 3) := by decide +kernel
theorem dX8_step_115 : decode cX8_step 115 = .ok (.iload 6, 2) := by decide +kernel
theorem dX8_step_117 : decode cX8_step 117 = .ok (.iload 7, 2) := by decide +kernel
theorem dX8_step_119 : decode cX8_step 119 = .ok (.iastore, 1) := by decide +kernel
theorem dX8_step_120 : decode cX8_step 120 = .ok (.aload_n 0, 1) := by decide +kernel
theorem dX8_step_121 : decode cX8_step 121 = .ok (.invokevirtual 318, 3) := by decide +kernel
theorem dX8_step_124 : decode cX8_step 124 = .ok (.ifCond .eq 35, 3) := by decide +kernel
theorem dX8_step_127 : decode cX8_step 127 = .ok (.aload_n 0, 1) := by decide +kernel
theorem dX8_step_128 : decode cX8_step 128 = .ok (.iload_n 1, 1) := by decide +kernel
theorem dX8_step_129 : decode cX8_step 129 = .ok (.invokevirtual 306, 3) := by decide +kernel
theorem dX8_step_132 : decode cX8_step 132 = .ok (.iload 4, 2) := by decide +kernel
theorem dX8_step_134 : decode cX8_step 134 = .ok (.if_icmp .lt 6, 3) := by decide +kernel
theorem dX8_step_137 : decode cX8_step 137 = .ok (.goto 22, 3) := by decide +kernel
theorem dX8_step_140 : decode cX8_step 140 = .ok (.aload_n 0, 1) := by decide +kernel
theorem dX8_step_141 : decode cX8_step 141 = .ok (.iload_n 1, 1) := by decide +kernel
theorem dX8_step_142 : decode cX8_step 142 = .ok (.invokevirtual 306, 3) := by decide +kernel
theorem dX8_step_145 : decode cX8_step 145 = .ok (.istore 4, 2) := by decide +kernel
theorem dX8_step_147 : decode cX8_step 147 = .ok (.bipush 10, 2) := by decide +kernel
theorem dX8_step_149 : decode cX8_step 149 = .ok (.iload 6, 2) := by decide +kernel
theorem dX8_step_151 : decode cX8_step 151 = .ok (.imul, 1) := by decide +kernel
theorem dX8_step_152 : decode cX8_step 152 = .ok (.iload 7, 2) := by decide +kernel
theorem dX8_step_154 : decode cX8_step 154 = .ok (.iadd, 1) := by decide +kernel
theorem dX8_step_155 : decode cX8_step 155 = .ok (.iconst 1, 1) := by decide +kernel
theorem dX8_step_156 : decode cX8_step 156 = .ok (.iadd, 1) := by decide +kernel
theorem dX8_step_157 : decode cX8_step 157 = .ok (.istore 5, 2) := by decide +kernel
theorem dX8_step_159 : decode cX8_step 159 = .ok (.iinc 7 1, 3) := by decide +kernel
theorem dX8_step_162 : decode cX8_step 162 = .ok (.goto (-90), 3) := by decide +kernel
theorem dX8_step_165 : decode cX8_step 165 = .ok (.iinc 6 1, 3) := by decide +kernel
theorem dX8_step_168 : decode cX8_step 168 = .ok (.goto (-108), 3) := by decide +kernel
theorem dX8_step_171 : decode cX8_step 171 = .ok (.iload 5, 2) := by decide +kernel
theorem dX8_step_173 : decode cX8_step 173 = .ok (.ireturn, 1) := by decide +kernel
theorem dX8_seats_0 : decode cX8_seats 0 = .ok (.aload_n 0, 1) := by decide +kernel
theorem dX8_seats_1 : decode cX8_seats 1 = .ok (.iconst 0, 1) := by decide +kernel
theorem dX8_seats_2 : decode cX8_seats 2 = .ok (.putfield 3, 3) := by decide +kernel
theorem dX8_seats_5 : decode cX8_seats 5 = .ok (.aload_n 0, 1) := by decide +kernel
theorem dX8_seats_6 : decode cX8_seats 6 = .ok (.aload_n 0, 1) := by decide +kernel
theorem dX8_seats_7 : decode cX8_seats 7 = .ok (.iload_n 1, 1) := by decide +kernel
theorem dX8_seats_8 : decode cX8_seats 8 = .ok (.invokevirtual 300, 3) := by decide +kernel
theorem dX8_seats_11 : decode cX8_seats 11 = .ok (.ifCond .ne 10, 3) := by decide +kernel
theorem dX8_seats_14 : decode cX8_seats 14 = .ok (.iload_n 2, 1) := by decide +kernel
theorem dX8_seats_15 : decode cX8_seats 15 = .ok (.invokestatic 278, 3) := by decide +kernel
theorem dX8_seats_18 : decode cX8_seats 18 = .ok (.ifCond .eq 7, 3) := by decide +kernel
theorem dX8_seats_21 : decode cX8_seats 21 = .ok (.iconst 1, 1) := by decide +kernel
theorem dX8_seats_22 : decode cX8_seats 22 = .ok (.goto 4, 3) := by decide +kernel
theorem dX8_seats_25 : decode cX8_seats 25 = .ok (.iconst 0, 1) := by decide +kernel
theorem dX8_seats_26 : decode cX8_seats 26 = .ok (.iconst 1, 1) := by decide +kernel
theorem dX8_seats_27 : decode cX8_seats 27 = .ok (.invokevirtual 194, 3) := by decide +kernel
theorem dX8_seats_30 : decode cX8_seats 30 = .ok (.ifCond .eq 5, 3) := by decide +kernel
theorem dX8_seats_33 : decode cX8_seats 33 = .ok (.iconst 0, 1) := by decide +kernel
theorem dX8_seats_34 : decode cX8_seats 34 = .ok (.ireturn, 1) := by decide +kernel
theorem dX8_seats_35 : decode cX8_seats 35 = .ok (.aload_n 0, 1) := by decide +kernel
theorem dX8_seats_36 : decode cX8_seats 36 = .ok (.invokevirtual 290, 3) := by decide +kernel
theorem dX8_seats_39 : decode cX8_seats 39 = .ok (.iconst 0, 1) := by decide +kernel
theorem dX8_seats_40 : decode cX8_seats 40 = .ok (.istore_n 3, 1) := by decide +kernel
theorem dX8_seats_41 : decode cX8_seats 41 = .ok (.bipush (-3), 2) := by decide +kernel
theorem dX8_seats_43 : decode cX8_seats 43 = .ok (.istore 4, 2) := by decide +kernel
theorem dX8_seats_45 : decode cX8_seats 45 = .ok (.iload 4, 2) := by decide +kernel
theorem dX8_seats_47 : decode cX8_seats 47 = .ok (.iconst 3, 1) := by decide +kernel
theorem dX8_seats_48 : decode cX8_seats 48 = .ok (.if_icmp .gt 37, 3) := by decide +kernel
theorem dX8_seats_51 : decode cX8_seats 51 = .ok (.aload_n 0, 1) := by decide +kernel
theorem dX8_seats_52 : decode cX8_seats 52 = .ok (.iload_n 2, 1) := by decide +kernel
theorem dX8_seats_53 : decode cX8_seats 53 = .ok (.iload 4, 2) := by decide +kernel
theorem dX8_seats_55 : decode cX8_seats 55 = .ok (.invokevirtual 293, 3) := by decide +kernel
theorem dX8_seats_58 : decode cX8_seats 58 = .ok (.iload_n 3, 1) := by decide +kernel
theorem dX8_seats_59 : decode cX8_seats 59 = .ok (.aload_n 0, 1) := by decide +kernel
theorem dX8_seats_60 : decode cX8_seats 60 = .ok (.iload_n 1, 1) := by decide +kernel
theorem dX8_seats_61 : decode cX8_seats 61 = .ok (.invokevirtual 306, 3) := by decide +kernel
theorem dX8_seats_64 : decode cX8_seats 64 = .ok (.ifCond .ne 12, 3) := by decide +kernel
theorem dX8_seats_67 : decode cX8_seats 67 = .ok (.iconst 1, 1) := by decide +kernel
theorem dX8_seats_68 : decode cX8_seats 68 = .ok (.iload 4, 2) := by decide +kernel
theorem dX8_seats_70 : decode cX8_seats 70 = .ok (.iconst 3, 1) := by decide +kernel
theorem dX8_seats_71 : decode cX8_seats 71 = .ok (.iadd, 1) := by decide +kernel
theorem dX8_seats_72 : decode cX8_seats 72 = .ok (.ishl, 1) := by decide +kernel
theorem dX8_seats_73 : decode cX8_seats 73 = .ok (.goto 4, 3) := by decide +kernel
theorem dX8_seats_76 : decode cX8_seats 76 = .ok (.iconst 0, 1) := by decide +kernel
theorem dX8_seats_77 : decode cX8_seats 77 = .ok (.ior, 1) := by decide +kernel
theorem dX8_seats_78 : decode cX8_seats 78 = .ok (.istore_n 3, 1) := by decide +kernel
theorem dX8_seats_79 : decode cX8_seats 79 = .ok (.iinc 4 1, 3) := by decide +kernel
theorem dX8_seats_82 : decode cX8_seats 82 = .ok (.goto (-37), 3) := by decide +kernel
theorem dX8_seats_85 : decode cX8_seats 85 = .ok (.iload_n 3, 1) := by decide +kernel
theorem dX8_seats_86 : decode cX8_seats 86 = .ok (.ireturn, 1) := by decide +kernel
theorem dX8_helps_0 : decode cX8_helps 0 = .ok (.aload_n 0, 1) := by decide +kernel
theorem dX8_helps_1 : decode cX8_helps 1 = .ok (.iconst 0, 1) := by decide +kernel
theorem dX8_helps_2 : decode cX8_helps 2 = .ok (.putfield 3, 3) := by decide +kernel
theorem dX8_helps_5 : decode cX8_helps 5 = .ok (.aload_n 0, 1) := by decide +kernel
theorem dX8_helps_6 : decode cX8_helps 6 = .ok (.aload_n 0, 1) := by decide +kernel
theorem dX8_helps_7 : decode cX8_helps 7 = .ok (.iload_n 1, 1) := by decide +kernel
theorem dX8_helps_8 : decode cX8_helps 8 = .ok (.invokevirtual 202, 3) := by decide +kernel
theorem dX8_helps_11 : decode cX8_helps 11 = .ok (.ifCond .ne 21, 3) := by decide +kernel
theorem dX8_helps_14 : decode cX8_helps 14 = .ok (.aload_n 0, 1) := by decide +kernel
theorem dX8_helps_15 : decode cX8_helps 15 = .ok (.iload_n 2, 1) := by decide +kernel
theorem dX8_helps_16 : decode cX8_helps 16 = .ok (.invokevirtual 300, 3) := by decide +kernel
theorem dX8_helps_19 : decode cX8_helps 19 = .ok (.ifCond .ne 13, 3) := by decide +kernel
theorem dX8_helps_22 : decode cX8_helps 22 = .ok (.aload_n 0, 1) := by decide +kernel
theorem dX8_helps_23 : decode cX8_helps 23 = .ok (.iload_n 3, 1) := by decide +kernel
theorem dX8_helps_24 : decode cX8_helps 24 = .ok (.iload 4, 2) := by decide +kernel
theorem dX8_helps_26 : decode cX8_helps 26 = .ok (.invokevirtual 287, 3) := by decide +kernel
theorem dX8_helps_29 : decode cX8_helps 29 = .ok (.ifCond .eq 7, 3) := by decide +kernel
theorem dX8_helps_32 : decode cX8_helps 32 = .ok (.iconst 1, 1) := by decide +kernel
theorem dX8_helps_33 : decode cX8_helps 33 = .ok (.goto 4, 3) := by decide +kernel
theorem dX8_helps_36 : decode cX8_helps 36 = .ok (.iconst 0, 1) := by decide +kernel
theorem dX8_helps_37 : decode cX8_helps 37 = .ok (.iconst 1, 1) := by decide +kernel
theorem dX8_helps_38 : decode cX8_helps 38 = .ok (.invokevirtual 194, 3) := by decide +kernel
theorem dX8_helps_41 : decode cX8_helps 41 = .ok (.ifCond .ne 24, 3) := by decide +kernel
theorem dX8_helps_44 : decode cX8_helps 44 = .ok (.aload_n 0, 1) := by decide +kernel
theorem dX8_helps_45 : decode cX8_helps 45 = .ok (.aload_n 0, 1) := by decide +kernel
theorem dX8_helps_46 : decode cX8_helps 46 = .ok (.iload_n 1, 1) := by decide +kernel
theorem dX8_helps_47 : decode cX8_helps 47 = .ok (.invokevirtual 249, 3) := by decide +kernel
theorem dX8_helps_50 : decode cX8_helps 50 = .ok (.ifCond .ge 7, 3) := by decide +kernel
theorem dX8_helps_53 : decode cX8_helps 53 = .ok (.iconst 1, 1) := by decide +kernel
theorem dX8_helps_54 : decode cX8_helps 54 = .ok (.goto 4, 3) := by decide +kernel
theorem dX8_helps_57 : decode cX8_helps 57 = .ok (.iconst 0, 1) := by decide +kernel
theorem dX8_helps_58 : decode cX8_helps 58 = .ok (.iconst 2, 1) := by decide +kernel
theorem dX8_helps_59 : decode cX8_helps 59 = .ok (.invokevirtual 194, 3) := by decide +kernel
theorem dX8_helps_62 : decode cX8_helps 62 = .ok (.ifCond .eq 5, 3) := by decide +kernel
theorem dX8_helps_65 : decode cX8_helps 65 = .ok (.iconst 0, 1) := by decide +kernel
theorem dX8_helps_66 : decode cX8_helps 66 = .ok (.ireturn, 1) := by decide +kernel
theorem dX8_helps_67 : decode cX8_helps 67 = .ok (.aload_n 0, 1) := by decide +kernel
theorem dX8_helps_68 : decode cX8_helps 68 = .ok (.invokevirtual 290, 3) := by decide +kernel
theorem dX8_helps_71 : decode cX8_helps 71 = .ok (.aload_n 0, 1) := by decide +kernel
theorem dX8_helps_72 : decode cX8_helps 72 = .ok (.iload_n 3, 1) := by decide +kernel
theorem dX8_helps_73 : decode cX8_helps 73 = .ok (.iload 4, 2) := by decide +kernel
theorem dX8_helps_75 : decode cX8_helps 75 = .ok (.invokevirtual 293, 3) := by decide +kernel
theorem dX8_helps_78 : decode cX8_helps 78 = .ok (.aload_n 0, 1) := by decide +kernel
theorem dX8_helps_79 : decode cX8_helps 79 = .ok (.iload_n 2, 1) := by decide +kernel
theorem dX8_helps_80 : decode cX8_helps 80 = .ok (.invokevirtual 306, 3) := by decide +kernel
theorem dX8_helps_83 : decode cX8_helps 83 = .ok (.istore 5, 2) := by decide +kernel
theorem dX8_helps_85 : decode cX8_helps 85 = .ok (.aload_n 0, 1) := by decide +kernel
theorem dX8_helps_86 : decode cX8_helps 86 = .ok (.getfield 36, 3) := by decide +kernel
theorem dX8_helps_89 : decode cX8_helps 89 = .ok (.aload_n 0, 1) := by decide +kernel
theorem dX8_helps_90 : decode cX8_helps 90 = .ok (.iload_n 1, 1) := by decide +kernel
theorem dX8_helps_91 : decode cX8_helps 91 = .ok (.invokevirtual 249, 3) := by decide +kernel
theorem dX8_helps_94 : decode cX8_helps 94 = .ok (.iconst (-1), 1) := by decide +kernel
theorem dX8_helps_95 : decode cX8_helps 95 = .ok (.iastore, 1) := by decide +kernel
theorem dX8_helps_96 : decode cX8_helps 96 = .ok (.aload_n 0, 1) := by decide +kernel
theorem dX8_helps_97 : decode cX8_helps 97 = .ok (.iload_n 2, 1) := by decide +kernel
theorem dX8_helps_98 : decode cX8_helps 98 = .ok (.invokevirtual 306, 3) := by decide +kernel
theorem dX8_helps_101 : decode cX8_helps 101 = .ok (.iload 5, 2) := by decide +kernel
theorem dX8_helps_103 : decode cX8_helps 103 = .ok (.isub, 1) := by decide +kernel
theorem dX8_helps_104 : decode cX8_helps 104 = .ok (.ireturn, 1) := by decide +kernel
theorem dX8_anew_0 : decode cX8_anew 0 = .ok (.aload_n 0, 1) := by decide +kernel
theorem dX8_anew_1 : decode cX8_anew 1 = .ok (.iconst 0, 1) := by decide +kernel
theorem dX8_anew_2 : decode cX8_anew 2 = .ok (.putfield 3, 3) := by decide +kernel
theorem dX8_anew_5 : decode cX8_anew 5 = .ok (.aload_n 0, 1) := by decide +kernel
theorem dX8_anew_6 : decode cX8_anew 6 = .ok (.aload_n 0, 1) := by decide +kernel
theorem dX8_anew_7 : decode cX8_anew 7 = .ok (.iload_n 1, 1) := by decide +kernel
theorem dX8_anew_8 : decode cX8_anew 8 = .ok (.invokevirtual 202, 3) := by decide +kernel
theorem dX8_anew_11 : decode cX8_anew 11 = .ok (.ifCond .ne 21, 3) := by decide +kernel
theorem dX8_anew_14 : decode cX8_anew 14 = .ok (.aload_n 0, 1) := by decide +kernel
theorem dX8_anew_15 : decode cX8_anew 15 = .ok (.iload_n 2, 1) := by decide +kernel
theorem dX8_anew_16 : decode cX8_anew 16 = .ok (.invokevirtual 300, 3) := by decide +kernel
theorem dX8_anew_19 : decode cX8_anew 19 = .ok (.ifCond .ne 13, 3) := by decide +kernel
theorem dX8_anew_22 : decode cX8_anew 22 = .ok (.aload_n 0, 1) := by decide +kernel
theorem dX8_anew_23 : decode cX8_anew 23 = .ok (.iload_n 3, 1) := by decide +kernel
theorem dX8_anew_24 : decode cX8_anew 24 = .ok (.iload 4, 2) := by decide +kernel
theorem dX8_anew_26 : decode cX8_anew 26 = .ok (.invokevirtual 287, 3) := by decide +kernel
theorem dX8_anew_29 : decode cX8_anew 29 = .ok (.ifCond .eq 7, 3) := by decide +kernel
theorem dX8_anew_32 : decode cX8_anew 32 = .ok (.iconst 1, 1) := by decide +kernel
theorem dX8_anew_33 : decode cX8_anew 33 = .ok (.goto 4, 3) := by decide +kernel
theorem dX8_anew_36 : decode cX8_anew 36 = .ok (.iconst 0, 1) := by decide +kernel
theorem dX8_anew_37 : decode cX8_anew 37 = .ok (.iconst 1, 1) := by decide +kernel
theorem dX8_anew_38 : decode cX8_anew 38 = .ok (.invokevirtual 194, 3) := by decide +kernel
theorem dX8_anew_41 : decode cX8_anew 41 = .ok (.ifCond .ne 47, 3) := by decide +kernel
theorem dX8_anew_44 : decode cX8_anew 44 = .ok (.aload_n 0, 1) := by decide +kernel
theorem dX8_anew_45 : decode cX8_anew 45 = .ok (.aload_n 0, 1) := by decide +kernel
theorem dX8_anew_46 : decode cX8_anew 46 = .ok (.getfield 13, 3) := by decide +kernel
theorem dX8_anew_49 : decode cX8_anew 49 = .ok (.iconst 5, 1) := by decide +kernel
theorem dX8_anew_50 : decode cX8_anew 50 = .ok (.iaload, 1) := by decide +kernel
theorem dX8_anew_51 : decode cX8_anew 51 = .ok (.iconst 1, 1) := by decide +kernel
theorem dX8_anew_52 : decode cX8_anew 52 = .ok (.if_icmp .eq 24, 3) := by decide +kernel
theorem dX8_anew_55 : decode cX8_anew 55 = .ok (.aload_n 0, 1) := by decide +kernel
theorem dX8_anew_56 : decode cX8_anew 56 = .ok (.iload_n 1, 1) := by decide +kernel
theorem dX8_anew_57 : decode cX8_anew 57 = .ok (.invokevirtual 249, 3) := by decide +kernel
theorem dX8_anew_60 : decode cX8_anew 60 = .ok (.ifCond .lt 16, 3) := by decide +kernel
theorem dX8_anew_63 : decode cX8_anew 63 = .ok (.aload_n 0, 1) := by decide +kernel
theorem dX8_anew_64 : decode cX8_anew 64 = .ok (.iload_n 1, 1) := by decide +kernel
theorem dX8_anew_65 : decode cX8_anew 65 = .ok (.iconst 0, 1) := by decide +kernel
theorem dX8_anew_66 : decode cX8_anew 66 = .ok (.invokevirtual 205, 3) := by decide +kernel
theorem dX8_anew_69 : decode cX8_anew 69 = .ok (.iload_n 3, 1) := by decide +kernel
theorem dX8_anew_70 : decode cX8_anew 70 = .ok (.invokestatic 123, 3) := by decide +kernel
theorem dX8_anew_73 : decode cX8_anew 73 = .ok (.ifCond .ne 7, 3) := by decide +kernel
theorem dX8_anew_76 : decode cX8_anew 76 = .ok (.iconst 1, 1) := by decide +kernel
theorem dX8_anew_77 : decode cX8_anew 77 = .ok (.goto 4, 3) := by decide +kernel
theorem dX8_anew_80 : decode cX8_anew 80 = .ok (.iconst 0, 1) := by decide +kernel
theorem dX8_anew_81 : decode cX8_anew 81 = .ok (.iconst 2, 1) := by decide +kernel
theorem dX8_anew_82 : decode cX8_anew 82 = .ok (.invokevirtual 194, 3) := by decide +kernel
theorem dX8_anew_85 : decode cX8_anew 85 = .ok (.ifCond .eq 5, 3) := by decide +kernel
theorem dX8_anew_88 : decode cX8_anew 88 = .ok (.iconst 0, 1) := by decide +kernel
theorem dX8_anew_89 : decode cX8_anew 89 = .ok (.ireturn, 1) := by decide +kernel
theorem dX8_anew_90 : decode cX8_anew 90 = .ok (.aload_n 0, 1) := by decide +kernel
theorem dX8_anew_91 : decode cX8_anew 91 = .ok (.invokevirtual 290, 3) := by decide +kernel
theorem dX8_anew_94 : decode cX8_anew 94 = .ok (.aload_n 0, 1) := by decide +kernel
theorem dX8_anew_95 : decode cX8_anew 95 = .ok (.iload_n 3, 1) := by decide +kernel
theorem dX8_anew_96 : decode cX8_anew 96 = .ok (.iload 4, 2) := by decide +kernel
theorem dX8_anew_98 : decode cX8_anew 98 = .ok (.invokevirtual 293, 3) := by decide +kernel
theorem dX8_anew_101 : decode cX8_anew 101 = .ok (.aload_n 0, 1) := by decide +kernel
theorem dX8_anew_102 : decode cX8_anew 102 = .ok (.iload_n 1, 1) := by decide +kernel
theorem dX8_anew_103 : decode cX8_anew 103 = .ok (.iconst 1, 1) := by decide +kernel
theorem dX8_anew_104 : decode cX8_anew 104 = .ok (.invokevirtual 205, 3) := by decide +kernel
theorem dX8_anew_107 : decode cX8_anew 107 = .ok (.istore 5, 2) := by decide +kernel
theorem dX8_anew_109 : decode cX8_anew 109 = .ok (.aload_n 0, 1) := by decide +kernel
theorem dX8_anew_110 : decode cX8_anew 110 = .ok (.iload_n 1, 1) := by decide +kernel
theorem dX8_anew_111 : decode cX8_anew 111 = .ok (.invokevirtual 249, 3) := by decide +kernel
theorem dX8_anew_114 : decode cX8_anew 114 = .ok (.istore 6, 2) := by decide +kernel
theorem dX8_anew_116 : decode cX8_anew 116 = .ok (.iconst 0, 1) := by decide +kernel
theorem dX8_anew_117 : decode cX8_anew 117 = .ok (.istore 7, 2) := by decide +kernel
theorem dX8_anew_119 : decode cX8_anew 119 = .ok (.iconst 0, 1) := by decide +kernel
theorem dX8_anew_120 : decode cX8_anew 120 = .ok (.istore 8, 2) := by decide +kernel
theorem dX8_anew_122 : decode cX8_anew 122 = .ok (.iload 8, 2) := by decide +kernel
theorem dX8_anew_124 : decode cX8_anew 124 = .ok (.bipush 25, 2) := by decide +kernel
theorem dX8_anew_126 : decode cX8_anew 126 = .ok (.if_icmp .ge 80, 3) := by decide +kernel
theorem dX8_anew_129 : decode cX8_anew 129 = .ok (.aload_n 0, 1) := by decide +kernel
theorem dX8_anew_130 : decode cX8_anew 130 = .ok (.iload_n 2, 1) := by decide +kernel
theorem dX8_anew_131 : decode cX8_anew 131 = .ok (.invokevirtual 306, 3) := by decide +kernel
theorem dX8_anew_134 : decode cX8_anew 134 = .ok (.istore 9, 2) := by decide +kernel
theorem dX8_anew_136 : decode cX8_anew 136 = .ok (.aload_n 0, 1) := by decide +kernel
theorem dX8_anew_137 : decode cX8_anew 137 = .ok (.iload_n 1, 1) := by decide +kernel
theorem dX8_anew_138 : decode cX8_anew 138 = .ok (.iconst 1, 1) := by decide +kernel
theorem dX8_anew_139 : decode cX8_anew 139 = .ok (.iload 5, 2) := by decide +kernel
theorem dX8_anew_141 : decode cX8_anew 141 = .ok (.iconst 1, 1) := by decide +kernel
theorem dX8_anew_142 : decode cX8_anew 142 = .ok (.iload 8, 2) := by decide +kernel
theorem dX8_anew_144 : decode cX8_anew 144 = .ok (.ishl, 1) := by decide +kernel
theorem dX8_anew_145 : decode cX8_anew 145 = .ok (.ixor, 1) := by decide +kernel
theorem dX8_anew_146 : decode cX8_anew 146 = .ok (.invokevirtual 198, 3) := by decide +kernel
theorem dX8_anew_149 : decode cX8_anew 149 = .ok (.aload_n 0, 1) := by decide +kernel
theorem dX8_anew_150 : decode cX8_anew 150 = .ok (.iload 6, 2) := by decide +kernel
theorem dX8_anew_152 : decode cX8_anew 152 = .ok (.iload_n 1, 1) := by decide +kernel
theorem dX8_anew_153 : decode cX8_anew 153 = .ok (.iload_n 3, 1) := by decide +kernel
theorem dX8_anew_154 : decode cX8_anew 154 = .ok (.iload 4, 2) := by decide +kernel
theorem dX8_anew_156 : decode cX8_anew 156 = .ok (.invokevirtual 264, 3) := by decide +kernel
theorem dX8_anew_159 : decode cX8_anew 159 = .ok (.iload 7, 2) := by decide +kernel
theorem dX8_anew_161 : decode cX8_anew 161 = .ok (.aload_n 0, 1) := by decide +kernel
theorem dX8_anew_162 : decode cX8_anew 162 = .ok (.iload_n 2, 1) := by decide +kernel
theorem dX8_anew_163 : decode cX8_anew 163 = .ok (.invokevirtual 306, 3) := by decide +kernel
theorem dX8_anew_166 : decode cX8_anew 166 = .ok (.iload 9, 2) := by decide +kernel
theorem dX8_anew_168 : decode cX8_anew 168 = .ok (.if_icmp .ge 10, 3) := by decide +kernel
theorem dX8_anew_171 : decode cX8_anew 171 = .ok (.iconst 1, 1) := by decide +kernel
theorem dX8_anew_172 : decode cX8_anew 172 = .ok (.iload 8, 2) := by decide +kernel
theorem dX8_anew_174 : decode cX8_anew 174 = .ok (.ishl, 1) := by decide +kernel
theorem dX8_anew_175 : decode cX8_anew 175 = .ok (.goto 4, 3) := by decide +kernel
theorem dX8_anew_178 : decode cX8_anew 178 = .ok (.iconst 0, 1) := by decide +kernel
theorem dX8_anew_179 : decode cX8_anew 179 = .ok (.ior, 1) := by decide +kernel
theorem dX8_anew_180 : decode cX8_anew 180 = .ok (.istore 7, 2) := by decide +kernel
theorem dX8_anew_182 : decode cX8_anew 182 = .ok (.aload_n 0, 1) := by decide +kernel
theorem dX8_anew_183 : decode cX8_anew 183 = .ok (.iload_n 1, 1) := by decide +kernel
theorem dX8_anew_184 : decode cX8_anew 184 = .ok (.iconst 1, 1) := by decide +kernel
theorem dX8_anew_185 : decode cX8_anew 185 = .ok (.iload 5, 2) := by decide +kernel
theorem dX8_anew_187 : decode cX8_anew 187 = .ok (.invokevirtual 198, 3) := by decide +kernel
theorem dX8_anew_190 : decode cX8_anew 190 = .ok (.aload_n 0, 1) := by decide +kernel
theorem dX8_anew_191 : decode cX8_anew 191 = .ok (.iload 6, 2) := by decide +kernel
theorem dX8_anew_193 : decode cX8_anew 193 = .ok (.iload_n 1, 1) := by decide +kernel
theorem dX8_anew_194 : decode cX8_anew 194 = .ok (.iload_n 3, 1) := by decide +kernel
theorem dX8_anew_195 : decode cX8_anew 195 = .ok (.iload 4, 2) := by decide +kernel
theorem dX8_anew_197 : decode cX8_anew 197 = .ok (.invokevirtual 264, 3) := by decide +kernel
theorem dX8_anew_200 : decode cX8_anew 200 = .ok (.iinc 8 1, 3) := by decide +kernel
theorem dX8_anew_203 : decode cX8_anew 203 = .ok (.goto (-81), 3) := by decide +kernel
theorem dX8_anew_206 : decode cX8_anew 206 = .ok (.iload 7, 2) := by decide +kernel
theorem dX8_anew_208 : decode cX8_anew 208 = .ok (.ireturn, 1) := by decide +kernel
theorem dX8_idle_0 : decode cX8_idle 0 = .ok (.aload_n 0, 1) := by decide +kernel
theorem dX8_idle_1 : decode cX8_idle 1 = .ok (.iconst 0, 1) := by decide +kernel
theorem dX8_idle_2 : decode cX8_idle 2 = .ok (.putfield 3, 3) := by decide +kernel
theorem dX8_idle_5 : decode cX8_idle 5 = .ok (.aload_n 0, 1) := by decide +kernel
theorem dX8_idle_6 : decode cX8_idle 6 = .ok (.aload_n 0, 1) := by decide +kernel
theorem dX8_idle_7 : decode cX8_idle 7 = .ok (.iload_n 1, 1) := by decide +kernel
theorem dX8_idle_8 : decode cX8_idle 8 = .ok (.iload_n 2, 1) := by decide +kernel
theorem dX8_idle_9 : decode cX8_idle 9 = .ok (.invokevirtual 287, 3) := by decide +kernel
theorem dX8_idle_12 : decode cX8_idle 12 = .ok (.iconst 1, 1) := by decide +kernel
theorem dX8_idle_13 : decode cX8_idle 13 = .ok (.invokevirtual 194, 3) := by decide +kernel
theorem dX8_idle_16 : decode cX8_idle 16 = .ok (.ifCond .eq 5, 3) := by decide +kernel
theorem dX8_idle_19 : decode cX8_idle 19 = .ok (.iconst 0, 1) := by decide +kernel
theorem dX8_idle_20 : decode cX8_idle 20 = .ok (.ireturn, 1) := by decide +kernel
theorem dX8_idle_21 : decode cX8_idle 21 = .ok (.aload_n 0, 1) := by decide +kernel
theorem dX8_idle_22 : decode cX8_idle 22 = .ok (.iload_n 1, 1) := by decide +kernel
theorem dX8_idle_23 : decode cX8_idle 23 = .ok (.iload_n 2, 1) := by decide +kernel
theorem dX8_idle_24 : decode cX8_idle 24 = .ok (.invokevirtual 293, 3) := by decide +kernel
theorem dX8_idle_27 : decode cX8_idle 27 = .ok (.iconst 0, 1) := by decide +kernel
theorem dX8_idle_28 : decode cX8_idle 28 = .ok (.istore_n 3, 1) := by decide +kernel
theorem dX8_idle_29 : decode cX8_idle 29 = .ok (.iconst 0, 1) := by decide +kernel
theorem dX8_idle_30 : decode cX8_idle 30 = .ok (.istore 4, 2) := by decide +kernel
theorem dX8_idle_32 : decode cX8_idle 32 = .ok (.iload 4, 2) := by decide +kernel
theorem dX8_idle_34 : decode cX8_idle 34 = .ok (.aload_n 0, 1) := by decide +kernel
theorem dX8_idle_35 : decode cX8_idle 35 = .ok (.invokevirtual 76, 3) := by decide +kernel
theorem dX8_idle_38 : decode cX8_idle 38 = .ok (.if_icmp .ge 59, 3) := by decide +kernel
theorem dX8_idle_41 : decode cX8_idle 41 = .ok (.aload_n 0, 1) := by decide +kernel
theorem dX8_idle_42 : decode cX8_idle 42 = .ok (.iload 4, 2) := by decide +kernel
theorem dX8_idle_44 : decode cX8_idle 44 = .ok (.invokevirtual 243, 3) := by decide +kernel
theorem dX8_idle_47 : decode cX8_idle 47 = .ok (.ifCond .ge 6, 3) := by decide +kernel
theorem dX8_idle_50 : decode cX8_idle 50 = .ok (.goto 41, 3) := by decide +kernel
theorem dX8_idle_53 : decode cX8_idle 53 = .ok (.aload_n 0, 1) := by decide +kernel
theorem dX8_idle_54 : decode cX8_idle 54 = .ok (.invokevirtual 290, 3) := by decide +kernel
theorem dX8_idle_57 : decode cX8_idle 57 = .ok (.aload_n 0, 1) := by decide +kernel
theorem dX8_idle_58 : decode cX8_idle 58 = .ok (.invokevirtual 347, 3) := by decide +kernel
theorem dX8_idle_61 : decode cX8_idle 61 = .ok (.aload_n 0, 1) := by decide +kernel
theorem dX8_idle_62 : decode cX8_idle 62 = .ok (.getfield 36, 3) := by decide +kernel
theorem dX8_idle_65 : decode cX8_idle 65 = .ok (.iload 4, 2) := by decide +kernel
theorem dX8_idle_67 : decode cX8_idle 67 = .ok (.iconst (-1), 1) := by decide +kernel
theorem dX8_idle_68 : decode cX8_idle 68 = .ok (.iastore, 1) := by decide +kernel
theorem dX8_idle_69 : decode cX8_idle 69 = .ok (.iload_n 3, 1) := by decide +kernel
theorem dX8_idle_70 : decode cX8_idle 70 = .ok (.aload_n 0, 1) := by decide +kernel
theorem dX8_idle_71 : decode cX8_idle 71 = .ok (.invokevirtual 350, 3) := by decide +kernel
theorem dX8_idle_74 : decode cX8_idle 74 = .ok (.ifCond .ne 14, 3) := by decide +kernel
theorem dX8_idle_77 : decode cX8_idle 77 = .ok (.iconst 1, 1) := by decide +kernel
theorem dX8_idle_78 : decode cX8_idle 78 = .ok (.aload_n 0, 1) := by decide +kernel
theorem dX8_idle_79 : decode cX8_idle 79 = .ok (.iload 4, 2) := by decide +kernel
theorem dX8_idle_81 : decode cX8_idle 81 = .ok (.invokevirtual 243, 3) := by decide +kernel
theorem dX8_idle_84 : decode cX8_idle 84 = .ok (.ishl, 1) := by decide +kernel
theorem dX8_idle_85 : decode cX8_idle 85 = .ok (.goto 4, 3) := by decide +kernel
theorem dX8_idle_88 : decode cX8_idle 88 = .ok (.iconst 0, 1) := by decide +kernel
theorem dX8_idle_89 : decode cX8_idle 89 = .ok (.ior, 1) := by decide +kernel
theorem dX8_idle_90 : decode cX8_idle 90 = .ok (.istore_n 3, 1) := by decide +kernel
theorem dX8_idle_91 : decode cX8_idle 91 = .ok (.iinc 4 1, 3) := by decide +kernel
theorem dX8_idle_94 : decode cX8_idle 94 = .ok (.goto (-62), 3) := by decide +kernel
theorem dX8_idle_97 : decode cX8_idle 97 = .ok (.iload_n 3, 1) := by decide +kernel
theorem dX8_idle_98 : decode cX8_idle 98 = .ok (.ireturn, 1) := by decide +kernel
theorem dX8_keeps_0 : decode cX8_keeps 0 = .ok (.iconst 0, 1) := by decide +kernel
theorem dX8_keeps_1 : decode cX8_keeps 1 = .ok (.istore_n 1, 1) := by decide +kernel
theorem dX8_keeps_2 : decode cX8_keeps 2 = .ok (.iload_n 1, 1) := by decide +kernel
theorem dX8_keeps_3 : decode cX8_keeps 3 = .ok (.sipush 144, 3) := by decide +kernel
theorem dX8_keeps_6 : decode cX8_keeps 6 = .ok (.if_icmp .ge 20, 3) := by decide +kernel
theorem dX8_keeps_9 : decode cX8_keeps 9 = .ok (.aload_n 0, 1) := by decide +kernel
theorem dX8_keeps_10 : decode cX8_keeps 10 = .ok (.getfield 43, 3) := by decide +kernel
theorem dX8_keeps_13 : decode cX8_keeps 13 = .ok (.iload_n 1, 1) := by decide +kernel
theorem dX8_keeps_14 : decode cX8_keeps 14 = .ok (.aload_n 0, 1) := by decide +kernel
theorem dX8_keeps_15 : decode cX8_keeps 15 = .ok (.iload_n 1, 1) := by decide +kernel
theorem dX8_keeps_16 : decode cX8_keeps 16 = .ok (.invokevirtual 297, 3) := by decide +kernel
theorem dX8_keeps_19 : decode cX8_keeps 19 = .ok (.iastore, 1) := by decide +kernel
theorem dX8_keeps_20 : decode cX8_keeps 20 = .ok (.iinc 1 1, 3) := by decide +kernel
theorem dX8_keeps_23 : decode cX8_keeps 23 = .ok (.goto (-21), 3) := by decide +kernel
theorem dX8_keeps_26 : decode cX8_keeps 26 = .ok (.return_, 1) := by decide +kernel
theorem dX8_others_0 : decode cX8_others 0 = .ok (.iconst 0, 1) := by decide +kernel
theorem dX8_others_1 : decode cX8_others 1 = .ok (.istore_n 1, 1) := by decide +kernel
theorem dX8_others_2 : decode cX8_others 2 = .ok (.iconst 0, 1) := by decide +kernel
theorem dX8_others_3 : decode cX8_others 3 = .ok (.istore_n 2, 1) := by decide +kernel
theorem dX8_others_4 : decode cX8_others 4 = .ok (.iload_n 2, 1) := by decide +kernel
theorem dX8_others_5 : decode cX8_others 5 = .ok (.sipush 144, 3) := by decide +kernel
theorem dX8_others_8 : decode cX8_others 8 = .ok (.if_icmp .ge 31, 3) := by decide +kernel
theorem dX8_others_11 : decode cX8_others 11 = .ok (.iload_n 1, 1) := by decide +kernel
theorem dX8_others_12 : decode cX8_others 12 = .ok (.aload_n 0, 1) := by decide +kernel
theorem dX8_others_13 : decode cX8_others 13 = .ok (.getfield 43, 3) := by decide +kernel
theorem dX8_others_16 : decode cX8_others 16 = .ok (.iload_n 2, 1) := by decide +kernel
theorem dX8_others_17 : decode cX8_others 17 = .ok (.iaload, 1) := by decide +kernel
theorem dX8_others_18 : decode cX8_others 18 = .ok (.aload_n 0, 1) := by decide +kernel
theorem dX8_others_19 : decode cX8_others 19 = .ok (.iload_n 2, 1) := by decide +kernel
theorem dX8_others_20 : decode cX8_others 20 = .ok (.invokevirtual 297, 3) := by decide +kernel
theorem dX8_others_23 : decode cX8_others 23 = .ok (.if_icmp .eq 7, 3) := by decide +kernel
theorem dX8_others_26 : decode cX8_others 26 = .ok (.iconst 1, 1) := by decide +kernel
theorem dX8_others_27 : decode cX8_others 27 = .ok (.goto 4, 3) := by decide +kernel
theorem dX8_others_30 : decode cX8_others 30 = .ok (.iconst 0, 1) := by decide +kernel
theorem dX8_others_31 : decode cX8_others 31 = .ok (.iadd, 1) := by decide +kernel
theorem dX8_others_32 : decode cX8_others 32 = .ok (.istore_n 1, 1) := by decide +kernel
theorem dX8_others_33 : decode cX8_others 33 = .ok (.iinc 2 1, 3) := by decide +kernel
theorem dX8_others_36 : decode cX8_others 36 = .ok (.goto (-32), 3) := by decide +kernel
theorem dX8_others_39 : decode cX8_others 39 = .ok (.iload_n 1, 1) := by decide +kernel
theorem dX8_others_40 : decode cX8_others 40 = .ok (.ireturn, 1) := by decide +kernel
theorem dX8_inFrame_0 : decode cX8_inFrame 0 = .ok (.aload_n 0, 1) := by decide +kernel
theorem dX8_inFrame_1 : decode cX8_inFrame 1 = .ok (.getfield 13, 3) := by decide +kernel
theorem dX8_inFrame_4 : decode cX8_inFrame 4 = .ok (.sipush 912, 3) := by decide +kernel
theorem dX8_inFrame_7 : decode cX8_inFrame 7 = .ok (.iconst 4, 1) := by decide +kernel
theorem dX8_inFrame_8 : decode cX8_inFrame 8 = .ok (.iload_n 1, 1) := by decide +kernel
theorem dX8_inFrame_9 : decode cX8_inFrame 9 = .ok (.imul, 1) := by decide +kernel
theorem dX8_inFrame_10 : decode cX8_inFrame 10 = .ok (.iadd, 1) := by decide +kernel
theorem dX8_inFrame_11 : decode cX8_inFrame 11 = .ok (.iload_n 2, 1) := by decide +kernel
theorem dX8_inFrame_12 : decode cX8_inFrame 12 = .ok (.iadd, 1) := by decide +kernel
theorem dX8_inFrame_13 : decode cX8_inFrame 13 = .ok (.iaload, 1) := by decide +kernel
theorem dX8_inFrame_14 : decode cX8_inFrame 14 = .ok (.ireturn, 1) := by decide +kernel
theorem dX8_takesFrame_0 : decode cX8_takesFrame 0 = .ok (.iconst 0, 1) := by decide +kernel
theorem dX8_takesFrame_1 : decode cX8_takesFrame 1 = .ok (.istore_n 2, 1) := by decide +kernel
theorem dX8_takesFrame_2 : decode cX8_takesFrame 2 = .ok (.iload_n 2, 1) := by decide +kernel
theorem dX8_takesFrame_3 : decode cX8_takesFrame 3 = .ok (.iconst 4, 1) := by decide +kernel
theorem dX8_takesFrame_4 : decode cX8_takesFrame 4 = .ok (.if_icmp .ge 21, 3) := by decide +kernel
theorem dX8_takesFrame_7 : decode cX8_takesFrame 7 = .ok (.aload_n 0, 1) := by decide +kernel
theorem dX8_takesFrame_8 : decode cX8_takesFrame 8 = .ok (.getfield 36, 3) := by decide +kernel
theorem dX8_takesFrame_11 : decode cX8_takesFrame 11 = .ok (.iload_n 2, 1) := by decide +kernel
theorem dX8_takesFrame_12 : decode cX8_takesFrame 12 = .ok (.aload_n 0, 1) := by decide +kernel
theorem dX8_takesFrame_13 : decode cX8_takesFrame 13 = .ok (.iload_n 1, 1) := by decide +kernel
theorem dX8_takesFrame_14 : decode cX8_takesFrame 14 = .ok (.iload_n 2, 1) := by decide +kernel
theorem dX8_takesFrame_15 : decode cX8_takesFrame 15 = .ok (.invokevirtual 353, 3) := by decide +kernel
theorem dX8_takesFrame_18 : decode cX8_takesFrame 18 = .ok (.iastore, 1) := by decide +kernel
theorem dX8_takesFrame_19 : decode cX8_takesFrame 19 = .ok (.iinc 2 1, 3) := by decide +kernel
theorem dX8_takesFrame_22 : decode cX8_takesFrame 22 = .ok (.goto (-20), 3) := by decide +kernel
theorem dX8_takesFrame_25 : decode cX8_takesFrame 25 = .ok (.return_, 1) := by decide +kernel
theorem dX8_unlike_0 : decode cX8_unlike 0 = .ok (.aload_n 0, 1) := by decide +kernel
theorem dX8_unlike_1 : decode cX8_unlike 1 = .ok (.iconst 0, 1) := by decide +kernel
theorem dX8_unlike_2 : decode cX8_unlike 2 = .ok (.putfield 3, 3) := by decide +kernel
theorem dX8_unlike_5 : decode cX8_unlike 5 = .ok (.aload_n 0, 1) := by decide +kernel
theorem dX8_unlike_6 : decode cX8_unlike 6 = .ok (.aload_n 0, 1) := by decide +kernel
theorem dX8_unlike_7 : decode cX8_unlike 7 = .ok (.iload_n 1, 1) := by decide +kernel
theorem dX8_unlike_8 : decode cX8_unlike 8 = .ok (.invokevirtual 356, 3) := by decide +kernel
theorem dX8_unlike_11 : decode cX8_unlike 11 = .ok (.ifCond .ne 21, 3) := by decide +kernel
theorem dX8_unlike_14 : decode cX8_unlike 14 = .ok (.aload_n 0, 1) := by decide +kernel
theorem dX8_unlike_15 : decode cX8_unlike 15 = .ok (.iload_n 2, 1) := by decide +kernel
theorem dX8_unlike_16 : decode cX8_unlike 16 = .ok (.invokevirtual 356, 3) := by decide +kernel
theorem dX8_unlike_19 : decode cX8_unlike 19 = .ok (.ifCond .ne 13, 3) := by decide +kernel
theorem dX8_unlike_22 : decode cX8_unlike 22 = .ok (.aload_n 0, 1) := by decide +kernel
theorem dX8_unlike_23 : decode cX8_unlike 23 = .ok (.iload_n 3, 1) := by decide +kernel
theorem dX8_unlike_24 : decode cX8_unlike 24 = .ok (.iload 4, 2) := by decide +kernel
theorem dX8_unlike_26 : decode cX8_unlike 26 = .ok (.invokevirtual 287, 3) := by decide +kernel
theorem dX8_unlike_29 : decode cX8_unlike 29 = .ok (.ifCond .eq 7, 3) := by decide +kernel
theorem dX8_unlike_32 : decode cX8_unlike 32 = .ok (.iconst 1, 1) := by decide +kernel
theorem dX8_unlike_33 : decode cX8_unlike 33 = .ok (.goto 4, 3) := by decide +kernel
theorem dX8_unlike_36 : decode cX8_unlike 36 = .ok (.iconst 0, 1) := by decide +kernel
theorem dX8_unlike_37 : decode cX8_unlike 37 = .ok (.iconst 1, 1) := by decide +kernel
theorem dX8_unlike_38 : decode cX8_unlike 38 = .ok (.invokevirtual 194, 3) := by decide +kernel
theorem dX8_unlike_41 : decode cX8_unlike 41 = .ok (.ifCond .eq 5, 3) := by decide +kernel
theorem dX8_unlike_44 : decode cX8_unlike 44 = .ok (.iconst 0, 1) := by decide +kernel
theorem dX8_unlike_45 : decode cX8_unlike 45 = .ok (.ireturn, 1) := by decide +kernel
theorem dX8_unlike_46 : decode cX8_unlike 46 = .ok (.aload_n 0, 1) := by decide +kernel
theorem dX8_unlike_47 : decode cX8_unlike 47 = .ok (.iload_n 3, 1) := by decide +kernel
theorem dX8_unlike_48 : decode cX8_unlike 48 = .ok (.iload 4, 2) := by decide +kernel
theorem dX8_unlike_50 : decode cX8_unlike 50 = .ok (.invokevirtual 293, 3) := by decide +kernel
theorem dX8_unlike_53 : decode cX8_unlike 53 = .ok (.aload_n 0, 1) := by decide +kernel
theorem dX8_unlike_54 : decode cX8_unlike 54 = .ok (.iload_n 1, 1) := by decide +kernel
theorem dX8_unlike_55 : decode cX8_unlike 55 = .ok (.invokevirtual 359, 3) := by decide +kernel
theorem dX8_unlike_58 : decode cX8_unlike 58 = .ok (.aload_n 0, 1) := by decide +kernel
theorem dX8_unlike_59 : decode cX8_unlike 59 = .ok (.invokevirtual 347, 3) := by decide +kernel
theorem dX8_unlike_62 : decode cX8_unlike 62 = .ok (.aload_n 0, 1) := by decide +kernel
theorem dX8_unlike_63 : decode cX8_unlike 63 = .ok (.iload_n 2, 1) := by decide +kernel
theorem dX8_unlike_64 : decode cX8_unlike 64 = .ok (.invokevirtual 359, 3) := by decide +kernel
theorem dX8_unlike_67 : decode cX8_unlike 67 = .ok (.aload_n 0, 1) := by decide +kernel
theorem dX8_unlike_68 : decode cX8_unlike 68 = .ok (.invokevirtual 350, 3) := by decide +kernel
theorem dX8_unlike_71 : decode cX8_unlike 71 = .ok (.ireturn, 1) := by decide +kernel
theorem dX8_frame_0 : decode cX8_frame 0 = .ok (.aload_n 0, 1) := by decide +kernel
theorem dX8_frame_1 : decode cX8_frame 1 = .ok (.iconst 0, 1) := by decide +kernel
theorem dX8_frame_2 : decode cX8_frame 2 = .ok (.putfield 3, 3) := by decide +kernel
theorem dX8_frame_5 : decode cX8_frame 5 = .ok (.aload_n 0, 1) := by decide +kernel
theorem dX8_frame_6 : decode cX8_frame 6 = .ok (.aload_n 0, 1) := by decide +kernel
theorem dX8_frame_7 : decode cX8_frame 7 = .ok (.getfield 13, 3) := by decide +kernel
theorem dX8_frame_10 : decode cX8_frame 10 = .ok (.iconst 3, 1) := by decide +kernel
theorem dX8_frame_11 : decode cX8_frame 11 = .ok (.iaload, 1) := by decide +kernel
theorem dX8_frame_12 : decode cX8_frame 12 = .ok (.bipush 12, 2) := by decide +kernel
theorem dX8_frame_14 : decode cX8_frame 14 = .ok (.if_icmp .ne 7, 3) := by decide +kernel
theorem dX8_frame_17 : decode cX8_frame 17 = .ok (.iconst 1, 1) := by decide +kernel
theorem dX8_frame_18 : decode cX8_frame 18 = .ok (.goto 4, 3) := by decide +kernel
theorem dX8_frame_21 : decode cX8_frame 21 = .ok (.iconst 0, 1) := by decide +kernel
theorem dX8_frame_22 : decode cX8_frame 22 = .ok (.iconst 1, 1) := by decide +kernel
theorem dX8_frame_23 : decode cX8_frame 23 = .ok (.invokevirtual 194, 3) := by decide +kernel
theorem dX8_frame_26 : decode cX8_frame 26 = .ok (.ifCond .eq 5, 3) := by decide +kernel
theorem dX8_frame_29 : decode cX8_frame 29 = .ok (.iconst 0, 1) := by decide +kernel
theorem dX8_frame_30 : decode cX8_frame 30 = .ok (.ireturn, 1) := by decide +kernel
theorem dX8_frame_31 : decode cX8_frame 31 = .ok (.iconst 0, 1) := by decide +kernel
theorem dX8_frame_32 : decode cX8_frame 32 = .ok (.istore_n 1, 1) := by decide +kernel
theorem dX8_frame_33 : decode cX8_frame 33 = .ok (.iload_n 1, 1) := by decide +kernel
theorem dX8_frame_34 : decode cX8_frame 34 = .ok (.iconst 4, 1) := by decide +kernel
theorem dX8_frame_35 : decode cX8_frame 35 = .ok (.if_icmp .ge 33, 3) := by decide +kernel
theorem dX8_frame_38 : decode cX8_frame 38 = .ok (.aload_n 0, 1) := by decide +kernel
theorem dX8_frame_39 : decode cX8_frame 39 = .ok (.getfield 13, 3) := by decide +kernel
theorem dX8_frame_42 : decode cX8_frame 42 = .ok (.sipush 912, 3) := by decide +kernel
theorem dX8_frame_45 : decode cX8_frame 45 = .ok (.iconst 4, 1) := by decide +kernel
theorem dX8_frame_46 : decode cX8_frame 46 = .ok (.aload_n 0, 1) := by decide +kernel
theorem dX8_frame_47 : decode cX8_frame 47 = .ok (.getfield 13, 3) := by decide +kernel
theorem dX8_frame_50 : decode cX8_frame 50 = .ok (.iconst 3, 1) := by decide +kernel
theorem dX8_frame_51 : decode cX8_frame 51 = .ok (.iaload, 1) := by decide +kernel
theorem dX8_frame_52 : decode cX8_frame 52 = .ok (.imul, 1) := by decide +kernel
theorem dX8_frame_53 : decode cX8_frame 53 = .ok (.iadd, 1) := by decide +kernel
theorem dX8_frame_54 : decode cX8_frame 54 = .ok (.iload_n 1, 1) := by decide +kernel
theorem dX8_frame_55 : decode cX8_frame 55 = .ok (.iadd, 1) := by decide +kernel
theorem dX8_frame_56 : decode cX8_frame 56 = .ok (.aload_n 0, 1) := by decide +kernel
theorem dX8_frame_57 : decode cX8_frame 57 = .ok (.iload_n 1, 1) := by decide +kernel
theorem dX8_frame_58 : decode cX8_frame 58 = .ok (.invokevirtual 243, 3) := by decide +kernel
theorem dX8_frame_61 : decode cX8_frame 61 = .ok (.iastore, 1) := by decide +kernel
theorem dX8_frame_62 : decode cX8_frame 62 = .ok (.iinc 1 1, 3) := by decide +kernel
theorem dX8_frame_65 : decode cX8_frame 65 = .ok (.goto (-32), 3) := by decide +kernel
theorem dX8_frame_68 : decode cX8_frame 68 = .ok (.aload_n 0, 1) := by decide +kernel
theorem dX8_frame_69 : decode cX8_frame 69 = .ok (.getfield 13, 3) := by decide +kernel
theorem dX8_frame_72 : decode cX8_frame 72 = .ok (.iconst 3, 1) := by decide +kernel
theorem dX8_frame_73 : decode cX8_frame 73 = .ok (.dup2, 1) := by decide +kernel
theorem dX8_frame_74 : decode cX8_frame 74 = .ok (.iaload, 1) := by decide +kernel
theorem dX8_frame_75 : decode cX8_frame 75 = .ok (.iconst 1, 1) := by decide +kernel
theorem dX8_frame_76 : decode cX8_frame 76 = .ok (.iadd, 1) := by decide +kernel
theorem dX8_frame_77 : decode cX8_frame 77 = .ok (.iastore, 1) := by decide +kernel
theorem dX8_frame_78 : decode cX8_frame 78 = .ok (.aload_n 0, 1) := by decide +kernel
theorem dX8_frame_79 : decode cX8_frame 79 = .ok (.getfield 13, 3) := by decide +kernel
theorem dX8_frame_82 : decode cX8_frame 82 = .ok (.iconst 3, 1) := by decide +kernel
theorem dX8_frame_83 : decode cX8_frame 83 = .ok (.iaload, 1) := by decide +kernel
theorem dX8_frame_84 : decode cX8_frame 84 = .ok (.iconst 1, 1) := by decide +kernel
theorem dX8_frame_85 : decode cX8_frame 85 = .ok (.isub, 1) := by decide +kernel
theorem dX8_frame_86 : decode cX8_frame 86 = .ok (.ireturn, 1) := by decide +kernel
theorem dX8_places_0 : decode cX8_places 0 = .ok (.iconst 0, 1) := by decide +kernel
theorem dX8_places_1 : decode cX8_places 1 = .ok (.istore_n 1, 1) := by decide +kernel
theorem dX8_places_2 : decode cX8_places 2 = .ok (.iload_n 1, 1) := by decide +kernel
theorem dX8_places_3 : decode cX8_places 3 = .ok (.bipush 6, 2) := by decide +kernel
theorem dX8_places_5 : decode cX8_places 5 = .ok (.if_icmp .ge 20, 3) := by decide +kernel
theorem dX8_places_8 : decode cX8_places 8 = .ok (.aload_n 0, 1) := by decide +kernel
theorem dX8_places_9 : decode cX8_places 9 = .ok (.getfield 46, 3) := by decide +kernel
theorem dX8_places_12 : decode cX8_places 12 = .ok (.iload_n 1, 1) := by decide +kernel
theorem dX8_places_13 : decode cX8_places 13 = .ok (.aload_n 0, 1) := by decide +kernel
theorem dX8_places_14 : decode cX8_places 14 = .ok (.iload_n 1, 1) := by decide +kernel
theorem dX8_places_15 : decode cX8_places 15 = .ok (.invokevirtual 309, 3) := by decide +kernel
theorem dX8_places_18 : decode cX8_places 18 = .ok (.iastore, 1) := by decide +kernel
theorem dX8_places_19 : decode cX8_places 19 = .ok (.iinc 1 1, 3) := by decide +kernel
theorem dX8_places_22 : decode cX8_places 22 = .ok (.goto (-20), 3) := by decide +kernel
theorem dX8_places_25 : decode cX8_places 25 = .ok (.return_, 1) := by decide +kernel
theorem dX8_moved_0 : decode cX8_moved 0 = .ok (.iconst 0, 1) := by decide +kernel
theorem dX8_moved_1 : decode cX8_moved 1 = .ok (.istore_n 1, 1) := by decide +kernel
theorem dX8_moved_2 : decode cX8_moved 2 = .ok (.iconst 0, 1) := by decide +kernel
theorem dX8_moved_3 : decode cX8_moved 3 = .ok (.istore_n 2, 1) := by decide +kernel
theorem dX8_moved_4 : decode cX8_moved 4 = .ok (.iload_n 2, 1) := by decide +kernel
theorem dX8_moved_5 : decode cX8_moved 5 = .ok (.aload_n 0, 1) := by decide +kernel
theorem dX8_moved_6 : decode cX8_moved 6 = .ok (.invokevirtual 68, 3) := by decide +kernel
theorem dX8_moved_9 : decode cX8_moved 9 = .ok (.if_icmp .ge 31, 3) := by decide +kernel
theorem dX8_moved_12 : decode cX8_moved 12 = .ok (.iload_n 1, 1) := by decide +kernel
theorem dX8_moved_13 : decode cX8_moved 13 = .ok (.aload_n 0, 1) := by decide +kernel
theorem dX8_moved_14 : decode cX8_moved 14 = .ok (.getfield 46, 3) := by decide +kernel
theorem dX8_moved_17 : decode cX8_moved 17 = .ok (.iload_n 2, 1) := by decide +kernel
theorem dX8_moved_18 : decode cX8_moved 18 = .ok (.iaload, 1) := by decide +kernel
theorem dX8_moved_19 : decode cX8_moved 19 = .ok (.aload_n 0, 1) := by decide +kernel
theorem dX8_moved_20 : decode cX8_moved 20 = .ok (.iload_n 2, 1) := by decide +kernel
theorem dX8_moved_21 : decode cX8_moved 21 = .ok (.invokevirtual 309, 3) := by decide +kernel
theorem dX8_moved_24 : decode cX8_moved 24 = .ok (.if_icmp .eq 7, 3) := by decide +kernel
theorem dX8_moved_27 : decode cX8_moved 27 = .ok (.iconst 2, 1) := by decide +kernel
theorem dX8_moved_28 : decode cX8_moved 28 = .ok (.goto 4, 3) := by decide +kernel
theorem dX8_moved_31 : decode cX8_moved 31 = .ok (.iconst 0, 1) := by decide +kernel
theorem dX8_moved_32 : decode cX8_moved 32 = .ok (.iadd, 1) := by decide +kernel
theorem dX8_moved_33 : decode cX8_moved 33 = .ok (.istore_n 1, 1) := by decide +kernel
theorem dX8_moved_34 : decode cX8_moved 34 = .ok (.iinc 2 1, 3) := by decide +kernel
theorem dX8_moved_37 : decode cX8_moved 37 = .ok (.goto (-33), 3) := by decide +kernel
theorem dX8_moved_40 : decode cX8_moved 40 = .ok (.iload_n 1, 1) := by decide +kernel
theorem dX8_moved_41 : decode cX8_moved 41 = .ok (.ireturn, 1) := by decide +kernel
theorem dX8_movesOf_0 : decode cX8_movesOf 0 = .ok (.aload_n 0, 1) := by decide +kernel
theorem dX8_movesOf_1 : decode cX8_movesOf 1 = .ok (.iload_n 1, 1) := by decide +kernel
theorem dX8_movesOf_2 : decode cX8_movesOf 2 = .ok (.invokevirtual 359, 3) := by decide +kernel
theorem dX8_movesOf_5 : decode cX8_movesOf 5 = .ok (.aload_n 0, 1) := by decide +kernel
theorem dX8_movesOf_6 : decode cX8_movesOf 6 = .ok (.invokevirtual 362, 3) := by decide +kernel
theorem dX8_movesOf_9 : decode cX8_movesOf 9 = .ok (.aload_n 0, 1) := by decide +kernel
theorem dX8_movesOf_10 : decode cX8_movesOf 10 = .ok (.iload_n 2, 1) := by decide +kernel
theorem dX8_movesOf_11 : decode cX8_movesOf 11 = .ok (.invokevirtual 359, 3) := by decide +kernel
theorem dX8_movesOf_14 : decode cX8_movesOf 14 = .ok (.aload_n 0, 1) := by decide +kernel
theorem dX8_movesOf_15 : decode cX8_movesOf 15 = .ok (.invokevirtual 365, 3) := by decide +kernel
theorem dX8_movesOf_18 : decode cX8_movesOf 18 = .ok (.ireturn, 1) := by decide +kernel
theorem dX8_moves_0 : decode cX8_moves 0 = .ok (.aload_n 0, 1) := by decide +kernel
theorem dX8_moves_1 : decode cX8_moves 1 = .ok (.iconst 0, 1) := by decide +kernel
theorem dX8_moves_2 : decode cX8_moves 2 = .ok (.putfield 3, 3) := by decide +kernel
theorem dX8_moves_5 : decode cX8_moves 5 = .ok (.aload_n 0, 1) := by decide +kernel
theorem dX8_moves_6 : decode cX8_moves 6 = .ok (.aload_n 0, 1) := by decide +kernel
theorem dX8_moves_7 : decode cX8_moves 7 = .ok (.iload_n 1, 1) := by decide +kernel
theorem dX8_moves_8 : decode cX8_moves 8 = .ok (.invokevirtual 356, 3) := by decide +kernel
theorem dX8_moves_11 : decode cX8_moves 11 = .ok (.ifCond .ne 11, 3) := by decide +kernel
theorem dX8_moves_14 : decode cX8_moves 14 = .ok (.aload_n 0, 1) := by decide +kernel
theorem dX8_moves_15 : decode cX8_moves 15 = .ok (.iload_n 2, 1) := by decide +kernel
theorem dX8_moves_16 : decode cX8_moves 16 = .ok (.invokevirtual 356, 3) := by decide +kernel
theorem dX8_moves_19 : decode cX8_moves 19 = .ok (.ifCond .eq 7, 3) := by decide +kernel
theorem dX8_moves_22 : decode cX8_moves 22 = .ok (.iconst 1, 1) := by decide +kernel
theorem dX8_moves_23 : decode cX8_moves 23 = .ok (.goto 4, 3) := by decide +kernel
theorem dX8_moves_26 : decode cX8_moves 26 = .ok (.iconst 0, 1) := by decide +kernel
theorem dX8_moves_27 : decode cX8_moves 27 = .ok (.iconst 1, 1) := by decide +kernel
theorem dX8_moves_28 : decode cX8_moves 28 = .ok (.invokevirtual 194, 3) := by decide +kernel
theorem dX8_moves_31 : decode cX8_moves 31 = .ok (.ifCond .eq 7, 3) := by decide +kernel
theorem dX8_moves_34 : decode cX8_moves 34 = .ok (.iconst 0, 1) := by decide +kernel
theorem dX8_moves_35 : decode cX8_moves 35 = .ok (.goto 9, 3) := by decide +kernel
theorem dX8_moves_38 : decode cX8_moves 38 = .ok (.aload_n 0, 1) := by decide +kernel
theorem dX8_moves_39 : decode cX8_moves 39 = .ok (.iload_n 1, 1) := by decide +kernel
theorem dX8_moves_40 : decode cX8_moves 40 = .ok (.iload_n 2, 1) := by decide +kernel
theorem dX8_moves_41 : decode cX8_moves 41 = .ok (.invokevirtual 368, 3) := by decide +kernel
theorem dX8_moves_44 : decode cX8_moves 44 = .ok (.ireturn, 1) := by decide +kernel
theorem dX8_row_0 : decode cX8_row 0 = .ok (.aload_n 0, 1) := by decide +kernel
theorem dX8_row_1 : decode cX8_row 1 = .ok (.iconst 0, 1) := by decide +kernel
theorem dX8_row_2 : decode cX8_row 2 = .ok (.putfield 3, 3) := by decide +kernel
theorem dX8_row_5 : decode cX8_row 5 = .ok (.iconst 0, 1) := by decide +kernel
theorem dX8_row_6 : decode cX8_row 6 = .ok (.istore_n 1, 1) := by decide +kernel
theorem dX8_row_7 : decode cX8_row 7 = .ok (.iconst 1, 1) := by decide +kernel
theorem dX8_row_8 : decode cX8_row 8 = .ok (.istore_n 2, 1) := by decide +kernel
theorem dX8_row_9 : decode cX8_row 9 = .ok (.iload_n 2, 1) := by decide +kernel
theorem dX8_row_10 : decode cX8_row 10 = .ok (.aload_n 0, 1) := by decide +kernel
theorem dX8_row_11 : decode cX8_row 11 = .ok (.getfield 13, 3) := by decide +kernel
theorem dX8_row_14 : decode cX8_row 14 = .ok (.iconst 3, 1) := by decide +kernel
theorem dX8_row_15 : decode cX8_row 15 = .ok (.iaload, 1) := by decide +kernel
theorem dX8_row_16 : decode cX8_row 16 = .ok (.if_icmp .ge 20, 3) := by decide +kernel
theorem dX8_row_19 : decode cX8_row 19 = .ok (.iload_n 1, 1) := by decide +kernel
theorem dX8_row_20 : decode cX8_row 20 = .ok (.aload_n 0, 1) := by decide +kernel
theorem dX8_row_21 : decode cX8_row 21 = .ok (.iload_n 2, 1) := by decide +kernel
theorem dX8_row_22 : decode cX8_row 22 = .ok (.iconst 1, 1) := by decide +kernel
theorem dX8_row_23 : decode cX8_row 23 = .ok (.isub, 1) := by decide +kernel
theorem dX8_row_24 : decode cX8_row 24 = .ok (.iload_n 2, 1) := by decide +kernel
theorem dX8_row_25 : decode cX8_row 25 = .ok (.invokevirtual 368, 3) := by decide +kernel
theorem dX8_row_28 : decode cX8_row 28 = .ok (.iadd, 1) := by decide +kernel
theorem dX8_row_29 : decode cX8_row 29 = .ok (.istore_n 1, 1) := by decide +kernel
theorem dX8_row_30 : decode cX8_row 30 = .ok (.iinc 2 1, 3) := by decide +kernel
theorem dX8_row_33 : decode cX8_row 33 = .ok (.goto (-24), 3) := by decide +kernel
theorem dX8_row_36 : decode cX8_row 36 = .ok (.iload_n 1, 1) := by decide +kernel
theorem dX8_row_37 : decode cX8_row 37 = .ok (.ireturn, 1) := by decide +kernel
theorem dX8_take_0 : decode cX8_take 0 = .ok (.aload_n 0, 1) := by decide +kernel
theorem dX8_take_1 : decode cX8_take 1 = .ok (.iconst 0, 1) := by decide +kernel
theorem dX8_take_2 : decode cX8_take 2 = .ok (.putfield 3, 3) := by decide +kernel
theorem dX8_take_5 : decode cX8_take 5 = .ok (.aload_n 0, 1) := by decide +kernel
theorem dX8_take_6 : decode cX8_take 6 = .ok (.aload_n 0, 1) := by decide +kernel
theorem dX8_take_7 : decode cX8_take 7 = .ok (.iload_n 1, 1) := by decide +kernel
theorem dX8_take_8 : decode cX8_take 8 = .ok (.invokevirtual 356, 3) := by decide +kernel
theorem dX8_take_11 : decode cX8_take 11 = .ok (.iconst 1, 1) := by decide +kernel
theorem dX8_take_12 : decode cX8_take 12 = .ok (.invokevirtual 194, 3) := by decide +kernel
theorem dX8_take_15 : decode cX8_take 15 = .ok (.ifCond .eq 5, 3) := by decide +kernel
theorem dX8_take_18 : decode cX8_take 18 = .ok (.iconst 0, 1) := by decide +kernel
theorem dX8_take_19 : decode cX8_take 19 = .ok (.ireturn, 1) := by decide +kernel
theorem dX8_take_20 : decode cX8_take 20 = .ok (.aload_n 0, 1) := by decide +kernel
theorem dX8_take_21 : decode cX8_take 21 = .ok (.invokevirtual 290, 3) := by decide +kernel
theorem dX8_take_24 : decode cX8_take 24 = .ok (.aload_n 0, 1) := by decide +kernel
theorem dX8_take_25 : decode cX8_take 25 = .ok (.invokevirtual 362, 3) := by decide +kernel
theorem dX8_take_28 : decode cX8_take 28 = .ok (.aload_n 0, 1) := by decide +kernel
theorem dX8_take_29 : decode cX8_take 29 = .ok (.iload_n 1, 1) := by decide +kernel
theorem dX8_take_30 : decode cX8_take 30 = .ok (.invokevirtual 359, 3) := by decide +kernel
theorem dX8_take_33 : decode cX8_take 33 = .ok (.iconst 0, 1) := by decide +kernel
theorem dX8_take_34 : decode cX8_take 34 = .ok (.istore_n 2, 1) := by decide +kernel
theorem dX8_take_35 : decode cX8_take 35 = .ok (.iload_n 2, 1) := by decide +kernel
theorem dX8_take_36 : decode cX8_take 36 = .ok (.iconst 4, 1) := by decide +kernel
theorem dX8_take_37 : decode cX8_take 37 = .ok (.if_icmp .ge 24, 3) := by decide +kernel
theorem dX8_take_40 : decode cX8_take 40 = .ok (.aload_n 0, 1) := by decide +kernel
theorem dX8_take_41 : decode cX8_take 41 = .ok (.getfield 13, 3) := by decide +kernel
theorem dX8_take_44 : decode cX8_take 44 = .ok (.bipush 44, 2) := by decide +kernel
theorem dX8_take_46 : decode cX8_take 46 = .ok (.iload_n 2, 1) := by decide +kernel
theorem dX8_take_47 : decode cX8_take 47 = .ok (.iadd, 1) := by decide +kernel
theorem dX8_take_48 : decode cX8_take 48 = .ok (.aload_n 0, 1) := by decide +kernel
theorem dX8_take_49 : decode cX8_take 49 = .ok (.getfield 36, 3) := by decide +kernel
theorem dX8_take_52 : decode cX8_take 52 = .ok (.iload_n 2, 1) := by decide +kernel
theorem dX8_take_53 : decode cX8_take 53 = .ok (.iaload, 1) := by decide +kernel
theorem dX8_take_54 : decode cX8_take 54 = .ok (.iastore, 1) := by decide +kernel
theorem dX8_take_55 : decode cX8_take 55 = .ok (.iinc 2 1, 3) := by decide +kernel
theorem dX8_take_58 : decode cX8_take 58 = .ok (.goto (-23), 3) := by decide +kernel
theorem dX8_take_61 : decode cX8_take 61 = .ok (.aload_n 0, 1) := by decide +kernel
theorem dX8_take_62 : decode cX8_take 62 = .ok (.invokevirtual 365, 3) := by decide +kernel
theorem dX8_take_65 : decode cX8_take 65 = .ok (.ireturn, 1) := by decide +kernel
theorem dX8_orders_0 : decode cX8_orders 0 = .ok (.aload_n 0, 1) := by decide +kernel
theorem dX8_orders_1 : decode cX8_orders 1 = .ok (.getfield 13, 3) := by decide +kernel
theorem dX8_orders_4 : decode cX8_orders 4 = .ok (.iconst 3, 1) := by decide +kernel
theorem dX8_orders_5 : decode cX8_orders 5 = .ok (.iaload, 1) := by decide +kernel
theorem dX8_orders_6 : decode cX8_orders 6 = .ok (.istore_n 1, 1) := by decide +kernel
theorem dX8_orders_7 : decode cX8_orders 7 = .ok (.iconst 0, 1) := by decide +kernel
theorem dX8_orders_8 : decode cX8_orders 8 = .ok (.istore_n 2, 1) := by decide +kernel
theorem dX8_orders_9 : decode cX8_orders 9 = .ok (.iload_n 2, 1) := by decide +kernel
theorem dX8_orders_10 : decode cX8_orders 10 = .ok (.iload_n 1, 1) := by decide +kernel
theorem dX8_orders_11 : decode cX8_orders 11 = .ok (.if_icmp .ge 39, 3) := by decide +kernel
theorem dX8_orders_14 : decode cX8_orders 14 = .ok (.iconst 0, 1) := by decide +kernel
theorem dX8_orders_15 : decode cX8_orders 15 = .ok (.istore_n 3, 1) := by decide +kernel
theorem dX8_orders_16 : decode cX8_orders 16 = .ok (.iload_n 3, 1) := by decide +kernel
theorem dX8_orders_17 : decode cX8_orders 17 = .ok (.iload_n 1, 1) := by decide +kernel
theorem dX8_orders_18 : decode cX8_orders 18 = .ok (.if_icmp .ge 26, 3) := by decide +kernel
theorem dX8_orders_21 : decode cX8_orders 21 = .ok (.aload_n 0, 1) := by decide +kernel
theorem dX8_orders_22 : decode cX8_orders 22 = .ok (.getfield 58, 3) := by decide +kernel
theorem dX8_orders_25 : decode cX8_orders 25 = .ok (.bipush 8, 2) := by decide +kernel
theorem dX8_orders_27 : decode cX8_orders 27 = .ok (.iload_n 2, 1) := by decide +kernel
theorem dX8_orders_28 : decode cX8_orders 28 = .ok (.imul, 1) := by decide +kernel
theorem dX8_orders_29 : decode cX8_orders 29 = .ok (.iload_n 3, 1) := by decide +kernel
theorem dX8_orders_30 : decode cX8_orders 30 = .ok (.iadd, 1) := by decide +kernel
theorem dX8_orders_31 : decode cX8_orders 31 = .ok (.aload_n 0, 1) := by decide +kernel
theorem dX8_orders_32 : decode cX8_orders 32 = .ok (.iload_n 2, 1) := by decide +kernel
theorem dX8_orders_33 : decode cX8_orders 33 = .ok (.iload_n 3, 1) := by decide +kernel
theorem dX8_orders_34 : decode cX8_orders 34 = .ok (.invokevirtual 368, 3) := by decide +kernel
theorem dX8_orders_37 : decode cX8_orders 37 = .ok (.iastore, 1) := by decide +kernel
theorem dX8_orders_38 : decode cX8_orders 38 = .ok (.iinc 3 1, 3) := by decide +kernel
theorem dX8_orders_41 : decode cX8_orders 41 = .ok (.goto (-25), 3) := by decide +kernel
theorem dX8_orders_44 : decode cX8_orders 44 = .ok (.iinc 2 1, 3) := by decide +kernel
theorem dX8_orders_47 : decode cX8_orders 47 = .ok (.goto (-38), 3) := by decide +kernel
theorem dX8_orders_50 : decode cX8_orders 50 = .ok (.iconst (-1), 1) := by decide +kernel
theorem dX8_orders_51 : decode cX8_orders 51 = .ok (.istore_n 2, 1) := by decide +kernel
theorem dX8_orders_52 : decode cX8_orders 52 = .ok (.iconst 1, 1) := by decide +kernel
theorem dX8_orders_53 : decode cX8_orders 53 = .ok (.istore_n 3, 1) := by decide +kernel
theorem dX8_orders_54 : decode cX8_orders 54 = .ok (.iconst 1, 1) := by decide +kernel
theorem dX8_orders_55 : decode cX8_orders 55 = .ok (.istore 4, 2) := by decide +kernel
theorem dX8_orders_57 : decode cX8_orders 57 = .ok (.aload_n 0, 1) := by decide +kernel
theorem dX8_orders_58 : decode cX8_orders 58 = .ok (.getfield 49, 3) := by decide +kernel
theorem dX8_orders_61 : decode cX8_orders 61 = .ok (.iconst 0, 1) := by decide +kernel
theorem dX8_orders_62 : decode cX8_orders 62 = .ok (.iconst 0, 1) := by decide +kernel
theorem dX8_orders_63 : decode cX8_orders 63 = .ok (.iastore, 1) := by decide +kernel
theorem dX8_orders_64 : decode cX8_orders 64 = .ok (.aload_n 0, 1) := by decide +kernel
theorem dX8_orders_65 : decode cX8_orders 65 = .ok (.getfield 52, 3) := by decide +kernel
theorem dX8_orders_68 : decode cX8_orders 68 = .ok (.iconst 0, 1) := by decide +kernel
theorem dX8_orders_69 : decode cX8_orders 69 = .ok (.iconst 0, 1) := by decide +kernel
theorem dX8_orders_70 : decode cX8_orders 70 = .ok (.iastore, 1) := by decide +kernel
theorem dX8_orders_71 : decode cX8_orders 71 = .ok (.aload_n 0, 1) := by decide +kernel
theorem dX8_orders_72 : decode cX8_orders 72 = .ok (.getfield 49, 3) := by decide +kernel
theorem dX8_orders_75 : decode cX8_orders 75 = .ok (.iconst 1, 1) := by decide +kernel
theorem dX8_orders_76 : decode cX8_orders 76 = .ok (.iconst (-1), 1) := by decide +kernel
theorem dX8_orders_77 : decode cX8_orders 77 = .ok (.iastore, 1) := by decide +kernel
theorem dX8_orders_78 : decode cX8_orders 78 = .ok (.iload 4, 2) := by decide +kernel
theorem dX8_orders_80 : decode cX8_orders 80 = .ok (.ifCond .le 242, 3) := by decide +kernel
theorem dX8_orders_83 : decode cX8_orders 83 = .ok (.iload 4, 2) := by decide +kernel
theorem dX8_orders_85 : decode cX8_orders 85 = .ok (.iload_n 1, 1) := by decide +kernel
theorem dX8_orders_86 : decode cX8_orders 86 = .ok (.if_icmp .ne 82, 3) := by decide +kernel
theorem dX8_orders_89 : decode cX8_orders 89 = .ok (.iload_n 2, 1) := by decide +kernel
theorem dX8_orders_90 : decode cX8_orders 90 = .ok (.ifCond .lt 15, 3) := by decide +kernel
theorem dX8_orders_93 : decode cX8_orders 93 = .ok (.aload_n 0, 1) := by decide +kernel
theorem dX8_orders_94 : decode cX8_orders 94 = .ok (.getfield 52, 3) := by decide +kernel
theorem dX8_orders_97 : decode cX8_orders 97 = .ok (.iload_n 1, 1) := by decide +kernel
theorem dX8_orders_98 : decode cX8_orders 98 = .ok (.iconst 1, 1) := by decide +kernel
theorem dX8_orders_99 : decode cX8_orders 99 = .ok (.isub, 1) := by decide +kernel
theorem dX8_orders_100 : decode cX8_orders 100 = .ok (.iaload, 1) := by decide +kernel
theorem dX8_orders_101 : decode cX8_orders 101 = .ok (.iload_n 2, 1) := by decide +kernel
theorem dX8_orders_102 : decode cX8_orders 102 = .ok (.if_icmp .ge 41, 3) := by decide +kernel
theorem dX8_orders_105 : decode cX8_orders 105 = .ok (.aload_n 0, 1) := by decide +kernel
theorem dX8_orders_106 : decode cX8_orders 106 = .ok (.getfield 52, 3) := by decide +kernel
theorem dX8_orders_109 : decode cX8_orders 109 = .ok (.iload_n 1, 1) := by decide +kernel
theorem dX8_orders_110 : decode cX8_orders 110 = .ok (.iconst 1, 1) := by decide +kernel
theorem dX8_orders_111 : decode cX8_orders 111 = .ok (.isub, 1) := by decide +kernel
theorem dX8_orders_112 : decode cX8_orders 112 = .ok (.iaload, 1) := by decide +kernel
theorem dX8_orders_113 : decode cX8_orders 113 = .ok (.istore_n 2, 1) := by decide +kernel
theorem dX8_orders_114 : decode cX8_orders 114 = .ok (.iconst 0, 1) := by decide +kernel
theorem dX8_orders_115 : decode cX8_orders 115 = .ok (.istore 5, 2) := by decide +kernel
theorem dX8_orders_117 : decode cX8_orders 117 = .ok (.iload 5, 2) := by decide +kernel
theorem dX8_orders_119 : decode cX8_orders 119 = .ok (.iload_n 1, 1) := by decide +kernel
theorem dX8_orders_120 : decode cX8_orders 120 = .ok (.if_icmp .ge 23, 3) := by decide +kernel
theorem dX8_orders_123 : decode cX8_orders 123 = .ok (.aload_n 0, 1) := by decide +kernel
theorem dX8_orders_124 : decode cX8_orders 124 = .ok (.getfield 55, 3) := by decide +kernel
theorem dX8_orders_127 : decode cX8_orders 127 = .ok (.iload 5, 2) := by decide +kernel
theorem dX8_orders_129 : decode cX8_orders 129 = .ok (.aload_n 0, 1) := by decide +kernel
theorem dX8_orders_130 : decode cX8_orders 130 = .ok (.getfield 49, 3) := by decide +kernel
theorem dX8_orders_133 : decode cX8_orders 133 = .ok (.iload 5, 2) := by decide +kernel
theorem dX8_orders_135 : decode cX8_orders 135 = .ok (.iaload, 1) := by decide +kernel
theorem dX8_orders_136 : decode cX8_orders 136 = .ok (.iastore, 1) := by decide +kernel
theorem dX8_orders_137 : decode cX8_orders 137 = .ok (.iinc 5 1, 3) := by decide +kernel
theorem dX8_orders_140 : decode cX8_orders 140 = .ok (.goto (-23), 3) := by decide +kernel
theorem dX8_orders_143 : decode cX8_orders 143 = .ok (.iinc 4 (-1), 3) := by decide +kernel
theorem dX8_orders_146 : decode cX8_orders 146 = .ok (.iload 4, 2) := by decide +kernel
theorem dX8_orders_148 : decode cX8_orders 148 = .ok (.ifCond .le (-70), 3) := by decide +kernel
theorem dX8_orders_151 : decode cX8_orders 151 = .ok (.iload_n 3, 1) := by decide +kernel
theorem dX8_orders_152 : decode cX8_orders 152 = .ok (.iconst 1, 1) := by decide +kernel
theorem dX8_orders_153 : decode cX8_orders 153 = .ok (.aload_n 0, 1) := by decide +kernel
theorem dX8_orders_154 : decode cX8_orders 154 = .ok (.getfield 49, 3) := by decide +kernel
theorem dX8_orders_157 : decode cX8_orders 157 = .ok (.iload 4, 2) := by decide +kernel
theorem dX8_orders_159 : decode cX8_orders 159 = .ok (.iaload, 1) := by decide +kernel
theorem dX8_orders_160 : decode cX8_orders 160 = .ok (.ishl, 1) := by decide +kernel
theorem dX8_orders_161 : decode cX8_orders 161 = .ok (.iconst (-1), 1) := by decide +kernel
theorem dX8_orders_162 : decode cX8_orders 162 = .ok (.ixor, 1) := by decide +kernel
theorem dX8_orders_163 : decode cX8_orders 163 = .ok (.iand, 1) := by decide +kernel
theorem dX8_orders_164 : decode cX8_orders 164 = .ok (.istore_n 3, 1) := by decide +kernel
theorem dX8_orders_165 : decode cX8_orders 165 = .ok (.goto (-87), 3) := by decide +kernel
theorem dX8_orders_168 : decode cX8_orders 168 = .ok (.aload_n 0, 1) := by decide +kernel
theorem dX8_orders_169 : decode cX8_orders 169 = .ok (.getfield 49, 3) := by decide +kernel
theorem dX8_orders_172 : decode cX8_orders 172 = .ok (.iload 4, 2) := by decide +kernel
theorem dX8_orders_174 : decode cX8_orders 174 = .ok (.dup2, 1) := by decide +kernel
theorem dX8_orders_175 : decode cX8_orders 175 = .ok (.iaload, 1) := by decide +kernel
theorem dX8_orders_176 : decode cX8_orders 176 = .ok (.iconst 1, 1) := by decide +kernel
theorem dX8_orders_177 : decode cX8_orders 177 = .ok (.iadd, 1) := by decide +kernel
theorem dX8_orders_178 : decode cX8_orders 178 = .ok (.iastore, 1) := by decide +kernel
theorem dX8_orders_179 : decode cX8_orders 179 = .ok (.aload_n 0, 1) := by decide +kernel
theorem dX8_orders_180 : decode cX8_orders 180 = .ok (.getfield 49, 3) := by decide +kernel
theorem dX8_orders_183 : decode cX8_orders 183 = .ok (.iload 4, 2) := by decide +kernel
theorem dX8_orders_185 : decode cX8_orders 185 = .ok (.iaload, 1) := by decide +kernel
theorem dX8_orders_186 : decode cX8_orders 186 = .ok (.iload_n 1, 1) := by decide +kernel
theorem dX8_orders_187 : decode cX8_orders 187 = .ok (.if_icmp .ge 31, 3) := by decide +kernel
theorem dX8_orders_190 : decode cX8_orders 190 = .ok (.iload_n 3, 1) := by decide +kernel
theorem dX8_orders_191 : decode cX8_orders 191 = .ok (.aload_n 0, 1) := by decide +kernel
theorem dX8_orders_192 : decode cX8_orders 192 = .ok (.getfield 49, 3) := by decide +kernel
theorem dX8_orders_195 : decode cX8_orders 195 = .ok (.iload 4, 2) := by decide +kernel
theorem dX8_orders_197 : decode cX8_orders 197 = .ok (.iaload, 1) := by decide +kernel
theorem dX8_orders_198 : decode cX8_orders 198 = .ok (.invokestatic 123, 3) := by decide +kernel
theorem dX8_orders_201 : decode cX8_orders 201 = .ok (.ifCond .eq 17, 3) := by decide +kernel
theorem dX8_orders_204 : decode cX8_orders 204 = .ok (.aload_n 0, 1) := by decide +kernel
theorem dX8_orders_205 : decode cX8_orders 205 = .ok (.getfield 49, 3) := by decide +kernel
theorem dX8_orders_208 : decode cX8_orders 208 = .ok (.iload 4, 2) := by decide +kernel
theorem dX8_orders_210 : decode cX8_orders 210 = .ok (.dup2, 1) := by decide +kernel
theorem dX8_orders_211 : decode cX8_orders 211 = .ok (.iaload, 1) := by decide +kernel
theorem dX8_orders_212 : decode cX8_orders 212 = .ok (.iconst 1, 1) := by decide +kernel
theorem dX8_orders_213 : decode cX8_orders 213 = .ok (.iadd, 1) := by decide +kernel
theorem dX8_orders_214 : decode cX8_orders 214 = .ok (.iastore, 1) := by decide +kernel
theorem dX8_orders_215 : decode cX8_orders 215 = .ok (.goto (-36), 3) := by decide +kernel
theorem dX8_orders_218 : decode cX8_orders 218 = .ok (.aload_n 0, 1) := by decide +kernel
theorem dX8_orders_219 : decode cX8_orders 219 = .ok (.getfield 49, 3) := by decide +kernel
theorem dX8_orders_222 : decode cX8_orders 222 = .ok (.iload 4, 2) := by decide +kernel
theorem dX8_orders_224 : decode cX8_orders 224 = .ok (.iaload, 1) := by decide +kernel
theorem dX8_orders_225 : decode cX8_orders 225 = .ok (.iload_n 1, 1) := by decide +kernel
theorem dX8_orders_226 : decode cX8_orders 226 = .ok (.if_icmp .lt 28, 3) := by decide +kernel
theorem dX8_orders_229 : decode cX8_orders 229 = .ok (.iinc 4 (-1), 3) := by decide +kernel
theorem dX8_orders_232 : decode cX8_orders 232 = .ok (.iload 4, 2) := by decide +kernel
theorem dX8_orders_234 : decode cX8_orders 234 = .ok (.ifCond .le (-156), 3) := by decide +kernel
theorem dX8_orders_237 : decode cX8_orders 237 = .ok (.iload_n 3, 1) := by decide +kernel
theorem dX8_orders_238 : decode cX8_orders 238 = .ok (.iconst 1, 1) := by decide +kernel
theorem dX8_orders_239 : decode cX8_orders 239 = .ok (.aload_n 0, 1) := by decide +kernel
theorem dX8_orders_240 : decode cX8_orders 240 = .ok (.getfield 49, 3) := by decide +kernel
theorem dX8_orders_243 : decode cX8_orders 243 = .ok (.iload 4, 2) := by decide +kernel
theorem dX8_orders_245 : decode cX8_orders 245 = .ok (.iaload, 1) := by decide +kernel
theorem dX8_orders_246 : decode cX8_orders 246 = .ok (.ishl, 1) := by decide +kernel
theorem dX8_orders_247 : decode cX8_orders 247 = .ok (.iconst (-1), 1) := by decide +kernel
theorem dX8_orders_248 : decode cX8_orders 248 = .ok (.ixor, 1) := by decide +kernel
theorem dX8_orders_249 : decode cX8_orders 249 = .ok (.iand, 1) := by decide +kernel
theorem dX8_orders_250 : decode cX8_orders 250 = .ok (.istore_n 3, 1) := by decide +kernel
theorem dX8_orders_251 : decode cX8_orders 251 = .ok (.goto (-173), 3) := by decide +kernel
theorem dX8_orders_254 : decode cX8_orders 254 = .ok (.iload_n 3, 1) := by decide +kernel
theorem dX8_orders_255 : decode cX8_orders 255 = .ok (.iconst 1, 1) := by decide +kernel
theorem dX8_orders_256 : decode cX8_orders 256 = .ok (.aload_n 0, 1) := by decide +kernel
theorem dX8_orders_257 : decode cX8_orders 257 = .ok (.getfield 49, 3) := by decide +kernel
theorem dX8_orders_260 : decode cX8_orders 260 = .ok (.iload 4, 2) := by decide +kernel
theorem dX8_orders_262 : decode cX8_orders 262 = .ok (.iaload, 1) := by decide +kernel
theorem dX8_orders_263 : decode cX8_orders 263 = .ok (.ishl, 1) := by decide +kernel
theorem dX8_orders_264 : decode cX8_orders 264 = .ok (.ior, 1) := by decide +kernel
theorem dX8_orders_265 : decode cX8_orders 265 = .ok (.istore_n 3, 1) := by decide +kernel
theorem dX8_orders_266 : decode cX8_orders 266 = .ok (.aload_n 0, 1) := by decide +kernel
theorem dX8_orders_267 : decode cX8_orders 267 = .ok (.getfield 52, 3) := by decide +kernel
theorem dX8_orders_270 : decode cX8_orders 270 = .ok (.iload 4, 2) := by decide +kernel
theorem dX8_orders_272 : decode cX8_orders 272 = .ok (.aload_n 0, 1) := by decide +kernel
theorem dX8_orders_273 : decode cX8_orders 273 = .ok (.getfield 52, 3) := by decide +kernel
theorem dX8_orders_276 : decode cX8_orders 276 = .ok (.iload 4, 2) := by decide +kernel
theorem dX8_orders_278 : decode cX8_orders 278 = .ok (.iconst 1, 1) := by decide +kernel
theorem dX8_orders_279 : decode cX8_orders 279 = .ok (.isub, 1) := by decide +kernel
theorem dX8_orders_280 : decode cX8_orders 280 = .ok (.iaload, 1) := by decide +kernel
theorem dX8_orders_281 : decode cX8_orders 281 = .ok (.aload_n 0, 1) := by decide +kernel
theorem dX8_orders_282 : decode cX8_orders 282 = .ok (.getfield 58, 3) := by decide +kernel
theorem dX8_orders_285 : decode cX8_orders 285 = .ok (.bipush 8, 2) := by decide +kernel
theorem dX8_orders_287 : decode cX8_orders 287 = .ok (.aload_n 0, 1) := by decide +kernel
theorem dX8_orders_288 : decode cX8_orders 288 = .ok (.getfield 49, 3) := by decide +kernel
theorem dX8_orders_291 : decode cX8_orders 291 = .ok (.iload 4, 2) := by decide +kernel
theorem dX8_orders_293 : decode cX8_orders 293 = .ok (.iconst 1, 1) := by decide +kernel
theorem dX8_orders_294 : decode cX8_orders 294 = .ok (.isub, 1) := by decide +kernel
theorem dX8_orders_295 : decode cX8_orders 295 = .ok (.iaload, 1) := by decide +kernel
theorem dX8_orders_296 : decode cX8_orders 296 = .ok (.imul, 1) := by decide +kernel
theorem dX8_orders_297 : decode cX8_orders 297 = .ok (.aload_n 0, 1) := by decide +kernel
theorem dX8_orders_298 : decode cX8_orders 298 = .ok (.getfield 49, 3) := by decide +kernel
theorem dX8_orders_301 : decode cX8_orders 301 = .ok (.iload 4, 2) := by decide +kernel
theorem dX8_orders_303 : decode cX8_orders 303 = .ok (.iaload, 1) := by decide +kernel
theorem dX8_orders_304 : decode cX8_orders 304 = .ok (.iadd, 1) := by decide +kernel
theorem dX8_orders_305 : decode cX8_orders 305 = .ok (.iaload, 1) := by decide +kernel
theorem dX8_orders_306 : decode cX8_orders 306 = .ok (.iadd, 1) := by decide +kernel
theorem dX8_orders_307 : decode cX8_orders 307 = .ok (.iastore, 1) := by decide +kernel
theorem dX8_orders_308 : decode cX8_orders 308 = .ok (.iinc 4 1, 3) := by decide +kernel
theorem dX8_orders_311 : decode cX8_orders 311 = .ok (.aload_n 0, 1) := by decide +kernel
theorem dX8_orders_312 : decode cX8_orders 312 = .ok (.getfield 49, 3) := by decide +kernel
theorem dX8_orders_315 : decode cX8_orders 315 = .ok (.iload 4, 2) := by decide +kernel
theorem dX8_orders_317 : decode cX8_orders 317 = .ok (.iconst (-1), 1) := by decide +kernel
theorem dX8_orders_318 : decode cX8_orders 318 = .ok (.iastore, 1) := by decide +kernel
theorem dX8_orders_319 : decode cX8_orders 319 = .ok (.goto (-241), 3) := by decide +kernel
theorem dX8_orders_322 : decode cX8_orders 322 = .ok (.iload_n 2, 1) := by decide +kernel
theorem dX8_orders_323 : decode cX8_orders 323 = .ok (.ireturn, 1) := by decide +kernel
theorem dX8_order_0 : decode cX8_order 0 = .ok (.aload_n 0, 1) := by decide +kernel
theorem dX8_order_1 : decode cX8_order 1 = .ok (.iconst 0, 1) := by decide +kernel
theorem dX8_order_2 : decode cX8_order 2 = .ok (.putfield 3, 3) := by decide +kernel
theorem dX8_order_5 : decode cX8_order 5 = .ok (.aload_n 0, 1) := by decide +kernel
theorem dX8_order_6 : decode cX8_order 6 = .ok (.iload_n 1, 1) := by decide +kernel
theorem dX8_order_7 : decode cX8_order 7 = .ok (.iconst (-1), 1) := by decide +kernel
theorem dX8_order_8 : decode cX8_order 8 = .ok (.if_icmp .ge 7, 3) := by decide +kernel
theorem dX8_order_11 : decode cX8_order 11 = .ok (.iconst 1, 1) := by decide +kernel
theorem dX8_order_12 : decode cX8_order 12 = .ok (.goto 4, 3) := by decide +kernel
theorem dX8_order_15 : decode cX8_order 15 = .ok (.iconst 0, 1) := by decide +kernel
theorem dX8_order_16 : decode cX8_order 16 = .ok (.iconst 1, 1) := by decide +kernel
theorem dX8_order_17 : decode cX8_order 17 = .ok (.invokevirtual 194, 3) := by decide +kernel
theorem dX8_order_20 : decode cX8_order 20 = .ok (.ifCond .eq 5, 3) := by decide +kernel
theorem dX8_order_23 : decode cX8_order 23 = .ok (.iconst 0, 1) := by decide +kernel
theorem dX8_order_24 : decode cX8_order 24 = .ok (.ireturn, 1) := by decide +kernel
theorem dX8_order_25 : decode cX8_order 25 = .ok (.aload_n 0, 1) := by decide +kernel
theorem dX8_order_26 : decode cX8_order 26 = .ok (.getfield 13, 3) := by decide +kernel
theorem dX8_order_29 : decode cX8_order 29 = .ok (.iconst 3, 1) := by decide +kernel
theorem dX8_order_30 : decode cX8_order 30 = .ok (.iaload, 1) := by decide +kernel
theorem dX8_order_31 : decode cX8_order 31 = .ok (.istore_n 2, 1) := by decide +kernel
theorem dX8_order_32 : decode cX8_order 32 = .ok (.iload_n 2, 1) := by decide +kernel
theorem dX8_order_33 : decode cX8_order 33 = .ok (.bipush 8, 2) := by decide +kernel
theorem dX8_order_35 : decode cX8_order 35 = .ok (.if_icmp .le 6, 3) := by decide +kernel
theorem dX8_order_38 : decode cX8_order 38 = .ok (.bipush (-3), 2) := by decide +kernel
theorem dX8_order_40 : decode cX8_order 40 = .ok (.ireturn, 1) := by decide +kernel
theorem dX8_order_41 : decode cX8_order 41 = .ok (.iload_n 2, 1) := by decide +kernel
theorem dX8_order_42 : decode cX8_order 42 = .ok (.ifCond .ne 14, 3) := by decide +kernel
theorem dX8_order_45 : decode cX8_order 45 = .ok (.iload_n 1, 1) := by decide +kernel
theorem dX8_order_46 : decode cX8_order 46 = .ok (.iconst (-1), 1) := by decide +kernel
theorem dX8_order_47 : decode cX8_order 47 = .ok (.if_icmp .ne 7, 3) := by decide +kernel
theorem dX8_order_50 : decode cX8_order 50 = .ok (.iconst 0, 1) := by decide +kernel
theorem dX8_order_51 : decode cX8_order 51 = .ok (.goto 4, 3) := by decide +kernel
theorem dX8_order_54 : decode cX8_order 54 = .ok (.iconst (-1), 1) := by decide +kernel
theorem dX8_order_55 : decode cX8_order 55 = .ok (.ireturn, 1) := by decide +kernel
theorem dX8_order_56 : decode cX8_order 56 = .ok (.aload_n 0, 1) := by decide +kernel
theorem dX8_order_57 : decode cX8_order 57 = .ok (.invokevirtual 371, 3) := by decide +kernel
theorem dX8_order_60 : decode cX8_order 60 = .ok (.istore_n 3, 1) := by decide +kernel
theorem dX8_order_61 : decode cX8_order 61 = .ok (.iload_n 1, 1) := by decide +kernel
theorem dX8_order_62 : decode cX8_order 62 = .ok (.iconst (-1), 1) := by decide +kernel
theorem dX8_order_63 : decode cX8_order 63 = .ok (.if_icmp .ne 7, 3) := by decide +kernel
theorem dX8_order_66 : decode cX8_order 66 = .ok (.iload_n 3, 1) := by decide +kernel
theorem dX8_order_67 : decode cX8_order 67 = .ok (.goto 18, 3) := by decide +kernel
theorem dX8_order_70 : decode cX8_order 70 = .ok (.iload_n 1, 1) := by decide +kernel
theorem dX8_order_71 : decode cX8_order 71 = .ok (.iload_n 2, 1) := by decide +kernel
theorem dX8_order_72 : decode cX8_order 72 = .ok (.if_icmp .ge 12, 3) := by decide +kernel
theorem dX8_order_75 : decode cX8_order 75 = .ok (.aload_n 0, 1) := by decide +kernel
theorem dX8_order_76 : decode cX8_order 76 = .ok (.getfield 55, 3) := by decide +kernel
theorem dX8_order_79 : decode cX8_order 79 = .ok (.iload_n 1, 1) := by decide +kernel
theorem dX8_order_80 : decode cX8_order 80 = .ok (.iaload, 1) := by decide +kernel
theorem dX8_order_81 : decode cX8_order 81 = .ok (.goto 4, 3) := by decide +kernel
theorem dX8_order_84 : decode cX8_order 84 = .ok (.iconst (-1), 1) := by decide +kernel
theorem dX8_order_85 : decode cX8_order 85 = .ok (.ireturn, 1) := by decide +kernel
theorem dX8_play_0 : decode cX8_play 0 = .ok (.aload_n 0, 1) := by decide +kernel
theorem dX8_play_1 : decode cX8_play 1 = .ok (.iconst 0, 1) := by decide +kernel
theorem dX8_play_2 : decode cX8_play 2 = .ok (.putfield 3, 3) := by decide +kernel
theorem dX8_play_5 : decode cX8_play 5 = .ok (.aload_n 0, 1) := by decide +kernel
theorem dX8_play_6 : decode cX8_play 6 = .ok (.iload_n 1, 1) := by decide +kernel
theorem dX8_play_7 : decode cX8_play 7 = .ok (.iconst 1, 1) := by decide +kernel
theorem dX8_play_8 : decode cX8_play 8 = .ok (.bipush 50, 2) := by decide +kernel
theorem dX8_play_10 : decode cX8_play 10 = .ok (.invokestatic 72, 3) := by decide +kernel
theorem dX8_play_13 : decode cX8_play 13 = .ok (.ifCond .ne 7, 3) := by decide +kernel
theorem dX8_play_16 : decode cX8_play 16 = .ok (.iconst 1, 1) := by decide +kernel
theorem dX8_play_17 : decode cX8_play 17 = .ok (.goto 4, 3) := by decide +kernel
theorem dX8_play_20 : decode cX8_play 20 = .ok (.iconst 0, 1) := by decide +kernel
theorem dX8_play_21 : decode cX8_play 21 = .ok (.iconst 1, 1) := by decide +kernel
theorem dX8_play_22 : decode cX8_play 22 = .ok (.invokevirtual 194, 3) := by decide +kernel
theorem dX8_play_25 : decode cX8_play 25 = .ok (.ifCond .eq 5, 3) := by decide +kernel
theorem dX8_play_28 : decode cX8_play 28 = .ok (.iconst 0, 1) := by decide +kernel
theorem dX8_play_29 : decode cX8_play 29 = .ok (.ireturn, 1) := by decide +kernel
theorem dX8_play_30 : decode cX8_play 30 = .ok (.iconst 0, 1) := by decide +kernel
theorem dX8_play_31 : decode cX8_play 31 = .ok (.istore_n 2, 1) := by decide +kernel
theorem dX8_play_32 : decode cX8_play 32 = .ok (.iconst 0, 1) := by decide +kernel
theorem dX8_play_33 : decode cX8_play 33 = .ok (.istore_n 3, 1) := by decide +kernel
theorem dX8_play_34 : decode cX8_play 34 = .ok (.iload_n 3, 1) := by decide +kernel
theorem dX8_play_35 : decode cX8_play 35 = .ok (.iload_n 1, 1) := by decide +kernel
theorem dX8_play_36 : decode cX8_play 36 = .ok (.if_icmp .ge 139, 3) := by decide +kernel
theorem dX8_play_39 : decode cX8_play 39 = .ok (.iconst 0, 1) := by decide +kernel
theorem dX8_play_40 : decode cX8_play 40 = .ok (.istore 4, 2) := by decide +kernel
theorem dX8_play_42 : decode cX8_play 42 = .ok (.iload 4, 2) := by decide +kernel
theorem dX8_play_44 : decode cX8_play 44 = .ok (.aload_n 0, 1) := by decide +kernel
theorem dX8_play_45 : decode cX8_play 45 = .ok (.getfield 13, 3) := by decide +kernel
theorem dX8_play_48 : decode cX8_play 48 = .ok (.iconst 3, 1) := by decide +kernel
theorem dX8_play_49 : decode cX8_play 49 = .ok (.iaload, 1) := by decide +kernel
theorem dX8_play_50 : decode cX8_play 50 = .ok (.if_icmp .ge 119, 3) := by decide +kernel
theorem dX8_play_53 : decode cX8_play 53 = .ok (.iconst 0, 1) := by decide +kernel
theorem dX8_play_54 : decode cX8_play 54 = .ok (.istore 5, 2) := by decide +kernel
theorem dX8_play_56 : decode cX8_play 56 = .ok (.iload 5, 2) := by decide +kernel
theorem dX8_play_58 : decode cX8_play 58 = .ok (.iconst 4, 1) := by decide +kernel
theorem dX8_play_59 : decode cX8_play 59 = .ok (.if_icmp .ge 104, 3) := by decide +kernel
theorem dX8_play_62 : decode cX8_play 62 = .ok (.aload_n 0, 1) := by decide +kernel
theorem dX8_play_63 : decode cX8_play 63 = .ok (.iload 4, 2) := by decide +kernel
theorem dX8_play_65 : decode cX8_play 65 = .ok (.iload 5, 2) := by decide +kernel
theorem dX8_play_67 : decode cX8_play 67 = .ok (.invokevirtual 353, 3) := by decide +kernel
theorem dX8_play_70 : decode cX8_play 70 = .ok (.istore 6, 2) := by decide +kernel
theorem dX8_play_72 : decode cX8_play 72 = .ok (.iload 6, 2) := by decide +kernel
theorem dX8_play_74 : decode cX8_play 74 = .ok (.ifCond .ge 6, 3) := by decide +kernel
theorem dX8_play_77 : decode cX8_play 77 = .ok (.goto 80, 3) := by decide +kernel
theorem dX8_play_80 : decode cX8_play 80 = .ok (.aload_n 0, 1) := by decide +kernel
theorem dX8_play_81 : decode cX8_play 81 = .ok (.iload 6, 2) := by decide +kernel
theorem dX8_play_83 : decode cX8_play 83 = .ok (.iconst 3, 1) := by decide +kernel
theorem dX8_play_84 : decode cX8_play 84 = .ok (.aload_n 0, 1) := by decide +kernel
theorem dX8_play_85 : decode cX8_play 85 = .ok (.iload 6, 2) := by decide +kernel
theorem dX8_play_87 : decode cX8_play 87 = .ok (.iconst 3, 1) := by decide +kernel
theorem dX8_play_88 : decode cX8_play 88 = .ok (.invokevirtual 205, 3) := by decide +kernel
theorem dX8_play_91 : decode cX8_play 91 = .ok (.iconst 1, 1) := by decide +kernel
theorem dX8_play_92 : decode cX8_play 92 = .ok (.iadd, 1) := by decide +kernel
theorem dX8_play_93 : decode cX8_play 93 = .ok (.invokevirtual 198, 3) := by decide +kernel
theorem dX8_play_96 : decode cX8_play 96 = .ok (.aload_n 0, 1) := by decide +kernel
theorem dX8_play_97 : decode cX8_play 97 = .ok (.iload 6, 2) := by decide +kernel
theorem dX8_play_99 : decode cX8_play 99 = .ok (.iconst 3, 1) := by decide +kernel
theorem dX8_play_100 : decode cX8_play 100 = .ok (.invokevirtual 205, 3) := by decide +kernel
theorem dX8_play_103 : decode cX8_play 103 = .ok (.bipush 10, 2) := by decide +kernel
theorem dX8_play_105 : decode cX8_play 105 = .ok (.irem, 1) := by decide +kernel
theorem dX8_play_106 : decode cX8_play 106 = .ok (.ifCond .ne 16, 3) := by decide +kernel
theorem dX8_play_109 : decode cX8_play 109 = .ok (.aload_n 0, 1) := by decide +kernel
theorem dX8_play_110 : decode cX8_play 110 = .ok (.iload 6, 2) := by decide +kernel
theorem dX8_play_112 : decode cX8_play 112 = .ok (.iconst 1, 1) := by decide +kernel
theorem dX8_play_113 : decode cX8_play 113 = .ok (.invokevirtual 205, 3) := by decide +kernel
theorem dX8_play_116 : decode cX8_play 116 = .ok (.invokestatic 228, 3) := by decide +kernel
theorem dX8_play_119 : decode cX8_play 119 = .ok (.goto 4, 3) := by decide +kernel
theorem dX8_play_122 : decode cX8_play 122 = .ok (.iconst (-1), 1) := by decide +kernel
theorem dX8_play_123 : decode cX8_play 123 = .ok (.istore 7, 2) := by decide +kernel
theorem dX8_play_125 : decode cX8_play 125 = .ok (.iload 7, 2) := by decide +kernel
theorem dX8_play_127 : decode cX8_play 127 = .ok (.ifCond .ge 6, 3) := by decide +kernel
theorem dX8_play_130 : decode cX8_play 130 = .ok (.goto 27, 3) := by decide +kernel
theorem dX8_play_133 : decode cX8_play 133 = .ok (.aload_n 0, 1) := by decide +kernel
theorem dX8_play_134 : decode cX8_play 134 = .ok (.iload 6, 2) := by decide +kernel
theorem dX8_play_136 : decode cX8_play 136 = .ok (.iconst 1, 1) := by decide +kernel
theorem dX8_play_137 : decode cX8_play 137 = .ok (.aload_n 0, 1) := by decide +kernel
theorem dX8_play_138 : decode cX8_play 138 = .ok (.iload 6, 2) := by decide +kernel
theorem dX8_play_140 : decode cX8_play 140 = .ok (.iconst 1, 1) := by decide +kernel
theorem dX8_play_141 : decode cX8_play 141 = .ok (.invokevirtual 205, 3) := by decide +kernel
theorem dX8_play_144 : decode cX8_play 144 = .ok (.iconst 1, 1) := by decide +kernel
theorem dX8_play_145 : decode cX8_play 145 = .ok (.iload 7, 2) := by decide +kernel
theorem dX8_play_147 : decode cX8_play 147 = .ok (.ishl, 1) := by decide +kernel
theorem dX8_play_148 : decode cX8_play 148 = .ok (.iconst (-1), 1) := by decide +kernel
theorem dX8_play_149 : decode cX8_play 149 = .ok (.ixor, 1) := by decide +kernel
theorem dX8_play_150 : decode cX8_play 150 = .ok (.iand, 1) := by decide +kernel
theorem dX8_play_151 : decode cX8_play 151 = .ok (.invokevirtual 198, 3) := by decide +kernel
theorem dX8_play_154 : decode cX8_play 154 = .ok (.iinc 2 1, 3) := by decide +kernel
theorem dX8_play_157 : decode cX8_play 157 = .ok (.iinc 5 1, 3) := by decide +kernel
theorem dX8_play_160 : decode cX8_play 160 = .ok (.goto (-104), 3) := by decide +kernel
theorem dX8_play_163 : decode cX8_play 163 = .ok (.iinc 4 1, 3) := by decide +kernel
theorem dX8_play_166 : decode cX8_play 166 = .ok (.goto (-124), 3) := by decide +kernel
theorem dX8_play_169 : decode cX8_play 169 = .ok (.iinc 3 1, 3) := by decide +kernel
theorem dX8_play_172 : decode cX8_play 172 = .ok (.goto (-138), 3) := by decide +kernel
theorem dX8_play_175 : decode cX8_play 175 = .ok (.iload_n 2, 1) := by decide +kernel
theorem dX8_play_176 : decode cX8_play 176 = .ok (.ireturn, 1) := by decide +kernel
theorem dX8_uses_0 : decode cX8_uses 0 = .ok (.aload_n 0, 1) := by decide +kernel
theorem dX8_uses_1 : decode cX8_uses 1 = .ok (.iconst 0, 1) := by decide +kernel
theorem dX8_uses_2 : decode cX8_uses 2 = .ok (.putfield 3, 3) := by decide +kernel
theorem dX8_uses_5 : decode cX8_uses 5 = .ok (.aload_n 0, 1) := by decide +kernel
theorem dX8_uses_6 : decode cX8_uses 6 = .ok (.aload_n 0, 1) := by decide +kernel
theorem dX8_uses_7 : decode cX8_uses 7 = .ok (.iload_n 1, 1) := by decide +kernel
theorem dX8_uses_8 : decode cX8_uses 8 = .ok (.invokevirtual 202, 3) := by decide +kernel
theorem dX8_uses_11 : decode cX8_uses 11 = .ok (.iconst 1, 1) := by decide +kernel
theorem dX8_uses_12 : decode cX8_uses 12 = .ok (.invokevirtual 194, 3) := by decide +kernel
theorem dX8_uses_15 : decode cX8_uses 15 = .ok (.ifCond .eq 7, 3) := by decide +kernel
theorem dX8_uses_18 : decode cX8_uses 18 = .ok (.iconst 0, 1) := by decide +kernel
theorem dX8_uses_19 : decode cX8_uses 19 = .ok (.goto 9, 3) := by decide +kernel
theorem dX8_uses_22 : decode cX8_uses 22 = .ok (.aload_n 0, 1) := by decide +kernel
theorem dX8_uses_23 : decode cX8_uses 23 = .ok (.iload_n 1, 1) := by decide +kernel
theorem dX8_uses_24 : decode cX8_uses 24 = .ok (.iconst 3, 1) := by decide +kernel
theorem dX8_uses_25 : decode cX8_uses 25 = .ok (.invokevirtual 205, 3) := by decide +kernel
theorem dX8_uses_28 : decode cX8_uses 28 = .ok (.ireturn, 1) := by decide +kernel
theorem dX8_paste_0 : decode cX8_paste 0 = .ok (.aload_n 0, 1) := by decide +kernel
theorem dX8_paste_1 : decode cX8_paste 1 = .ok (.iconst 0, 1) := by decide +kernel
theorem dX8_paste_2 : decode cX8_paste 2 = .ok (.putfield 3, 3) := by decide +kernel
theorem dX8_paste_5 : decode cX8_paste 5 = .ok (.aload_n 0, 1) := by decide +kernel
theorem dX8_paste_6 : decode cX8_paste 6 = .ok (.aload_n 0, 1) := by decide +kernel
theorem dX8_paste_7 : decode cX8_paste 7 = .ok (.iload_n 1, 1) := by decide +kernel
theorem dX8_paste_8 : decode cX8_paste 8 = .ok (.invokevirtual 202, 3) := by decide +kernel
theorem dX8_paste_11 : decode cX8_paste 11 = .ok (.iconst 1, 1) := by decide +kernel
theorem dX8_paste_12 : decode cX8_paste 12 = .ok (.invokevirtual 194, 3) := by decide +kernel
theorem dX8_paste_15 : decode cX8_paste 15 = .ok (.ifCond .eq 5, 3) := by decide +kernel
theorem dX8_paste_18 : decode cX8_paste 18 = .ok (.iconst 0, 1) := by decide +kernel
theorem dX8_paste_19 : decode cX8_paste 19 = .ok (.ireturn, 1) := by decide +kernel
theorem dX8_paste_20 : decode cX8_paste 20 = .ok (.aload_n 0, 1) := by decide +kernel
theorem dX8_paste_21 : decode cX8_paste 21 = .ok (.iload_n 1, 1) := by decide +kernel
theorem dX8_paste_22 : decode cX8_paste 22 = .ok (.iconst 1, 1) := by decide +kernel
theorem dX8_paste_23 : decode cX8_paste 23 = .ok (.invokevirtual 205, 3) := by decide +kernel
theorem dX8_paste_26 : decode cX8_paste 26 = .ok (.aload_n 0, 1) := by decide +kernel
theorem dX8_paste_27 : decode cX8_paste 27 = .ok (.iload_n 1, 1) := by decide +kernel
theorem dX8_paste_28 : decode cX8_paste 28 = .ok (.iconst 2, 1) := by decide +kernel
theorem dX8_paste_29 : decode cX8_paste 29 = .ok (.invokevirtual 205, 3) := by decide +kernel
theorem dX8_paste_32 : decode cX8_paste 32 = .ok (.ixor, 1) := by decide +kernel
theorem dX8_paste_33 : decode cX8_paste 33 = .ok (.invokestatic 211, 3) := by decide +kernel
theorem dX8_paste_36 : decode cX8_paste 36 = .ok (.istore_n 2, 1) := by decide +kernel
theorem dX8_paste_37 : decode cX8_paste 37 = .ok (.aload_n 0, 1) := by decide +kernel
theorem dX8_paste_38 : decode cX8_paste 38 = .ok (.iload_n 1, 1) := by decide +kernel
theorem dX8_paste_39 : decode cX8_paste 39 = .ok (.iconst 1, 1) := by decide +kernel
theorem dX8_paste_40 : decode cX8_paste 40 = .ok (.aload_n 0, 1) := by decide +kernel
theorem dX8_paste_41 : decode cX8_paste 41 = .ok (.iload_n 1, 1) := by decide +kernel
theorem dX8_paste_42 : decode cX8_paste 42 = .ok (.iconst 2, 1) := by decide +kernel
theorem dX8_paste_43 : decode cX8_paste 43 = .ok (.invokevirtual 205, 3) := by decide +kernel
theorem dX8_paste_46 : decode cX8_paste 46 = .ok (.invokevirtual 198, 3) := by decide +kernel
theorem dX8_paste_49 : decode cX8_paste 49 = .ok (.iload_n 2, 1) := by decide +kernel
theorem dX8_paste_50 : decode cX8_paste 50 = .ok (.ireturn, 1) := by decide +kernel
theorem dX8_seen_0 : decode cX8_seen 0 = .ok (.aload_n 0, 1) := by decide +kernel
theorem dX8_seen_1 : decode cX8_seen 1 = .ok (.iconst 0, 1) := by decide +kernel
theorem dX8_seen_2 : decode cX8_seen 2 = .ok (.putfield 3, 3) := by decide +kernel
theorem dX8_seen_5 : decode cX8_seen 5 = .ok (.aload_n 0, 1) := by decide +kernel
theorem dX8_seen_6 : decode cX8_seen 6 = .ok (.aload_n 0, 1) := by decide +kernel
theorem dX8_seen_7 : decode cX8_seen 7 = .ok (.iload_n 1, 1) := by decide +kernel
theorem dX8_seen_8 : decode cX8_seen 8 = .ok (.invokevirtual 300, 3) := by decide +kernel
theorem dX8_seen_11 : decode cX8_seen 11 = .ok (.ifCond .ne 12, 3) := by decide +kernel
theorem dX8_seen_14 : decode cX8_seen 14 = .ok (.aload_n 0, 1) := by decide +kernel
theorem dX8_seen_15 : decode cX8_seen 15 = .ok (.iload_n 2, 1) := by decide +kernel
theorem dX8_seen_16 : decode cX8_seen 16 = .ok (.iload_n 3, 1) := by decide +kernel
theorem dX8_seen_17 : decode cX8_seen 17 = .ok (.invokevirtual 287, 3) := by decide +kernel
theorem dX8_seen_20 : decode cX8_seen 20 = .ok (.ifCond .eq 7, 3) := by decide +kernel
theorem dX8_seen_23 : decode cX8_seen 23 = .ok (.iconst 1, 1) := by decide +kernel
theorem dX8_seen_24 : decode cX8_seen 24 = .ok (.goto 4, 3) := by decide +kernel
theorem dX8_seen_27 : decode cX8_seen 27 = .ok (.iconst 0, 1) := by decide +kernel
theorem dX8_seen_28 : decode cX8_seen 28 = .ok (.iconst 1, 1) := by decide +kernel
theorem dX8_seen_29 : decode cX8_seen 29 = .ok (.invokevirtual 194, 3) := by decide +kernel
theorem dX8_seen_32 : decode cX8_seen 32 = .ok (.ifCond .ne 27, 3) := by decide +kernel
theorem dX8_seen_35 : decode cX8_seen 35 = .ok (.aload_n 0, 1) := by decide +kernel
theorem dX8_seen_36 : decode cX8_seen 36 = .ok (.aload_n 0, 1) := by decide +kernel
theorem dX8_seen_37 : decode cX8_seen 37 = .ok (.getfield 13, 3) := by decide +kernel
theorem dX8_seen_40 : decode cX8_seen 40 = .ok (.iconst 4, 1) := by decide +kernel
theorem dX8_seen_41 : decode cX8_seen 41 = .ok (.iaload, 1) := by decide +kernel
theorem dX8_seen_42 : decode cX8_seen 42 = .ok (.bipush 6, 2) := by decide +kernel
theorem dX8_seen_44 : decode cX8_seen 44 = .ok (.if_icmp .ne 7, 3) := by decide +kernel
theorem dX8_seen_47 : decode cX8_seen 47 = .ok (.iconst 1, 1) := by decide +kernel
theorem dX8_seen_48 : decode cX8_seen 48 = .ok (.goto 4, 3) := by decide +kernel
theorem dX8_seen_51 : decode cX8_seen 51 = .ok (.iconst 0, 1) := by decide +kernel
theorem dX8_seen_52 : decode cX8_seen 52 = .ok (.iconst 2, 1) := by decide +kernel
theorem dX8_seen_53 : decode cX8_seen 53 = .ok (.invokevirtual 194, 3) := by decide +kernel
theorem dX8_seen_56 : decode cX8_seen 56 = .ok (.ifCond .eq 5, 3) := by decide +kernel
theorem dX8_seen_59 : decode cX8_seen 59 = .ok (.iconst 0, 1) := by decide +kernel
theorem dX8_seen_60 : decode cX8_seen 60 = .ok (.ireturn, 1) := by decide +kernel
theorem dX8_seen_61 : decode cX8_seen 61 = .ok (.sipush 960, 3) := by decide +kernel
theorem dX8_seen_64 : decode cX8_seen 64 = .ok (.iconst 3, 1) := by decide +kernel
theorem dX8_seen_65 : decode cX8_seen 65 = .ok (.aload_n 0, 1) := by decide +kernel
theorem dX8_seen_66 : decode cX8_seen 66 = .ok (.getfield 13, 3) := by decide +kernel
theorem dX8_seen_69 : decode cX8_seen 69 = .ok (.iconst 4, 1) := by decide +kernel
theorem dX8_seen_70 : decode cX8_seen 70 = .ok (.iaload, 1) := by decide +kernel
theorem dX8_seen_71 : decode cX8_seen 71 = .ok (.imul, 1) := by decide +kernel
theorem dX8_seen_72 : decode cX8_seen 72 = .ok (.iadd, 1) := by decide +kernel
theorem dX8_seen_73 : decode cX8_seen 73 = .ok (.istore 4, 2) := by decide +kernel
theorem dX8_seen_75 : decode cX8_seen 75 = .ok (.aload_n 0, 1) := by decide +kernel
theorem dX8_seen_76 : decode cX8_seen 76 = .ok (.getfield 13, 3) := by decide +kernel
theorem dX8_seen_79 : decode cX8_seen 79 = .ok (.iload 4, 2) := by decide +kernel
theorem dX8_seen_81 : decode cX8_seen 81 = .ok (.iload_n 1, 1) := by decide +kernel
theorem dX8_seen_82 : decode cX8_seen 82 = .ok (.iastore, 1) := by decide +kernel
theorem dX8_seen_83 : decode cX8_seen 83 = .ok (.aload_n 0, 1) := by decide +kernel
theorem dX8_seen_84 : decode cX8_seen 84 = .ok (.getfield 13, 3) := by decide +kernel
theorem dX8_seen_87 : decode cX8_seen 87 = .ok (.iload 4, 2) := by decide +kernel
theorem dX8_seen_89 : decode cX8_seen 89 = .ok (.iconst 1, 1) := by decide +kernel
theorem dX8_seen_90 : decode cX8_seen 90 = .ok (.iadd, 1) := by decide +kernel
theorem dX8_seen_91 : decode cX8_seen 91 = .ok (.iload_n 2, 1) := by decide +kernel
theorem dX8_seen_92 : decode cX8_seen 92 = .ok (.iastore, 1) := by decide +kernel
theorem dX8_seen_93 : decode cX8_seen 93 = .ok (.aload_n 0, 1) := by decide +kernel
theorem dX8_seen_94 : decode cX8_seen 94 = .ok (.getfield 13, 3) := by decide +kernel
theorem dX8_seen_97 : decode cX8_seen 97 = .ok (.iload 4, 2) := by decide +kernel
theorem dX8_seen_99 : decode cX8_seen 99 = .ok (.iconst 2, 1) := by decide +kernel
theorem dX8_seen_100 : decode cX8_seen 100 = .ok (.iadd, 1) := by decide +kernel
theorem dX8_seen_101 : decode cX8_seen 101 = .ok (.iload_n 3, 1) := by decide +kernel
theorem dX8_seen_102 : decode cX8_seen 102 = .ok (.iastore, 1) := by decide +kernel
theorem dX8_seen_103 : decode cX8_seen 103 = .ok (.aload_n 0, 1) := by decide +kernel
theorem dX8_seen_104 : decode cX8_seen 104 = .ok (.getfield 13, 3) := by decide +kernel
theorem dX8_seen_107 : decode cX8_seen 107 = .ok (.iconst 4, 1) := by decide +kernel
theorem dX8_seen_108 : decode cX8_seen 108 = .ok (.dup2, 1) := by decide +kernel
theorem dX8_seen_109 : decode cX8_seen 109 = .ok (.iaload, 1) := by decide +kernel
theorem dX8_seen_110 : decode cX8_seen 110 = .ok (.iconst 1, 1) := by decide +kernel
theorem dX8_seen_111 : decode cX8_seen 111 = .ok (.iadd, 1) := by decide +kernel
theorem dX8_seen_112 : decode cX8_seen 112 = .ok (.iastore, 1) := by decide +kernel
theorem dX8_seen_113 : decode cX8_seen 113 = .ok (.aload_n 0, 1) := by decide +kernel
theorem dX8_seen_114 : decode cX8_seen 114 = .ok (.getfield 13, 3) := by decide +kernel
theorem dX8_seen_117 : decode cX8_seen 117 = .ok (.iconst 4, 1) := by decide +kernel
theorem dX8_seen_118 : decode cX8_seen 118 = .ok (.iaload, 1) := by decide +kernel
theorem dX8_seen_119 : decode cX8_seen 119 = .ok (.ireturn, 1) := by decide +kernel
theorem dX8_seesAll_0 : decode cX8_seesAll 0 = .ok (.iconst 0, 1) := by decide +kernel
theorem dX8_seesAll_1 : decode cX8_seesAll 1 = .ok (.istore_n 1, 1) := by decide +kernel
theorem dX8_seesAll_2 : decode cX8_seesAll 2 = .ok (.iload_n 1, 1) := by decide +kernel
theorem dX8_seesAll_3 : decode cX8_seesAll 3 = .ok (.aload_n 0, 1) := by decide +kernel
theorem dX8_seesAll_4 : decode cX8_seesAll 4 = .ok (.invokevirtual 333, 3) := by decide +kernel
theorem dX8_seesAll_7 : decode cX8_seesAll 7 = .ok (.if_icmp .ge 28, 3) := by decide +kernel
theorem dX8_seesAll_10 : decode cX8_seesAll 10 = .ok (.aload_n 0, 1) := by decide +kernel
theorem dX8_seesAll_11 : decode cX8_seesAll 11 = .ok (.getfield 61, 3) := by decide +kernel
theorem dX8_seesAll_14 : decode cX8_seesAll 14 = .ok (.iload_n 1, 1) := by decide +kernel
theorem dX8_seesAll_15 : decode cX8_seesAll 15 = .ok (.aload_n 0, 1) := by decide +kernel
theorem dX8_seesAll_16 : decode cX8_seesAll 16 = .ok (.iload_n 1, 1) := by decide +kernel
theorem dX8_seesAll_17 : decode cX8_seesAll 17 = .ok (.invokevirtual 336, 3) := by decide +kernel
theorem dX8_seesAll_20 : decode cX8_seesAll 20 = .ok (.ifCond .eq 7, 3) := by decide +kernel
theorem dX8_seesAll_23 : decode cX8_seesAll 23 = .ok (.iconst 0, 1) := by decide +kernel
theorem dX8_seesAll_24 : decode cX8_seesAll 24 = .ok (.goto 4, 3) := by decide +kernel
theorem dX8_seesAll_27 : decode cX8_seesAll 27 = .ok (.iconst (-1), 1) := by decide +kernel
theorem dX8_seesAll_28 : decode cX8_seesAll 28 = .ok (.iastore, 1) := by decide +kernel
theorem dX8_seesAll_29 : decode cX8_seesAll 29 = .ok (.iinc 1 1, 3) := by decide +kernel
theorem dX8_seesAll_32 : decode cX8_seesAll 32 = .ok (.goto (-30), 3) := by decide +kernel
theorem dX8_seesAll_35 : decode cX8_seesAll 35 = .ok (.iconst 0, 1) := by decide +kernel
theorem dX8_seesAll_36 : decode cX8_seesAll 36 = .ok (.istore_n 1, 1) := by decide +kernel
theorem dX8_seesAll_37 : decode cX8_seesAll 37 = .ok (.iload_n 1, 1) := by decide +kernel
theorem dX8_seesAll_38 : decode cX8_seesAll 38 = .ok (.aload_n 0, 1) := by decide +kernel
theorem dX8_seesAll_39 : decode cX8_seesAll 39 = .ok (.getfield 13, 3) := by decide +kernel
theorem dX8_seesAll_42 : decode cX8_seesAll 42 = .ok (.iconst 4, 1) := by decide +kernel
theorem dX8_seesAll_43 : decode cX8_seesAll 43 = .ok (.iaload, 1) := by decide +kernel
theorem dX8_seesAll_44 : decode cX8_seesAll 44 = .ok (.if_icmp .ge 89, 3) := by decide +kernel
theorem dX8_seesAll_47 : decode cX8_seesAll 47 = .ok (.sipush 960, 3) := by decide +kernel
theorem dX8_seesAll_50 : decode cX8_seesAll 50 = .ok (.iconst 3, 1) := by decide +kernel
theorem dX8_seesAll_51 : decode cX8_seesAll 51 = .ok (.iload_n 1, 1) := by decide +kernel
theorem dX8_seesAll_52 : decode cX8_seesAll 52 = .ok (.imul, 1) := by decide +kernel
theorem dX8_seesAll_53 : decode cX8_seesAll 53 = .ok (.iadd, 1) := by decide +kernel
theorem dX8_seesAll_54 : decode cX8_seesAll 54 = .ok (.istore_n 2, 1) := by decide +kernel
theorem dX8_seesAll_55 : decode cX8_seesAll 55 = .ok (.aload_n 0, 1) := by decide +kernel
theorem dX8_seesAll_56 : decode cX8_seesAll 56 = .ok (.aload_n 0, 1) := by decide +kernel
theorem dX8_seesAll_57 : decode cX8_seesAll 57 = .ok (.getfield 13, 3) := by decide +kernel
theorem dX8_seesAll_60 : decode cX8_seesAll 60 = .ok (.iload_n 2, 1) := by decide +kernel
theorem dX8_seesAll_61 : decode cX8_seesAll 61 = .ok (.iconst 1, 1) := by decide +kernel
theorem dX8_seesAll_62 : decode cX8_seesAll 62 = .ok (.iadd, 1) := by decide +kernel
theorem dX8_seesAll_63 : decode cX8_seesAll 63 = .ok (.iaload, 1) := by decide +kernel
theorem dX8_seesAll_64 : decode cX8_seesAll 64 = .ok (.aload_n 0, 1) := by decide +kernel
theorem dX8_seesAll_65 : decode cX8_seesAll 65 = .ok (.getfield 13, 3) := by decide +kernel
theorem dX8_seesAll_68 : decode cX8_seesAll 68 = .ok (.iload_n 2, 1) := by decide +kernel
theorem dX8_seesAll_69 : decode cX8_seesAll 69 = .ok (.iconst 2, 1) := by decide +kernel
theorem dX8_seesAll_70 : decode cX8_seesAll 70 = .ok (.iadd, 1) := by decide +kernel
theorem dX8_seesAll_71 : decode cX8_seesAll 71 = .ok (.iaload, 1) := by decide +kernel
theorem dX8_seesAll_72 : decode cX8_seesAll 72 = .ok (.invokevirtual 293, 3) := by decide +kernel
theorem dX8_seesAll_75 : decode cX8_seesAll 75 = .ok (.iconst 0, 1) := by decide +kernel
theorem dX8_seesAll_76 : decode cX8_seesAll 76 = .ok (.istore_n 3, 1) := by decide +kernel
theorem dX8_seesAll_77 : decode cX8_seesAll 77 = .ok (.iload_n 3, 1) := by decide +kernel
theorem dX8_seesAll_78 : decode cX8_seesAll 78 = .ok (.aload_n 0, 1) := by decide +kernel
theorem dX8_seesAll_79 : decode cX8_seesAll 79 = .ok (.invokevirtual 333, 3) := by decide +kernel
theorem dX8_seesAll_82 : decode cX8_seesAll 82 = .ok (.if_icmp .ge 45, 3) := by decide +kernel
theorem dX8_seesAll_85 : decode cX8_seesAll 85 = .ok (.aload_n 0, 1) := by decide +kernel
theorem dX8_seesAll_86 : decode cX8_seesAll 86 = .ok (.getfield 61, 3) := by decide +kernel
theorem dX8_seesAll_89 : decode cX8_seesAll 89 = .ok (.iload_n 3, 1) := by decide +kernel
theorem dX8_seesAll_90 : decode cX8_seesAll 90 = .ok (.iaload, 1) := by decide +kernel
theorem dX8_seesAll_91 : decode cX8_seesAll 91 = .ok (.ifCond .lt 30, 3) := by decide +kernel
theorem dX8_seesAll_94 : decode cX8_seesAll 94 = .ok (.aload_n 0, 1) := by decide +kernel
theorem dX8_seesAll_95 : decode cX8_seesAll 95 = .ok (.iload_n 3, 1) := by decide +kernel
theorem dX8_seesAll_96 : decode cX8_seesAll 96 = .ok (.invokevirtual 336, 3) := by decide +kernel
theorem dX8_seesAll_99 : decode cX8_seesAll 99 = .ok (.ifCond .eq 22, 3) := by decide +kernel
theorem dX8_seesAll_102 : decode cX8_seesAll 102 = .ok (.aload_n 0, 1) := by decide +kernel
theorem dX8_seesAll_103 : decode cX8_seesAll 103 = .ok (.getfield 61, 3) := by decide +kernel
theorem dX8_seesAll_106 : decode cX8_seesAll 106 = .ok (.iload_n 3, 1) := by decide +kernel
theorem dX8_seesAll_107 : decode cX8_seesAll 107 = .ok (.dup2, 1) := by decide +kernel
theorem dX8_seesAll_108 : decode cX8_seesAll 108 = .ok (.iaload, 1) := by decide +kernel
theorem dX8_seesAll_109 : decode cX8_seesAll 109 = .ok (.aload_n 0, 1) := by decide +kernel
theorem dX8_seesAll_110 : decode cX8_seesAll 110 = .ok (.aload_n 0, 1) := by decide +kernel
theorem dX8_seesAll_111 : decode cX8_seesAll 111 = .ok (.getfield 13, 3) := by decide +kernel
theorem dX8_seesAll_114 : decode cX8_seesAll 114 = .ok (.iload_n 2, 1) := by decide +kernel
theorem dX8_seesAll_115 : decode cX8_seesAll 115 = .ok (.iaload, 1) := by decide +kernel
theorem dX8_seesAll_116 : decode cX8_seesAll 116 = .ok (.invokevirtual 306, 3) := by decide +kernel
theorem dX8_seesAll_119 : decode cX8_seesAll 119 = .ok (.iadd, 1) := by decide +kernel
theorem dX8_seesAll_120 : decode cX8_seesAll 120 = .ok (.iastore, 1) := by decide +kernel
theorem dX8_seesAll_121 : decode cX8_seesAll 121 = .ok (.iinc 3 1, 3) := by decide +kernel
theorem dX8_seesAll_124 : decode cX8_seesAll 124 = .ok (.goto (-47), 3) := by decide +kernel
theorem dX8_seesAll_127 : decode cX8_seesAll 127 = .ok (.iinc 1 1, 3) := by decide +kernel
theorem dX8_seesAll_130 : decode cX8_seesAll 130 = .ok (.goto (-93), 3) := by decide +kernel
theorem dX8_seesAll_133 : decode cX8_seesAll 133 = .ok (.aload_n 0, 1) := by decide +kernel
theorem dX8_seesAll_134 : decode cX8_seesAll 134 = .ok (.iconst (-1), 1) := by decide +kernel
theorem dX8_seesAll_135 : decode cX8_seesAll 135 = .ok (.putfield 330, 3) := by decide +kernel
theorem dX8_seesAll_138 : decode cX8_seesAll 138 = .ok (.iconst 0, 1) := by decide +kernel
theorem dX8_seesAll_139 : decode cX8_seesAll 139 = .ok (.istore_n 1, 1) := by decide +kernel
theorem dX8_seesAll_140 : decode cX8_seesAll 140 = .ok (.iload_n 1, 1) := by decide +kernel
theorem dX8_seesAll_141 : decode cX8_seesAll 141 = .ok (.aload_n 0, 1) := by decide +kernel
theorem dX8_seesAll_142 : decode cX8_seesAll 142 = .ok (.invokevirtual 333, 3) := by decide +kernel
theorem dX8_seesAll_145 : decode cX8_seesAll 145 = .ok (.if_icmp .ge 49, 3) := by decide +kernel
theorem dX8_seesAll_148 : decode cX8_seesAll 148 = .ok (.aload_n 0, 1) := by decide +kernel
theorem dX8_seesAll_149 : decode cX8_seesAll 149 = .ok (.getfield 61, 3) := by decide +kernel
theorem dX8_seesAll_152 : decode cX8_seesAll 152 = .ok (.iload_n 1, 1) := by decide +kernel
theorem dX8_seesAll_153 : decode cX8_seesAll 153 = .ok (.iaload, 1) := by decide +kernel
theorem dX8_seesAll_154 : decode cX8_seesAll 154 = .ok (.ifCond .lt 34, 3) := by decide +kernel
theorem dX8_seesAll_157 : decode cX8_seesAll 157 = .ok (.aload_n 0, 1) := by decide +kernel
theorem dX8_seesAll_158 : decode cX8_seesAll 158 = .ok (.iload_n 1, 1) := by decide +kernel
theorem dX8_seesAll_159 : decode cX8_seesAll 159 = .ok (.invokevirtual 336, 3) := by decide +kernel
theorem dX8_seesAll_162 : decode cX8_seesAll 162 = .ok (.ifCond .eq 26, 3) := by decide +kernel
theorem dX8_seesAll_165 : decode cX8_seesAll 165 = .ok (.aload_n 0, 1) := by decide +kernel
theorem dX8_seesAll_166 : decode cX8_seesAll 166 = .ok (.iload_n 1, 1) := by decide +kernel
theorem dX8_seesAll_167 : decode cX8_seesAll 167 = .ok (.aload_n 0, 1) := by decide +kernel
theorem dX8_seesAll_168 : decode cX8_seesAll 168 = .ok (.getfield 61, 3) := by decide +kernel
theorem dX8_seesAll_171 : decode cX8_seesAll 171 = .ok (.iload_n 1, 1) := by decide +kernel
theorem dX8_seesAll_172 : decode cX8_seesAll 172 = .ok (.iaload, 1) := by decide +kernel
theorem dX8_seesAll_173 : decode cX8_seesAll 173 = .ok (.aload_n 0, 1) := by decide +kernel
theorem dX8_seesAll_174 : decode cX8_seesAll 174 = .ok (.getfield 330, 3) := by decide +kernel
theorem dX8_seesAll_177 : decode cX8_seesAll 177 = .ok (.ifCond .ge 7, 3) := by decide +kernel
theorem dX8_seesAll_180 : decode cX8_seesAll 180 = .ok (.iconst 1, 1) := by decide +kernel
theorem dX8_seesAll_181 : decode cX8_seesAll 181 = .ok (.goto 4, 3) := by decide +kernel
theorem dX8_seesAll_184 : decode cX8_seesAll 184 = .ok (.iconst 0, 1) := by decide +kernel
theorem dX8_seesAll_185 : decode cX8_seesAll 185 = .ok (.invokevirtual 339, 3) := by decide +kernel
theorem dX8_seesAll_188 : decode cX8_seesAll 188 = .ok (.iinc 1 1, 3) := by decide +kernel
theorem dX8_seesAll_191 : decode cX8_seesAll 191 = .ok (.goto (-51), 3) := by decide +kernel
theorem dX8_seesAll_194 : decode cX8_seesAll 194 = .ok (.aload_n 0, 1) := by decide +kernel
theorem dX8_seesAll_195 : decode cX8_seesAll 195 = .ok (.aload_n 0, 1) := by decide +kernel
theorem dX8_seesAll_196 : decode cX8_seesAll 196 = .ok (.getfield 330, 3) := by decide +kernel
theorem dX8_seesAll_199 : decode cX8_seesAll 199 = .ok (.invokevirtual 336, 3) := by decide +kernel
theorem dX8_seesAll_202 : decode cX8_seesAll 202 = .ok (.pop, 1) := by decide +kernel
theorem dX8_seesAll_203 : decode cX8_seesAll 203 = .ok (.return_, 1) := by decide +kernel
theorem dX8_together_0 : decode cX8_together 0 = .ok (.aload_n 0, 1) := by decide +kernel
theorem dX8_together_1 : decode cX8_together 1 = .ok (.iconst 0, 1) := by decide +kernel
theorem dX8_together_2 : decode cX8_together 2 = .ok (.putfield 3, 3) := by decide +kernel
theorem dX8_together_5 : decode cX8_together 5 = .ok (.aload_n 0, 1) := by decide +kernel
theorem dX8_together_6 : decode cX8_together 6 = .ok (.iload_n 1, 1) := by decide +kernel
theorem dX8_together_7 : decode cX8_together 7 = .ok (.iconst (-1), 1) := by decide +kernel
theorem dX8_together_8 : decode cX8_together 8 = .ok (.if_icmp .eq 15, 3) := by decide +kernel
theorem dX8_together_11 : decode cX8_together 11 = .ok (.aload_n 0, 1) := by decide +kernel
theorem dX8_together_12 : decode cX8_together 12 = .ok (.iload_n 1, 1) := by decide +kernel
theorem dX8_together_13 : decode cX8_together 13 = .ok (.invokevirtual 246, 3) := by decide +kernel
theorem dX8_together_16 : decode cX8_together 16 = .ok (.ifCond .eq 7, 3) := by decide +kernel
theorem dX8_together_19 : decode cX8_together 19 = .ok (.iconst 1, 1) := by decide +kernel
theorem dX8_together_20 : decode cX8_together 20 = .ok (.goto 4, 3) := by decide +kernel
theorem dX8_together_23 : decode cX8_together 23 = .ok (.iconst 0, 1) := by decide +kernel
theorem dX8_together_24 : decode cX8_together 24 = .ok (.iconst 1, 1) := by decide +kernel
theorem dX8_together_25 : decode cX8_together 25 = .ok (.invokevirtual 194, 3) := by decide +kernel
theorem dX8_together_28 : decode cX8_together 28 = .ok (.ifCond .eq 5, 3) := by decide +kernel
theorem dX8_together_31 : decode cX8_together 31 = .ok (.iconst 0, 1) := by decide +kernel
theorem dX8_together_32 : decode cX8_together 32 = .ok (.ireturn, 1) := by decide +kernel
theorem dX8_together_33 : decode cX8_together 33 = .ok (.aload_n 0, 1) := by decide +kernel
theorem dX8_together_34 : decode cX8_together 34 = .ok (.invokevirtual 374, 3) := by decide +kernel
theorem dX8_together_37 : decode cX8_together 37 = .ok (.iload_n 1, 1) := by decide +kernel
theorem dX8_together_38 : decode cX8_together 38 = .ok (.iconst (-1), 1) := by decide +kernel
theorem dX8_together_39 : decode cX8_together 39 = .ok (.if_icmp .ne 10, 3) := by decide +kernel
theorem dX8_together_42 : decode cX8_together 42 = .ok (.aload_n 0, 1) := by decide +kernel
theorem dX8_together_43 : decode cX8_together 43 = .ok (.getfield 321, 3) := by decide +kernel
theorem dX8_together_46 : decode cX8_together 46 = .ok (.goto 9, 3) := by decide +kernel
theorem dX8_together_49 : decode cX8_together 49 = .ok (.aload_n 0, 1) := by decide +kernel
theorem dX8_together_50 : decode cX8_together 50 = .ok (.getfield 36, 3) := by decide +kernel
theorem dX8_together_53 : decode cX8_together 53 = .ok (.iload_n 1, 1) := by decide +kernel
theorem dX8_together_54 : decode cX8_together 54 = .ok (.iaload, 1) := by decide +kernel
theorem dX8_together_55 : decode cX8_together 55 = .ok (.ireturn, 1) := by decide +kernel
theorem dX8_guess_0 : decode cX8_guess 0 = .ok (.aload_n 0, 1) := by decide +kernel
theorem dX8_guess_1 : decode cX8_guess 1 = .ok (.iconst 0, 1) := by decide +kernel
theorem dX8_guess_2 : decode cX8_guess 2 = .ok (.putfield 3, 3) := by decide +kernel
theorem dX8_guess_5 : decode cX8_guess 5 = .ok (.aload_n 0, 1) := by decide +kernel
theorem dX8_guess_6 : decode cX8_guess 6 = .ok (.iload_n 1, 1) := by decide +kernel
theorem dX8_guess_7 : decode cX8_guess 7 = .ok (.iconst (-1), 1) := by decide +kernel
theorem dX8_guess_8 : decode cX8_guess 8 = .ok (.if_icmp .eq 15, 3) := by decide +kernel
theorem dX8_guess_11 : decode cX8_guess 11 = .ok (.aload_n 0, 1) := by decide +kernel
theorem dX8_guess_12 : decode cX8_guess 12 = .ok (.iload_n 1, 1) := by decide +kernel
theorem dX8_guess_13 : decode cX8_guess 13 = .ok (.invokevirtual 246, 3) := by decide +kernel
theorem dX8_guess_16 : decode cX8_guess 16 = .ok (.ifCond .eq 7, 3) := by decide +kernel
theorem dX8_guess_19 : decode cX8_guess 19 = .ok (.iconst 1, 1) := by decide +kernel
theorem dX8_guess_20 : decode cX8_guess 20 = .ok (.goto 4, 3) := by decide +kernel
theorem dX8_guess_23 : decode cX8_guess 23 = .ok (.iconst 0, 1) := by decide +kernel
theorem dX8_guess_24 : decode cX8_guess 24 = .ok (.iconst 1, 1) := by decide +kernel
theorem dX8_guess_25 : decode cX8_guess 25 = .ok (.invokevirtual 194, 3) := by decide +kernel
theorem dX8_guess_28 : decode cX8_guess 28 = .ok (.ifCond .eq 5, 3) := by decide +kernel
theorem dX8_guess_31 : decode cX8_guess 31 = .ok (.iconst 0, 1) := by decide +kernel
theorem dX8_guess_32 : decode cX8_guess 32 = .ok (.ireturn, 1) := by decide +kernel
theorem dX8_guess_33 : decode cX8_guess 33 = .ok (.aload_n 0, 1) := by decide +kernel
theorem dX8_guess_34 : decode cX8_guess 34 = .ok (.invokevirtual 374, 3) := by decide +kernel
theorem dX8_guess_37 : decode cX8_guess 37 = .ok (.iload_n 1, 1) := by decide +kernel
theorem dX8_guess_38 : decode cX8_guess 38 = .ok (.iconst (-1), 1) := by decide +kernel
theorem dX8_guess_39 : decode cX8_guess 39 = .ok (.if_icmp .eq 22, 3) := by decide +kernel
theorem dX8_guess_42 : decode cX8_guess 42 = .ok (.aload_n 0, 1) := by decide +kernel
theorem dX8_guess_43 : decode cX8_guess 43 = .ok (.getfield 321, 3) := by decide +kernel
theorem dX8_guess_46 : decode cX8_guess 46 = .ok (.ifCond .le 8, 3) := by decide +kernel
theorem dX8_guess_49 : decode cX8_guess 49 = .ok (.bipush (-2), 2) := by decide +kernel
theorem dX8_guess_51 : decode cX8_guess 51 = .ok (.goto 9, 3) := by decide +kernel
theorem dX8_guess_54 : decode cX8_guess 54 = .ok (.aload_n 0, 1) := by decide +kernel
theorem dX8_guess_55 : decode cX8_guess 55 = .ok (.getfield 36, 3) := by decide +kernel
theorem dX8_guess_58 : decode cX8_guess 58 = .ok (.iload_n 1, 1) := by decide +kernel
theorem dX8_guess_59 : decode cX8_guess 59 = .ok (.iaload, 1) := by decide +kernel
theorem dX8_guess_60 : decode cX8_guess 60 = .ok (.ireturn, 1) := by decide +kernel
theorem dX8_guess_61 : decode cX8_guess 61 = .ok (.iconst 0, 1) := by decide +kernel
theorem dX8_guess_62 : decode cX8_guess 62 = .ok (.istore_n 2, 1) := by decide +kernel
theorem dX8_guess_63 : decode cX8_guess 63 = .ok (.iconst 0, 1) := by decide +kernel
theorem dX8_guess_64 : decode cX8_guess 64 = .ok (.istore_n 3, 1) := by decide +kernel
theorem dX8_guess_65 : decode cX8_guess 65 = .ok (.iload_n 3, 1) := by decide +kernel
theorem dX8_guess_66 : decode cX8_guess 66 = .ok (.aload_n 0, 1) := by decide +kernel
theorem dX8_guess_67 : decode cX8_guess 67 = .ok (.invokevirtual 333, 3) := by decide +kernel
theorem dX8_guess_70 : decode cX8_guess 70 = .ok (.if_icmp .ge 26, 3) := by decide +kernel
theorem dX8_guess_73 : decode cX8_guess 73 = .ok (.iload_n 2, 1) := by decide +kernel
theorem dX8_guess_74 : decode cX8_guess 74 = .ok (.aload_n 0, 1) := by decide +kernel
theorem dX8_guess_75 : decode cX8_guess 75 = .ok (.getfield 61, 3) := by decide +kernel
theorem dX8_guess_78 : decode cX8_guess 78 = .ok (.iload_n 3, 1) := by decide +kernel
theorem dX8_guess_79 : decode cX8_guess 79 = .ok (.iaload, 1) := by decide +kernel
theorem dX8_guess_80 : decode cX8_guess 80 = .ok (.ifCond .ne 7, 3) := by decide +kernel
theorem dX8_guess_83 : decode cX8_guess 83 = .ok (.iconst 1, 1) := by decide +kernel
theorem dX8_guess_84 : decode cX8_guess 84 = .ok (.goto 4, 3) := by decide +kernel
theorem dX8_guess_87 : decode cX8_guess 87 = .ok (.iconst 0, 1) := by decide +kernel
theorem dX8_guess_88 : decode cX8_guess 88 = .ok (.iadd, 1) := by decide +kernel
theorem dX8_guess_89 : decode cX8_guess 89 = .ok (.istore_n 2, 1) := by decide +kernel
theorem dX8_guess_90 : decode cX8_guess 90 = .ok (.iinc 3 1, 3) := by decide +kernel
theorem dX8_guess_93 : decode cX8_guess 93 = .ok (.goto (-28), 3) := by decide +kernel
theorem dX8_guess_96 : decode cX8_guess 96 = .ok (.iload_n 2, 1) := by decide +kernel
theorem dX8_guess_97 : decode cX8_guess 97 = .ok (.ireturn, 1) := by decide +kernel
theorem dX8_count_0 : decode cX8_count 0 = .ok (.aload_n 0, 1) := by decide +kernel
theorem dX8_count_1 : decode cX8_count 1 = .ok (.iconst 0, 1) := by decide +kernel
theorem dX8_count_2 : decode cX8_count 2 = .ok (.putfield 3, 3) := by decide +kernel
theorem dX8_count_5 : decode cX8_count 5 = .ok (.iconst 0, 1) := by decide +kernel
theorem dX8_count_6 : decode cX8_count 6 = .ok (.istore_n 2, 1) := by decide +kernel
theorem dX8_count_7 : decode cX8_count 7 = .ok (.iload_n 1, 1) := by decide +kernel
theorem dX8_count_8 : decode cX8_count 8 = .ok (.tableswitch 149 0 9 #[56, 61, 66, 73, 80, 87, 94, 102, 111, 141], 56) := by decide +kernel
theorem dX8_count_64 : decode cX8_count 64 = .ok (.aload_n 0, 1) := by decide +kernel
theorem dX8_count_65 : decode cX8_count 65 = .ok (.invokevirtual 68, 3) := by decide +kernel
theorem dX8_count_68 : decode cX8_count 68 = .ok (.ireturn, 1) := by decide +kernel
theorem dX8_count_69 : decode cX8_count 69 = .ok (.aload_n 0, 1) := by decide +kernel
theorem dX8_count_70 : decode cX8_count 70 = .ok (.invokevirtual 76, 3) := by decide +kernel
theorem dX8_count_73 : decode cX8_count 73 = .ok (.ireturn, 1) := by decide +kernel
theorem dX8_count_74 : decode cX8_count 74 = .ok (.aload_n 0, 1) := by decide +kernel
theorem dX8_count_75 : decode cX8_count 75 = .ok (.getfield 13, 3) := by decide +kernel
theorem dX8_count_78 : decode cX8_count 78 = .ok (.iconst 2, 1) := by decide +kernel
theorem dX8_count_79 : decode cX8_count 79 = .ok (.iaload, 1) := by decide +kernel
theorem dX8_count_80 : decode cX8_count 80 = .ok (.ireturn, 1) := by decide +kernel
theorem dX8_count_81 : decode cX8_count 81 = .ok (.aload_n 0, 1) := by decide +kernel
theorem dX8_count_82 : decode cX8_count 82 = .ok (.getfield 13, 3) := by decide +kernel
theorem dX8_count_85 : decode cX8_count 85 = .ok (.iconst 3, 1) := by decide +kernel
theorem dX8_count_86 : decode cX8_count 86 = .ok (.iaload, 1) := by decide +kernel
theorem dX8_count_87 : decode cX8_count 87 = .ok (.ireturn, 1) := by decide +kernel
theorem dX8_count_88 : decode cX8_count 88 = .ok (.aload_n 0, 1) := by decide +kernel
theorem dX8_count_89 : decode cX8_count 89 = .ok (.getfield 13, 3) := by decide +kernel
theorem dX8_count_92 : decode cX8_count 92 = .ok (.iconst 4, 1) := by decide +kernel
theorem dX8_count_93 : decode cX8_count 93 = .ok (.iaload, 1) := by decide +kernel
theorem dX8_count_94 : decode cX8_count 94 = .ok (.ireturn, 1) := by decide +kernel
theorem dX8_count_95 : decode cX8_count 95 = .ok (.aload_n 0, 1) := by decide +kernel
theorem dX8_count_96 : decode cX8_count 96 = .ok (.getfield 13, 3) := by decide +kernel
theorem dX8_count_99 : decode cX8_count 99 = .ok (.iconst 5, 1) := by decide +kernel
theorem dX8_count_100 : decode cX8_count 100 = .ok (.iaload, 1) := by decide +kernel
theorem dX8_count_101 : decode cX8_count 101 = .ok (.ireturn, 1) := by decide +kernel
theorem dX8_count_102 : decode cX8_count 102 = .ok (.aload_n 0, 1) := by decide +kernel
theorem dX8_count_103 : decode cX8_count 103 = .ok (.getfield 13, 3) := by decide +kernel
theorem dX8_count_106 : decode cX8_count 106 = .ok (.bipush 6, 2) := by decide +kernel
theorem dX8_count_108 : decode cX8_count 108 = .ok (.iaload, 1) := by decide +kernel
theorem dX8_count_109 : decode cX8_count 109 = .ok (.ireturn, 1) := by decide +kernel
theorem dX8_count_110 : decode cX8_count 110 = .ok (.aload_n 0, 1) := by decide +kernel
theorem dX8_count_111 : decode cX8_count 111 = .ok (.invokevirtual 290, 3) := by decide +kernel
theorem dX8_count_114 : decode cX8_count 114 = .ok (.aload_n 0, 1) := by decide +kernel
theorem dX8_count_115 : decode cX8_count 115 = .ok (.invokevirtual 324, 3) := by decide +kernel
theorem dX8_count_118 : decode cX8_count 118 = .ok (.ireturn, 1) := by decide +kernel
theorem dX8_count_119 : decode cX8_count 119 = .ok (.iconst 0, 1) := by decide +kernel
theorem dX8_count_120 : decode cX8_count 120 = .ok (.istore_n 3, 1) := by decide +kernel
theorem dX8_count_121 : decode cX8_count 121 = .ok (.iload_n 3, 1) := by decide +kernel
theorem dX8_count_122 : decode cX8_count 122 = .ok (.aload_n 0, 1) := by decide +kernel
theorem dX8_count_123 : decode cX8_count 123 = .ok (.invokevirtual 68, 3) := by decide +kernel
theorem dX8_count_126 : decode cX8_count 126 = .ok (.if_icmp .ge 21, 3) := by decide +kernel
theorem dX8_count_129 : decode cX8_count 129 = .ok (.iload_n 2, 1) := by decide +kernel
theorem dX8_count_130 : decode cX8_count 130 = .ok (.aload_n 0, 1) := by decide +kernel
theorem dX8_count_131 : decode cX8_count 131 = .ok (.iload_n 3, 1) := by decide +kernel
theorem dX8_count_132 : decode cX8_count 132 = .ok (.iconst 1, 1) := by decide +kernel
theorem dX8_count_133 : decode cX8_count 133 = .ok (.invokevirtual 205, 3) := by decide +kernel
theorem dX8_count_136 : decode cX8_count 136 = .ok (.invokestatic 211, 3) := by decide +kernel
theorem dX8_count_139 : decode cX8_count 139 = .ok (.iadd, 1) := by decide +kernel
theorem dX8_count_140 : decode cX8_count 140 = .ok (.istore_n 2, 1) := by decide +kernel
theorem dX8_count_141 : decode cX8_count 141 = .ok (.iinc 3 1, 3) := by decide +kernel
theorem dX8_count_144 : decode cX8_count 144 = .ok (.goto (-23), 3) := by decide +kernel
theorem dX8_count_147 : decode cX8_count 147 = .ok (.iload_n 2, 1) := by decide +kernel
theorem dX8_count_148 : decode cX8_count 148 = .ok (.ireturn, 1) := by decide +kernel
theorem dX8_count_149 : decode cX8_count 149 = .ok (.aload_n 0, 1) := by decide +kernel
theorem dX8_count_150 : decode cX8_count 150 = .ok (.getfield 13, 3) := by decide +kernel
theorem dX8_count_153 : decode cX8_count 153 = .ok (.bipush 7, 2) := by decide +kernel
theorem dX8_count_155 : decode cX8_count 155 = .ok (.iaload, 1) := by decide +kernel
theorem dX8_count_156 : decode cX8_count 156 = .ok (.ireturn, 1) := by decide +kernel
theorem dX8_count_157 : decode cX8_count 157 = .ok (.iconst (-1), 1) := by decide +kernel
theorem dX8_count_158 : decode cX8_count 158 = .ok (.ireturn, 1) := by decide +kernel
theorem dJ6_bitCount_0f7a4_0 : decode cJ6_bitCount_0f7a4 0 = .ok (.iload_n 0, 1) := by decide +kernel
theorem dJ6_bitCount_0f7a4_1 : decode cJ6_bitCount_0f7a4 1 = .ok (.iload_n 0, 1) := by decide +kernel
theorem dJ6_bitCount_0f7a4_2 : decode cJ6_bitCount_0f7a4 2 = .ok (.iconst 1, 1) := by decide +kernel
theorem dJ6_bitCount_0f7a4_3 : decode cJ6_bitCount_0f7a4 3 = .ok (.iushr, 1) := by decide +kernel
theorem dJ6_bitCount_0f7a4_4 : decode cJ6_bitCount_0f7a4 4 = .ok (.ldc_w 265, 3) := by decide +kernel
theorem dJ6_bitCount_0f7a4_7 : decode cJ6_bitCount_0f7a4 7 = .ok (.iand, 1) := by decide +kernel
theorem dJ6_bitCount_0f7a4_8 : decode cJ6_bitCount_0f7a4 8 = .ok (.isub, 1) := by decide +kernel
theorem dJ6_bitCount_0f7a4_9 : decode cJ6_bitCount_0f7a4 9 = .ok (.istore_n 0, 1) := by decide +kernel
theorem dJ6_bitCount_0f7a4_10 : decode cJ6_bitCount_0f7a4 10 = .ok (.iload_n 0, 1) := by decide +kernel
theorem dJ6_bitCount_0f7a4_11 : decode cJ6_bitCount_0f7a4 11 = .ok (.ldc_w 266, 3) := by decide +kernel
theorem dJ6_bitCount_0f7a4_14 : decode cJ6_bitCount_0f7a4 14 = .ok (.iand, 1) := by decide +kernel
theorem dJ6_bitCount_0f7a4_15 : decode cJ6_bitCount_0f7a4 15 = .ok (.iload_n 0, 1) := by decide +kernel
theorem dJ6_bitCount_0f7a4_16 : decode cJ6_bitCount_0f7a4 16 = .ok (.iconst 2, 1) := by decide +kernel
theorem dJ6_bitCount_0f7a4_17 : decode cJ6_bitCount_0f7a4 17 = .ok (.iushr, 1) := by decide +kernel
theorem dJ6_bitCount_0f7a4_18 : decode cJ6_bitCount_0f7a4 18 = .ok (.ldc_w 266, 3) := by decide +kernel
theorem dJ6_bitCount_0f7a4_21 : decode cJ6_bitCount_0f7a4 21 = .ok (.iand, 1) := by decide +kernel
theorem dJ6_bitCount_0f7a4_22 : decode cJ6_bitCount_0f7a4 22 = .ok (.iadd, 1) := by decide +kernel
theorem dJ6_bitCount_0f7a4_23 : decode cJ6_bitCount_0f7a4 23 = .ok (.istore_n 0, 1) := by decide +kernel
theorem dJ6_bitCount_0f7a4_24 : decode cJ6_bitCount_0f7a4 24 = .ok (.iload_n 0, 1) := by decide +kernel
theorem dJ6_bitCount_0f7a4_25 : decode cJ6_bitCount_0f7a4 25 = .ok (.iload_n 0, 1) := by decide +kernel
theorem dJ6_bitCount_0f7a4_26 : decode cJ6_bitCount_0f7a4 26 = .ok (.iconst 4, 1) := by decide +kernel
theorem dJ6_bitCount_0f7a4_27 : decode cJ6_bitCount_0f7a4 27 = .ok (.iushr, 1) := by decide +kernel
theorem dJ6_bitCount_0f7a4_28 : decode cJ6_bitCount_0f7a4 28 = .ok (.iadd, 1) := by decide +kernel
theorem dJ6_bitCount_0f7a4_29 : decode cJ6_bitCount_0f7a4 29 = .ok (.ldc_w 267, 3) := by decide +kernel
theorem dJ6_bitCount_0f7a4_32 : decode cJ6_bitCount_0f7a4 32 = .ok (.iand, 1) := by decide +kernel
theorem dJ6_bitCount_0f7a4_33 : decode cJ6_bitCount_0f7a4 33 = .ok (.istore_n 0, 1) := by decide +kernel
theorem dJ6_bitCount_0f7a4_34 : decode cJ6_bitCount_0f7a4 34 = .ok (.iload_n 0, 1) := by decide +kernel
theorem dJ6_bitCount_0f7a4_35 : decode cJ6_bitCount_0f7a4 35 = .ok (.iload_n 0, 1) := by decide +kernel
theorem dJ6_bitCount_0f7a4_36 : decode cJ6_bitCount_0f7a4 36 = .ok (.bipush 8, 2) := by decide +kernel
theorem dJ6_bitCount_0f7a4_38 : decode cJ6_bitCount_0f7a4 38 = .ok (.iushr, 1) := by decide +kernel
theorem dJ6_bitCount_0f7a4_39 : decode cJ6_bitCount_0f7a4 39 = .ok (.iadd, 1) := by decide +kernel
theorem dJ6_bitCount_0f7a4_40 : decode cJ6_bitCount_0f7a4 40 = .ok (.istore_n 0, 1) := by decide +kernel
theorem dJ6_bitCount_0f7a4_41 : decode cJ6_bitCount_0f7a4 41 = .ok (.iload_n 0, 1) := by decide +kernel
theorem dJ6_bitCount_0f7a4_42 : decode cJ6_bitCount_0f7a4 42 = .ok (.iload_n 0, 1) := by decide +kernel
theorem dJ6_bitCount_0f7a4_43 : decode cJ6_bitCount_0f7a4 43 = .ok (.bipush 16, 2) := by decide +kernel
theorem dJ6_bitCount_0f7a4_45 : decode cJ6_bitCount_0f7a4 45 = .ok (.iushr, 1) := by decide +kernel
theorem dJ6_bitCount_0f7a4_46 : decode cJ6_bitCount_0f7a4 46 = .ok (.iadd, 1) := by decide +kernel
theorem dJ6_bitCount_0f7a4_47 : decode cJ6_bitCount_0f7a4 47 = .ok (.istore_n 0, 1) := by decide +kernel
theorem dJ6_bitCount_0f7a4_48 : decode cJ6_bitCount_0f7a4 48 = .ok (.iload_n 0, 1) := by decide +kernel
theorem dJ6_bitCount_0f7a4_49 : decode cJ6_bitCount_0f7a4 49 = .ok (.bipush 63, 2) := by decide +kernel
theorem dJ6_bitCount_0f7a4_51 : decode cJ6_bitCount_0f7a4 51 = .ok (.iand, 1) := by decide +kernel
theorem dJ6_bitCount_0f7a4_52 : decode cJ6_bitCount_0f7a4 52 = .ok (.ireturn, 1) := by decide +kernel
theorem dJ13_bitCount_95d88_0 : decode cJ13_bitCount_95d88 0 = .ok (.lload_n 0, 1) := by decide +kernel
theorem dJ13_bitCount_95d88_1 : decode cJ13_bitCount_95d88 1 = .ok (.lload_n 0, 1) := by decide +kernel
theorem dJ13_bitCount_95d88_2 : decode cJ13_bitCount_95d88 2 = .ok (.iconst 1, 1) := by decide +kernel
theorem dJ13_bitCount_95d88_3 : decode cJ13_bitCount_95d88 3 = .ok (.lushr, 1) := by decide +kernel
theorem dJ13_bitCount_95d88_4 : decode cJ13_bitCount_95d88 4 = .ok (.ldc2_w 314, 3) := by decide +kernel
theorem dJ13_bitCount_95d88_7 : decode cJ13_bitCount_95d88 7 = .ok (.land, 1) := by decide +kernel
theorem dJ13_bitCount_95d88_8 : decode cJ13_bitCount_95d88 8 = .ok (.lsub, 1) := by decide +kernel
theorem dJ13_bitCount_95d88_9 : decode cJ13_bitCount_95d88 9 = .ok (.lstore_n 0, 1) := by decide +kernel
theorem dJ13_bitCount_95d88_10 : decode cJ13_bitCount_95d88 10 = .ok (.lload_n 0, 1) := by decide +kernel
theorem dJ13_bitCount_95d88_11 : decode cJ13_bitCount_95d88 11 = .ok (.ldc2_w 316, 3) := by decide +kernel
theorem dJ13_bitCount_95d88_14 : decode cJ13_bitCount_95d88 14 = .ok (.land, 1) := by decide +kernel
theorem dJ13_bitCount_95d88_15 : decode cJ13_bitCount_95d88 15 = .ok (.lload_n 0, 1) := by decide +kernel
theorem dJ13_bitCount_95d88_16 : decode cJ13_bitCount_95d88 16 = .ok (.iconst 2, 1) := by decide +kernel
theorem dJ13_bitCount_95d88_17 : decode cJ13_bitCount_95d88 17 = .ok (.lushr, 1) := by decide +kernel
theorem dJ13_bitCount_95d88_18 : decode cJ13_bitCount_95d88 18 = .ok (.ldc2_w 316, 3) := by decide +kernel
theorem dJ13_bitCount_95d88_21 : decode cJ13_bitCount_95d88 21 = .ok (.land, 1) := by decide +kernel
theorem dJ13_bitCount_95d88_22 : decode cJ13_bitCount_95d88 22 = .ok (.ladd, 1) := by decide +kernel
theorem dJ13_bitCount_95d88_23 : decode cJ13_bitCount_95d88 23 = .ok (.lstore_n 0, 1) := by decide +kernel
theorem dJ13_bitCount_95d88_24 : decode cJ13_bitCount_95d88 24 = .ok (.lload_n 0, 1) := by decide +kernel
theorem dJ13_bitCount_95d88_25 : decode cJ13_bitCount_95d88 25 = .ok (.lload_n 0, 1) := by decide +kernel
theorem dJ13_bitCount_95d88_26 : decode cJ13_bitCount_95d88 26 = .ok (.iconst 4, 1) := by decide +kernel
theorem dJ13_bitCount_95d88_27 : decode cJ13_bitCount_95d88 27 = .ok (.lushr, 1) := by decide +kernel
theorem dJ13_bitCount_95d88_28 : decode cJ13_bitCount_95d88 28 = .ok (.ladd, 1) := by decide +kernel
theorem dJ13_bitCount_95d88_29 : decode cJ13_bitCount_95d88 29 = .ok (.ldc2_w 318, 3) := by decide +kernel
theorem dJ13_bitCount_95d88_32 : decode cJ13_bitCount_95d88 32 = .ok (.land, 1) := by decide +kernel
theorem dJ13_bitCount_95d88_33 : decode cJ13_bitCount_95d88 33 = .ok (.lstore_n 0, 1) := by decide +kernel
theorem dJ13_bitCount_95d88_34 : decode cJ13_bitCount_95d88 34 = .ok (.lload_n 0, 1) := by decide +kernel
theorem dJ13_bitCount_95d88_35 : decode cJ13_bitCount_95d88 35 = .ok (.lload_n 0, 1) := by decide +kernel
theorem dJ13_bitCount_95d88_36 : decode cJ13_bitCount_95d88 36 = .ok (.bipush 8, 2) := by decide +kernel
theorem dJ13_bitCount_95d88_38 : decode cJ13_bitCount_95d88 38 = .ok (.lushr, 1) := by decide +kernel
theorem dJ13_bitCount_95d88_39 : decode cJ13_bitCount_95d88 39 = .ok (.ladd, 1) := by decide +kernel
theorem dJ13_bitCount_95d88_40 : decode cJ13_bitCount_95d88 40 = .ok (.lstore_n 0, 1) := by decide +kernel
theorem dJ13_bitCount_95d88_41 : decode cJ13_bitCount_95d88 41 = .ok (.lload_n 0, 1) := by decide +kernel
theorem dJ13_bitCount_95d88_42 : decode cJ13_bitCount_95d88 42 = .ok (.lload_n 0, 1) := by decide +kernel
theorem dJ13_bitCount_95d88_43 : decode cJ13_bitCount_95d88 43 = .ok (.bipush 16, 2) := by decide +kernel
theorem dJ13_bitCount_95d88_45 : decode cJ13_bitCount_95d88 45 = .ok (.lushr, 1) := by decide +kernel
theorem dJ13_bitCount_95d88_46 : decode cJ13_bitCount_95d88 46 = .ok (.ladd, 1) := by decide +kernel
theorem dJ13_bitCount_95d88_47 : decode cJ13_bitCount_95d88 47 = .ok (.lstore_n 0, 1) := by decide +kernel
theorem dJ13_bitCount_95d88_48 : decode cJ13_bitCount_95d88 48 = .ok (.lload_n 0, 1) := by decide +kernel
theorem dJ13_bitCount_95d88_49 : decode cJ13_bitCount_95d88 49 = .ok (.lload_n 0, 1) := by decide +kernel
theorem dJ13_bitCount_95d88_50 : decode cJ13_bitCount_95d88 50 = .ok (.bipush 32, 2) := by decide +kernel
theorem dJ13_bitCount_95d88_52 : decode cJ13_bitCount_95d88 52 = .ok (.lushr, 1) := by decide +kernel
theorem dJ13_bitCount_95d88_53 : decode cJ13_bitCount_95d88 53 = .ok (.ladd, 1) := by decide +kernel
theorem dJ13_bitCount_95d88_54 : decode cJ13_bitCount_95d88 54 = .ok (.lstore_n 0, 1) := by decide +kernel
theorem dJ13_bitCount_95d88_55 : decode cJ13_bitCount_95d88 55 = .ok (.lload_n 0, 1) := by decide +kernel
theorem dJ13_bitCount_95d88_56 : decode cJ13_bitCount_95d88 56 = .ok (.l2i, 1) := by decide +kernel
theorem dJ13_bitCount_95d88_57 : decode cJ13_bitCount_95d88 57 = .ok (.bipush 127, 2) := by decide +kernel
theorem dJ13_bitCount_95d88_59 : decode cJ13_bitCount_95d88 59 = .ok (.iand, 1) := by decide +kernel
theorem dJ13_bitCount_95d88_60 : decode cJ13_bitCount_95d88 60 = .ok (.ireturn, 1) := by decide +kernel
theorem dJ9_floorDiv_7cf53_0 : decode cJ9_floorDiv_7cf53 0 = .ok (.iload_n 0, 1) := by decide +kernel
theorem dJ9_floorDiv_7cf53_1 : decode cJ9_floorDiv_7cf53 1 = .ok (.iload_n 1, 1) := by decide +kernel
theorem dJ9_floorDiv_7cf53_2 : decode cJ9_floorDiv_7cf53 2 = .ok (.idiv, 1) := by decide +kernel
theorem dJ9_floorDiv_7cf53_3 : decode cJ9_floorDiv_7cf53 3 = .ok (.istore_n 2, 1) := by decide +kernel
theorem dJ9_floorDiv_7cf53_4 : decode cJ9_floorDiv_7cf53 4 = .ok (.iload_n 0, 1) := by decide +kernel
theorem dJ9_floorDiv_7cf53_5 : decode cJ9_floorDiv_7cf53 5 = .ok (.iload_n 1, 1) := by decide +kernel
theorem dJ9_floorDiv_7cf53_6 : decode cJ9_floorDiv_7cf53 6 = .ok (.ixor, 1) := by decide +kernel
theorem dJ9_floorDiv_7cf53_7 : decode cJ9_floorDiv_7cf53 7 = .ok (.ifCond .ge 14, 3) := by decide +kernel
theorem dJ9_floorDiv_7cf53_10 : decode cJ9_floorDiv_7cf53 10 = .ok (.iload_n 2, 1) := by decide +kernel
theorem dJ9_floorDiv_7cf53_11 : decode cJ9_floorDiv_7cf53 11 = .ok (.iload_n 1, 1) := by decide +kernel
theorem dJ9_floorDiv_7cf53_12 : decode cJ9_floorDiv_7cf53 12 = .ok (.imul, 1) := by decide +kernel
theorem dJ9_floorDiv_7cf53_13 : decode cJ9_floorDiv_7cf53 13 = .ok (.iload_n 0, 1) := by decide +kernel
theorem dJ9_floorDiv_7cf53_14 : decode cJ9_floorDiv_7cf53 14 = .ok (.if_icmp .eq 7, 3) := by decide +kernel
theorem dJ9_floorDiv_7cf53_17 : decode cJ9_floorDiv_7cf53 17 = .ok (.iload_n 2, 1) := by decide +kernel
theorem dJ9_floorDiv_7cf53_18 : decode cJ9_floorDiv_7cf53 18 = .ok (.iconst 1, 1) := by decide +kernel
theorem dJ9_floorDiv_7cf53_19 : decode cJ9_floorDiv_7cf53 19 = .ok (.isub, 1) := by decide +kernel
theorem dJ9_floorDiv_7cf53_20 : decode cJ9_floorDiv_7cf53 20 = .ok (.ireturn, 1) := by decide +kernel
theorem dJ9_floorDiv_7cf53_21 : decode cJ9_floorDiv_7cf53 21 = .ok (.iload_n 2, 1) := by decide +kernel
theorem dJ9_floorDiv_7cf53_22 : decode cJ9_floorDiv_7cf53 22 = .ok (.ireturn, 1) := by decide +kernel
theorem dJ9_abs_0f7a4_0 : decode cJ9_abs_0f7a4 0 = .ok (.iload_n 0, 1) := by decide +kernel
theorem dJ9_abs_0f7a4_1 : decode cJ9_abs_0f7a4 1 = .ok (.ifCond .ge 8, 3) := by decide +kernel
theorem dJ9_abs_0f7a4_4 : decode cJ9_abs_0f7a4 4 = .ok (.iload_n 0, 1) := by decide +kernel
theorem dJ9_abs_0f7a4_5 : decode cJ9_abs_0f7a4 5 = .ok (.ineg, 1) := by decide +kernel
theorem dJ9_abs_0f7a4_6 : decode cJ9_abs_0f7a4 6 = .ok (.goto 4, 3) := by decide +kernel
theorem dJ9_abs_0f7a4_9 : decode cJ9_abs_0f7a4 9 = .ok (.iload_n 0, 1) := by decide +kernel
theorem dJ9_abs_0f7a4_10 : decode cJ9_abs_0f7a4 10 = .ok (.ireturn, 1) := by decide +kernel
theorem dJ9_min_7cf53_0 : decode cJ9_min_7cf53 0 = .ok (.iload_n 0, 1) := by decide +kernel
theorem dJ9_min_7cf53_1 : decode cJ9_min_7cf53 1 = .ok (.iload_n 1, 1) := by decide +kernel
theorem dJ9_min_7cf53_2 : decode cJ9_min_7cf53 2 = .ok (.if_icmp .gt 7, 3) := by decide +kernel
theorem dJ9_min_7cf53_5 : decode cJ9_min_7cf53 5 = .ok (.iload_n 0, 1) := by decide +kernel
theorem dJ9_min_7cf53_6 : decode cJ9_min_7cf53 6 = .ok (.goto 4, 3) := by decide +kernel
theorem dJ9_min_7cf53_9 : decode cJ9_min_7cf53 9 = .ok (.iload_n 1, 1) := by decide +kernel
theorem dJ9_min_7cf53_10 : decode cJ9_min_7cf53 10 = .ok (.ireturn, 1) := by decide +kernel
theorem dJ0_length_8abf5_0 : decode cJ0_length_8abf5 0 = .ok (.aload_n 0, 1) := by decide +kernel
theorem dJ0_length_8abf5_1 : decode cJ0_length_8abf5 1 = .ok (.getfield 9, 3) := by decide +kernel
theorem dJ0_length_8abf5_4 : decode cJ0_length_8abf5 4 = .ok (.arraylength, 1) := by decide +kernel
theorem dJ0_length_8abf5_5 : decode cJ0_length_8abf5 5 = .ok (.aload_n 0, 1) := by decide +kernel
theorem dJ0_length_8abf5_6 : decode cJ0_length_8abf5 6 = .ok (.invokevirtual 335, 3) := by decide +kernel
theorem dJ0_length_8abf5_9 : decode cJ0_length_8abf5 9 = .ok (.ishr, 1) := by decide +kernel
theorem dJ0_length_8abf5_10 : decode cJ0_length_8abf5 10 = .ok (.ireturn, 1) := by decide +kernel
theorem dJ0_charAt_5068e_0 : decode cJ0_charAt_5068e 0 = .ok (.aload_n 0, 1) := by decide +kernel
theorem dJ0_charAt_5068e_1 : decode cJ0_charAt_5068e 1 = .ok (.invokevirtual 492, 3) := by decide +kernel
theorem dJ0_charAt_5068e_4 : decode cJ0_charAt_5068e 4 = .ok (.ifCond .eq 12, 3) := by decide +kernel
theorem dJ0_charAt_5068e_7 : decode cJ0_charAt_5068e 7 = .ok (.aload_n 0, 1) := by decide +kernel
theorem dJ0_charAt_5068e_8 : decode cJ0_charAt_5068e 8 = .ok (.getfield 9, 3) := by decide +kernel
theorem dJ0_charAt_5068e_11 : decode cJ0_charAt_5068e 11 = .ok (.iload_n 1, 1) := by decide +kernel
theorem dJ0_charAt_5068e_12 : decode cJ0_charAt_5068e 12 = .ok (.invokestatic 495, 3) := by decide +kernel
theorem dJ0_charAt_5068e_15 : decode cJ0_charAt_5068e 15 = .ok (.ireturn, 1) := by decide +kernel
theorem dJ0_charAt_5068e_16 : decode cJ0_charAt_5068e 16 = .ok (.aload_n 0, 1) := by decide +kernel
theorem dJ0_charAt_5068e_17 : decode cJ0_charAt_5068e 17 = .ok (.getfield 9, 3) := by decide +kernel
theorem dJ0_charAt_5068e_20 : decode cJ0_charAt_5068e 20 = .ok (.iload_n 1, 1) := by decide +kernel
theorem dJ0_charAt_5068e_21 : decode cJ0_charAt_5068e 21 = .ok (.invokestatic 498, 3) := by decide +kernel
theorem dJ0_charAt_5068e_24 : decode cJ0_charAt_5068e 24 = .ok (.ireturn, 1) := by decide +kernel
theorem dJ0_coder_7d493_0 : decode cJ0_coder_7d493 0 = .ok (.getstatic 38, 3) := by decide +kernel
theorem dJ0_coder_7d493_3 : decode cJ0_coder_7d493 3 = .ok (.ifCond .eq 10, 3) := by decide +kernel
theorem dJ0_coder_7d493_6 : decode cJ0_coder_7d493 6 = .ok (.aload_n 0, 1) := by decide +kernel
theorem dJ0_coder_7d493_7 : decode cJ0_coder_7d493 7 = .ok (.getfield 15, 3) := by decide +kernel
theorem dJ0_coder_7d493_10 : decode cJ0_coder_7d493 10 = .ok (.goto 4, 3) := by decide +kernel
theorem dJ0_coder_7d493_13 : decode cJ0_coder_7d493 13 = .ok (.iconst 1, 1) := by decide +kernel
theorem dJ0_coder_7d493_14 : decode cJ0_coder_7d493 14 = .ok (.ireturn, 1) := by decide +kernel
theorem dJ0_isLatin1_aae02_0 : decode cJ0_isLatin1_aae02 0 = .ok (.getstatic 38, 3) := by decide +kernel
theorem dJ0_isLatin1_aae02_3 : decode cJ0_isLatin1_aae02 3 = .ok (.ifCond .eq 14, 3) := by decide +kernel
theorem dJ0_isLatin1_aae02_6 : decode cJ0_isLatin1_aae02 6 = .ok (.aload_n 0, 1) := by decide +kernel
theorem dJ0_isLatin1_aae02_7 : decode cJ0_isLatin1_aae02 7 = .ok (.getfield 15, 3) := by decide +kernel
theorem dJ0_isLatin1_aae02_10 : decode cJ0_isLatin1_aae02 10 = .ok (.ifCond .ne 7, 3) := by decide +kernel
theorem dJ0_isLatin1_aae02_13 : decode cJ0_isLatin1_aae02 13 = .ok (.iconst 1, 1) := by decide +kernel
theorem dJ0_isLatin1_aae02_14 : decode cJ0_isLatin1_aae02 14 = .ok (.goto 4, 3) := by decide +kernel
theorem dJ0_isLatin1_aae02_17 : decode cJ0_isLatin1_aae02 17 = .ok (.iconst 0, 1) := by decide +kernel
theorem dJ0_isLatin1_aae02_18 : decode cJ0_isLatin1_aae02 18 = .ok (.ireturn, 1) := by decide +kernel
theorem dJ0_checkIndex_df160_0 : decode cJ0_checkIndex_df160 0 = .ok (.iload_n 0, 1) := by decide +kernel
theorem dJ0_checkIndex_df160_1 : decode cJ0_checkIndex_df160 1 = .ok (.iload_n 1, 1) := by decide +kernel
theorem dJ0_checkIndex_df160_2 : decode cJ0_checkIndex_df160 2 = .ok (.getstatic 1053, 3) := by decide +kernel
theorem dJ0_checkIndex_df160_5 : decode cJ0_checkIndex_df160 5 = .ok (.invokestatic 1059, 3) := by decide +kernel
theorem dJ0_checkIndex_df160_8 : decode cJ0_checkIndex_df160 8 = .ok (.pop, 1) := by decide +kernel
theorem dJ0_checkIndex_df160_9 : decode cJ0_checkIndex_df160 9 = .ok (.return_, 1) := by decide +kernel
theorem dJ1_charAt_3b067_0 : decode cJ1_charAt_3b067 0 = .ok (.iload_n 1, 1) := by decide +kernel
theorem dJ1_charAt_3b067_1 : decode cJ1_charAt_3b067 1 = .ok (.aload_n 0, 1) := by decide +kernel
theorem dJ1_charAt_3b067_2 : decode cJ1_charAt_3b067 2 = .ok (.arraylength, 1) := by decide +kernel
theorem dJ1_charAt_3b067_3 : decode cJ1_charAt_3b067 3 = .ok (.invokestatic 9, 3) := by decide +kernel
theorem dJ1_charAt_3b067_6 : decode cJ1_charAt_3b067 6 = .ok (.aload_n 0, 1) := by decide +kernel
theorem dJ1_charAt_3b067_7 : decode cJ1_charAt_3b067 7 = .ok (.iload_n 1, 1) := by decide +kernel
theorem dJ1_charAt_3b067_8 : decode cJ1_charAt_3b067 8 = .ok (.baload, 1) := by decide +kernel
theorem dJ1_charAt_3b067_9 : decode cJ1_charAt_3b067 9 = .ok (.sipush 255, 3) := by decide +kernel
theorem dJ1_charAt_3b067_12 : decode cJ1_charAt_3b067 12 = .ok (.iand, 1) := by decide +kernel
theorem dJ1_charAt_3b067_13 : decode cJ1_charAt_3b067 13 = .ok (.i2c, 1) := by decide +kernel
theorem dJ1_charAt_3b067_14 : decode cJ1_charAt_3b067 14 = .ok (.ireturn, 1) := by decide +kernel
theorem dJ2_getChar_3b067_0 : decode cJ2_getChar_3b067 0 = .ok (.getstatic 44, 3) := by decide +kernel
theorem dJ2_getChar_3b067_3 : decode cJ2_getChar_3b067 3 = .ok (.ifCond .ne 25, 3) := by decide +kernel
theorem dJ2_getChar_3b067_6 : decode cJ2_getChar_3b067 6 = .ok (.iload_n 1, 1) := by decide +kernel
theorem dJ2_getChar_3b067_7 : decode cJ2_getChar_3b067 7 = .ok (.ifCond .lt 11, 3) := by decide +kernel
theorem dJ2_getChar_3b067_10 : decode cJ2_getChar_3b067 10 = .ok (.iload_n 1, 1) := by decide +kernel
theorem dJ2_getChar_3b067_11 : decode cJ2_getChar_3b067 11 = .ok (.aload_n 0, 1) := by decide +kernel
theorem dJ2_getChar_3b067_12 : decode cJ2_getChar_3b067 12 = .ok (.invokestatic 48, 3) := by decide +kernel
theorem dJ2_getChar_3b067_15 : decode cJ2_getChar_3b067 15 = .ok (.if_icmp .lt 13, 3) := by decide +kernel
theorem dJ2_getChar_3b067_18 : decode cJ2_getChar_3b067 18 = .ok (.new 52, 3) := by decide +kernel
theorem dJ2_getChar_3b067_21 : decode cJ2_getChar_3b067 21 = .ok (.dup, 1) := by decide +kernel
theorem dJ2_getChar_3b067_22 : decode cJ2_getChar_3b067 22 = .ok (.ldc 54, 2) := by decide +kernel
theorem dJ2_getChar_3b067_24 : decode cJ2_getChar_3b067 24 = .ok (.invokespecial 56, 3) := by decide +kernel
theorem dJ2_getChar_3b067_27 : decode cJ2_getChar_3b067 27 = .ok (.athrow, 1) := by decide +kernel
theorem dJ2_getChar_3b067_28 : decode cJ2_getChar_3b067 28 = .ok (.iload_n 1, 1) := by decide +kernel
theorem dJ2_getChar_3b067_29 : decode cJ2_getChar_3b067 29 = .ok (.iconst 1, 1) := by decide +kernel
theorem dJ2_getChar_3b067_30 : decode cJ2_getChar_3b067 30 = .ok (.ishl, 1) := by decide +kernel
theorem dJ2_getChar_3b067_31 : decode cJ2_getChar_3b067 31 = .ok (.istore_n 1, 1) := by decide +kernel
theorem dJ2_getChar_3b067_32 : decode cJ2_getChar_3b067 32 = .ok (.aload_n 0, 1) := by decide +kernel
theorem dJ2_getChar_3b067_33 : decode cJ2_getChar_3b067 33 = .ok (.iload_n 1, 1) := by decide +kernel
theorem dJ2_getChar_3b067_34 : decode cJ2_getChar_3b067 34 = .ok (.iinc 1 1, 3) := by decide +kernel
theorem dJ2_getChar_3b067_37 : decode cJ2_getChar_3b067 37 = .ok (.baload, 1) := by decide +kernel
theorem dJ2_getChar_3b067_38 : decode cJ2_getChar_3b067 38 = .ok (.sipush 255, 3) := by decide +kernel
theorem dJ2_getChar_3b067_41 : decode cJ2_getChar_3b067 41 = .ok (.iand, 1) := by decide +kernel
theorem dJ2_getChar_3b067_42 : decode cJ2_getChar_3b067 42 = .ok (.getstatic 59, 3) := by decide +kernel
theorem dJ2_getChar_3b067_45 : decode cJ2_getChar_3b067 45 = .ok (.ishl, 1) := by decide +kernel
theorem dJ2_getChar_3b067_46 : decode cJ2_getChar_3b067 46 = .ok (.aload_n 0, 1) := by decide +kernel
theorem dJ2_getChar_3b067_47 : decode cJ2_getChar_3b067 47 = .ok (.iload_n 1, 1) := by decide +kernel
theorem dJ2_getChar_3b067_48 : decode cJ2_getChar_3b067 48 = .ok (.baload, 1) := by decide +kernel
theorem dJ2_getChar_3b067_49 : decode cJ2_getChar_3b067 49 = .ok (.sipush 255, 3) := by decide +kernel
theorem dJ2_getChar_3b067_52 : decode cJ2_getChar_3b067 52 = .ok (.iand, 1) := by decide +kernel
theorem dJ2_getChar_3b067_53 : decode cJ2_getChar_3b067 53 = .ok (.getstatic 63, 3) := by decide +kernel
theorem dJ2_getChar_3b067_56 : decode cJ2_getChar_3b067 56 = .ok (.ishl, 1) := by decide +kernel
theorem dJ2_getChar_3b067_57 : decode cJ2_getChar_3b067 57 = .ok (.ior, 1) := by decide +kernel
theorem dJ2_getChar_3b067_58 : decode cJ2_getChar_3b067 58 = .ok (.i2c, 1) := by decide +kernel
theorem dJ2_getChar_3b067_59 : decode cJ2_getChar_3b067 59 = .ok (.ireturn, 1) := by decide +kernel
theorem dJ2_length_9d52b_0 : decode cJ2_length_9d52b 0 = .ok (.aload_n 0, 1) := by decide +kernel
theorem dJ2_length_9d52b_1 : decode cJ2_length_9d52b 1 = .ok (.arraylength, 1) := by decide +kernel
theorem dJ2_length_9d52b_2 : decode cJ2_length_9d52b 2 = .ok (.iconst 1, 1) := by decide +kernel
theorem dJ2_length_9d52b_3 : decode cJ2_length_9d52b 3 = .ok (.ishr, 1) := by decide +kernel
theorem dJ2_length_9d52b_4 : decode cJ2_length_9d52b 4 = .ok (.ireturn, 1) := by decide +kernel
theorem dJ2_charAt_3b067_0 : decode cJ2_charAt_3b067 0 = .ok (.iload_n 1, 1) := by decide +kernel
theorem dJ2_charAt_3b067_1 : decode cJ2_charAt_3b067 1 = .ok (.aload_n 0, 1) := by decide +kernel
theorem dJ2_charAt_3b067_2 : decode cJ2_charAt_3b067 2 = .ok (.invokestatic 67, 3) := by decide +kernel
theorem dJ2_charAt_3b067_5 : decode cJ2_charAt_3b067 5 = .ok (.aload_n 0, 1) := by decide +kernel
theorem dJ2_charAt_3b067_6 : decode cJ2_charAt_3b067 6 = .ok (.iload_n 1, 1) := by decide +kernel
theorem dJ2_charAt_3b067_7 : decode cJ2_charAt_3b067 7 = .ok (.invokestatic 71, 3) := by decide +kernel
theorem dJ2_charAt_3b067_10 : decode cJ2_charAt_3b067 10 = .ok (.ireturn, 1) := by decide +kernel
theorem dJ2_checkIndex_2214a_0 : decode cJ2_checkIndex_2214a 0 = .ok (.iload_n 0, 1) := by decide +kernel
theorem dJ2_checkIndex_2214a_1 : decode cJ2_checkIndex_2214a 1 = .ok (.aload_n 1, 1) := by decide +kernel
theorem dJ2_checkIndex_2214a_2 : decode cJ2_checkIndex_2214a 2 = .ok (.invokestatic 48, 3) := by decide +kernel
theorem dJ2_checkIndex_2214a_5 : decode cJ2_checkIndex_2214a 5 = .ok (.invokestatic 414, 3) := by decide +kernel
theorem dJ2_checkIndex_2214a_8 : decode cJ2_checkIndex_2214a 8 = .ok (.return_, 1) := by decide +kernel
theorem dJ3_checkIndex_8e157_0 : decode cJ3_checkIndex_8e157 0 = .ok (.iload_n 0, 1) := by decide +kernel
theorem dJ3_checkIndex_8e157_1 : decode cJ3_checkIndex_8e157 1 = .ok (.ifCond .lt 8, 3) := by decide +kernel
theorem dJ3_checkIndex_8e157_4 : decode cJ3_checkIndex_8e157 4 = .ok (.iload_n 0, 1) := by decide +kernel
theorem dJ3_checkIndex_8e157_5 : decode cJ3_checkIndex_8e157 5 = .ok (.iload_n 1, 1) := by decide +kernel
theorem dJ3_checkIndex_8e157_6 : decode cJ3_checkIndex_8e157 6 = .ok (.if_icmp .lt 10, 3) := by decide +kernel
theorem dJ3_checkIndex_8e157_9 : decode cJ3_checkIndex_8e157 9 = .ok (.aload_n 2, 1) := by decide +kernel
theorem dJ3_checkIndex_8e157_10 : decode cJ3_checkIndex_8e157 10 = .ok (.iload_n 0, 1) := by decide +kernel
theorem dJ3_checkIndex_8e157_11 : decode cJ3_checkIndex_8e157 11 = .ok (.iload_n 1, 1) := by decide +kernel
theorem dJ3_checkIndex_8e157_12 : decode cJ3_checkIndex_8e157 12 = .ok (.invokestatic 95, 3) := by decide +kernel
theorem dJ3_checkIndex_8e157_15 : decode cJ3_checkIndex_8e157 15 = .ok (.athrow, 1) := by decide +kernel
theorem dJ3_checkIndex_8e157_16 : decode cJ3_checkIndex_8e157 16 = .ok (.iload_n 0, 1) := by decide +kernel
theorem dJ3_checkIndex_8e157_17 : decode cJ3_checkIndex_8e157 17 = .ok (.ireturn, 1) := by decide +kernel
theorem dL_sheet_0 : decode cL_sheet 0 = .ok (.aload_n 2, 1) := by decide +kernel
theorem dL_sheet_1 : decode cL_sheet 1 = .ok (.iconst 0, 1) := by decide +kernel
theorem dL_sheet_2 : decode cL_sheet 2 = .ok (.aload_n 0, 1) := by decide +kernel
theorem dL_sheet_3 : decode cL_sheet 3 = .ok (.iload_n 1, 1) := by decide +kernel
theorem dL_sheet_4 : decode cL_sheet 4 = .ok (.invokevirtual 7, 3) := by decide +kernel
theorem dL_sheet_7 : decode cL_sheet 7 = .ok (.i2l, 1) := by decide +kernel
theorem dL_sheet_8 : decode cL_sheet 8 = .ok (.lastore, 1) := by decide +kernel
theorem dL_sheet_9 : decode cL_sheet 9 = .ok (.goto 9, 3) := by decide +kernel
theorem dL_sheet_12 : decode cL_sheet 12 = .ok (.astore_n 3, 1) := by decide +kernel
theorem dL_sheet_13 : decode cL_sheet 13 = .ok (.iconst 1, 1) := by decide +kernel
theorem dL_sheet_14 : decode cL_sheet 14 = .ok (.ireturn, 1) := by decide +kernel
theorem dL_sheet_15 : decode cL_sheet 15 = .ok (.astore_n 3, 1) := by decide +kernel
theorem dL_sheet_16 : decode cL_sheet 16 = .ok (.iconst 2, 1) := by decide +kernel
theorem dL_sheet_17 : decode cL_sheet 17 = .ok (.ireturn, 1) := by decide +kernel
theorem dL_sheet_18 : decode cL_sheet 18 = .ok (.iconst 0, 1) := by decide +kernel
theorem dL_sheet_19 : decode cL_sheet 19 = .ok (.ireturn, 1) := by decide +kernel
theorem dL_strokes_0 : decode cL_strokes 0 = .ok (.aload_n 2, 1) := by decide +kernel
theorem dL_strokes_1 : decode cL_strokes 1 = .ok (.iconst 0, 1) := by decide +kernel
theorem dL_strokes_2 : decode cL_strokes 2 = .ok (.aload_n 0, 1) := by decide +kernel
theorem dL_strokes_3 : decode cL_strokes 3 = .ok (.iload_n 1, 1) := by decide +kernel
theorem dL_strokes_4 : decode cL_strokes 4 = .ok (.invokevirtual 17, 3) := by decide +kernel
theorem dL_strokes_7 : decode cL_strokes 7 = .ok (.i2l, 1) := by decide +kernel
theorem dL_strokes_8 : decode cL_strokes 8 = .ok (.lastore, 1) := by decide +kernel
theorem dL_strokes_9 : decode cL_strokes 9 = .ok (.goto 12, 3) := by decide +kernel
theorem dL_strokes_12 : decode cL_strokes 12 = .ok (.astore_n 3, 1) := by decide +kernel
theorem dL_strokes_13 : decode cL_strokes 13 = .ok (.iconst 1, 1) := by decide +kernel
theorem dL_strokes_14 : decode cL_strokes 14 = .ok (.ireturn, 1) := by decide +kernel
theorem dL_strokes_15 : decode cL_strokes 15 = .ok (.astore_n 3, 1) := by decide +kernel
theorem dL_strokes_16 : decode cL_strokes 16 = .ok (.iconst 2, 1) := by decide +kernel
theorem dL_strokes_17 : decode cL_strokes 17 = .ok (.ireturn, 1) := by decide +kernel
theorem dL_strokes_18 : decode cL_strokes 18 = .ok (.astore_n 3, 1) := by decide +kernel
theorem dL_strokes_19 : decode cL_strokes 19 = .ok (.iconst 3, 1) := by decide +kernel
theorem dL_strokes_20 : decode cL_strokes 20 = .ok (.ireturn, 1) := by decide +kernel
theorem dL_strokes_21 : decode cL_strokes 21 = .ok (.iconst 0, 1) := by decide +kernel
theorem dL_strokes_22 : decode cL_strokes 22 = .ok (.ireturn, 1) := by decide +kernel
theorem dL_scene_0 : decode cL_scene 0 = .ok (.aload_n 1, 1) := by decide +kernel
theorem dL_scene_1 : decode cL_scene 1 = .ok (.iconst 0, 1) := by decide +kernel
theorem dL_scene_2 : decode cL_scene 2 = .ok (.aload_n 0, 1) := by decide +kernel
theorem dL_scene_3 : decode cL_scene 3 = .ok (.invokevirtual 24, 3) := by decide +kernel
theorem dL_scene_6 : decode cL_scene 6 = .ok (.i2l, 1) := by decide +kernel
theorem dL_scene_7 : decode cL_scene 7 = .ok (.lastore, 1) := by decide +kernel
theorem dL_scene_8 : decode cL_scene 8 = .ok (.goto 9, 3) := by decide +kernel
theorem dL_scene_11 : decode cL_scene 11 = .ok (.astore_n 2, 1) := by decide +kernel
theorem dL_scene_12 : decode cL_scene 12 = .ok (.iconst 1, 1) := by decide +kernel
theorem dL_scene_13 : decode cL_scene 13 = .ok (.ireturn, 1) := by decide +kernel
theorem dL_scene_14 : decode cL_scene 14 = .ok (.astore_n 2, 1) := by decide +kernel
theorem dL_scene_15 : decode cL_scene 15 = .ok (.iconst 2, 1) := by decide +kernel
theorem dL_scene_16 : decode cL_scene 16 = .ok (.ireturn, 1) := by decide +kernel
theorem dL_scene_17 : decode cL_scene 17 = .ok (.iconst 0, 1) := by decide +kernel
theorem dL_scene_18 : decode cL_scene 18 = .ok (.ireturn, 1) := by decide +kernel
theorem dL_dark_0 : decode cL_dark 0 = .ok (.aload_n 2, 1) := by decide +kernel
theorem dL_dark_1 : decode cL_dark 1 = .ok (.iconst 0, 1) := by decide +kernel
theorem dL_dark_2 : decode cL_dark 2 = .ok (.aload_n 0, 1) := by decide +kernel
theorem dL_dark_3 : decode cL_dark 3 = .ok (.iload_n 1, 1) := by decide +kernel
theorem dL_dark_4 : decode cL_dark 4 = .ok (.invokevirtual 28, 3) := by decide +kernel
theorem dL_dark_7 : decode cL_dark 7 = .ok (.i2l, 1) := by decide +kernel
theorem dL_dark_8 : decode cL_dark 8 = .ok (.lastore, 1) := by decide +kernel
theorem dL_dark_9 : decode cL_dark 9 = .ok (.goto 6, 3) := by decide +kernel
theorem dL_dark_12 : decode cL_dark 12 = .ok (.astore_n 3, 1) := by decide +kernel
theorem dL_dark_13 : decode cL_dark 13 = .ok (.iconst 1, 1) := by decide +kernel
theorem dL_dark_14 : decode cL_dark 14 = .ok (.ireturn, 1) := by decide +kernel
theorem dL_dark_15 : decode cL_dark 15 = .ok (.iconst 0, 1) := by decide +kernel
theorem dL_dark_16 : decode cL_dark 16 = .ok (.ireturn, 1) := by decide +kernel
theorem dL_loose_0 : decode cL_loose 0 = .ok (.aload_n 2, 1) := by decide +kernel
theorem dL_loose_1 : decode cL_loose 1 = .ok (.iconst 0, 1) := by decide +kernel
theorem dL_loose_2 : decode cL_loose 2 = .ok (.aload_n 0, 1) := by decide +kernel
theorem dL_loose_3 : decode cL_loose 3 = .ok (.iload_n 1, 1) := by decide +kernel
theorem dL_loose_4 : decode cL_loose 4 = .ok (.invokevirtual 31, 3) := by decide +kernel
theorem dL_loose_7 : decode cL_loose 7 = .ok (.i2l, 1) := by decide +kernel
theorem dL_loose_8 : decode cL_loose 8 = .ok (.lastore, 1) := by decide +kernel
theorem dL_loose_9 : decode cL_loose 9 = .ok (.goto 6, 3) := by decide +kernel
theorem dL_loose_12 : decode cL_loose 12 = .ok (.astore_n 3, 1) := by decide +kernel
theorem dL_loose_13 : decode cL_loose 13 = .ok (.iconst 1, 1) := by decide +kernel
theorem dL_loose_14 : decode cL_loose 14 = .ok (.ireturn, 1) := by decide +kernel
theorem dL_loose_15 : decode cL_loose 15 = .ok (.iconst 0, 1) := by decide +kernel
theorem dL_loose_16 : decode cL_loose 16 = .ok (.ireturn, 1) := by decide +kernel
theorem dL_bridges_0 : decode cL_bridges 0 = .ok (.aload_n 2, 1) := by decide +kernel
theorem dL_bridges_1 : decode cL_bridges 1 = .ok (.iconst 0, 1) := by decide +kernel
theorem dL_bridges_2 : decode cL_bridges 2 = .ok (.aload_n 0, 1) := by decide +kernel
theorem dL_bridges_3 : decode cL_bridges 3 = .ok (.iload_n 1, 1) := by decide +kernel
theorem dL_bridges_4 : decode cL_bridges 4 = .ok (.invokevirtual 34, 3) := by decide +kernel
theorem dL_bridges_7 : decode cL_bridges 7 = .ok (.i2l, 1) := by decide +kernel
theorem dL_bridges_8 : decode cL_bridges 8 = .ok (.lastore, 1) := by decide +kernel
theorem dL_bridges_9 : decode cL_bridges 9 = .ok (.goto 6, 3) := by decide +kernel
theorem dL_bridges_12 : decode cL_bridges 12 = .ok (.astore_n 3, 1) := by decide +kernel
theorem dL_bridges_13 : decode cL_bridges 13 = .ok (.iconst 1, 1) := by decide +kernel
theorem dL_bridges_14 : decode cL_bridges 14 = .ok (.ireturn, 1) := by decide +kernel
theorem dL_bridges_15 : decode cL_bridges 15 = .ok (.iconst 0, 1) := by decide +kernel
theorem dL_bridges_16 : decode cL_bridges 16 = .ok (.ireturn, 1) := by decide +kernel
theorem dL_slot_0 : decode cL_slot 0 = .ok (.aload 4, 2) := by decide +kernel
theorem dL_slot_2 : decode cL_slot 2 = .ok (.iconst 0, 1) := by decide +kernel
theorem dL_slot_3 : decode cL_slot 3 = .ok (.aload_n 0, 1) := by decide +kernel
theorem dL_slot_4 : decode cL_slot 4 = .ok (.iload_n 1, 1) := by decide +kernel
theorem dL_slot_5 : decode cL_slot 5 = .ok (.iload_n 2, 1) := by decide +kernel
theorem dL_slot_6 : decode cL_slot 6 = .ok (.iload_n 3, 1) := by decide +kernel
theorem dL_slot_7 : decode cL_slot 7 = .ok (.invokevirtual 37, 3) := by decide +kernel
theorem dL_slot_10 : decode cL_slot 10 = .ok (.i2l, 1) := by decide +kernel
theorem dL_slot_11 : decode cL_slot 11 = .ok (.lastore, 1) := by decide +kernel
theorem dL_slot_12 : decode cL_slot 12 = .ok (.goto 11, 3) := by decide +kernel
theorem dL_slot_15 : decode cL_slot 15 = .ok (.astore 5, 2) := by decide +kernel
theorem dL_slot_17 : decode cL_slot 17 = .ok (.iconst 1, 1) := by decide +kernel
theorem dL_slot_18 : decode cL_slot 18 = .ok (.ireturn, 1) := by decide +kernel
theorem dL_slot_19 : decode cL_slot 19 = .ok (.astore 5, 2) := by decide +kernel
theorem dL_slot_21 : decode cL_slot 21 = .ok (.iconst 2, 1) := by decide +kernel
theorem dL_slot_22 : decode cL_slot 22 = .ok (.ireturn, 1) := by decide +kernel
theorem dL_slot_23 : decode cL_slot 23 = .ok (.iconst 0, 1) := by decide +kernel
theorem dL_slot_24 : decode cL_slot 24 = .ok (.ireturn, 1) := by decide +kernel
theorem dL_lamp_0 : decode cL_lamp 0 = .ok (.aload_n 2, 1) := by decide +kernel
theorem dL_lamp_1 : decode cL_lamp 1 = .ok (.iconst 0, 1) := by decide +kernel
theorem dL_lamp_2 : decode cL_lamp 2 = .ok (.aload_n 0, 1) := by decide +kernel
theorem dL_lamp_3 : decode cL_lamp 3 = .ok (.iload_n 1, 1) := by decide +kernel
theorem dL_lamp_4 : decode cL_lamp 4 = .ok (.invokevirtual 41, 3) := by decide +kernel
theorem dL_lamp_7 : decode cL_lamp 7 = .ok (.i2l, 1) := by decide +kernel
theorem dL_lamp_8 : decode cL_lamp 8 = .ok (.lastore, 1) := by decide +kernel
theorem dL_lamp_9 : decode cL_lamp 9 = .ok (.goto 6, 3) := by decide +kernel
theorem dL_lamp_12 : decode cL_lamp 12 = .ok (.astore_n 3, 1) := by decide +kernel
theorem dL_lamp_13 : decode cL_lamp 13 = .ok (.iconst 1, 1) := by decide +kernel
theorem dL_lamp_14 : decode cL_lamp 14 = .ok (.ireturn, 1) := by decide +kernel
theorem dL_lamp_15 : decode cL_lamp 15 = .ok (.iconst 0, 1) := by decide +kernel
theorem dL_lamp_16 : decode cL_lamp 16 = .ok (.ireturn, 1) := by decide +kernel
theorem dL_hands_0 : decode cL_hands 0 = .ok (.aload_n 2, 1) := by decide +kernel
theorem dL_hands_1 : decode cL_hands 1 = .ok (.iconst 0, 1) := by decide +kernel
theorem dL_hands_2 : decode cL_hands 2 = .ok (.aload_n 0, 1) := by decide +kernel
theorem dL_hands_3 : decode cL_hands 3 = .ok (.iload_n 1, 1) := by decide +kernel
theorem dL_hands_4 : decode cL_hands 4 = .ok (.invokevirtual 44, 3) := by decide +kernel
theorem dL_hands_7 : decode cL_hands 7 = .ok (.i2l, 1) := by decide +kernel
theorem dL_hands_8 : decode cL_hands 8 = .ok (.lastore, 1) := by decide +kernel
theorem dL_hands_9 : decode cL_hands 9 = .ok (.goto 6, 3) := by decide +kernel
theorem dL_hands_12 : decode cL_hands 12 = .ok (.astore_n 3, 1) := by decide +kernel
theorem dL_hands_13 : decode cL_hands 13 = .ok (.iconst 1, 1) := by decide +kernel
theorem dL_hands_14 : decode cL_hands 14 = .ok (.ireturn, 1) := by decide +kernel
theorem dL_hands_15 : decode cL_hands 15 = .ok (.iconst 0, 1) := by decide +kernel
theorem dL_hands_16 : decode cL_hands 16 = .ok (.ireturn, 1) := by decide +kernel
theorem dL_put_0 : decode cL_put 0 = .ok (.aload_n 3, 1) := by decide +kernel
theorem dL_put_1 : decode cL_put 1 = .ok (.iconst 0, 1) := by decide +kernel
theorem dL_put_2 : decode cL_put 2 = .ok (.aload_n 0, 1) := by decide +kernel
theorem dL_put_3 : decode cL_put 3 = .ok (.iload_n 1, 1) := by decide +kernel
theorem dL_put_4 : decode cL_put 4 = .ok (.iload_n 2, 1) := by decide +kernel
theorem dL_put_5 : decode cL_put 5 = .ok (.invokevirtual 47, 3) := by decide +kernel
theorem dL_put_8 : decode cL_put 8 = .ok (.i2l, 1) := by decide +kernel
theorem dL_put_9 : decode cL_put 9 = .ok (.lastore, 1) := by decide +kernel
theorem dL_put_10 : decode cL_put 10 = .ok (.goto 7, 3) := by decide +kernel
theorem dL_put_13 : decode cL_put 13 = .ok (.astore 4, 2) := by decide +kernel
theorem dL_put_15 : decode cL_put 15 = .ok (.iconst 1, 1) := by decide +kernel
theorem dL_put_16 : decode cL_put 16 = .ok (.ireturn, 1) := by decide +kernel
theorem dL_put_17 : decode cL_put 17 = .ok (.iconst 0, 1) := by decide +kernel
theorem dL_put_18 : decode cL_put 18 = .ok (.ireturn, 1) := by decide +kernel
theorem dL_in_0 : decode cL_in 0 = .ok (.aload_n 2, 1) := by decide +kernel
theorem dL_in_1 : decode cL_in 1 = .ok (.iconst 0, 1) := by decide +kernel
theorem dL_in_2 : decode cL_in 2 = .ok (.aload_n 0, 1) := by decide +kernel
theorem dL_in_3 : decode cL_in 3 = .ok (.iload_n 1, 1) := by decide +kernel
theorem dL_in_4 : decode cL_in 4 = .ok (.invokevirtual 51, 3) := by decide +kernel
theorem dL_in_7 : decode cL_in 7 = .ok (.i2l, 1) := by decide +kernel
theorem dL_in_8 : decode cL_in 8 = .ok (.lastore, 1) := by decide +kernel
theorem dL_in_9 : decode cL_in 9 = .ok (.goto 6, 3) := by decide +kernel
theorem dL_in_12 : decode cL_in 12 = .ok (.astore_n 3, 1) := by decide +kernel
theorem dL_in_13 : decode cL_in 13 = .ok (.iconst 1, 1) := by decide +kernel
theorem dL_in_14 : decode cL_in 14 = .ok (.ireturn, 1) := by decide +kernel
theorem dL_in_15 : decode cL_in 15 = .ok (.iconst 0, 1) := by decide +kernel
theorem dL_in_16 : decode cL_in 16 = .ok (.ireturn, 1) := by decide +kernel
theorem dL_shade_0 : decode cL_shade 0 = .ok (.aload 4, 2) := by decide +kernel
theorem dL_shade_2 : decode cL_shade 2 = .ok (.iconst 0, 1) := by decide +kernel
theorem dL_shade_3 : decode cL_shade 3 = .ok (.aload_n 0, 1) := by decide +kernel
theorem dL_shade_4 : decode cL_shade 4 = .ok (.iload_n 1, 1) := by decide +kernel
theorem dL_shade_5 : decode cL_shade 5 = .ok (.iload_n 2, 1) := by decide +kernel
theorem dL_shade_6 : decode cL_shade 6 = .ok (.iload_n 3, 1) := by decide +kernel
theorem dL_shade_7 : decode cL_shade 7 = .ok (.invokevirtual 54, 3) := by decide +kernel
theorem dL_shade_10 : decode cL_shade 10 = .ok (.i2l, 1) := by decide +kernel
theorem dL_shade_11 : decode cL_shade 11 = .ok (.lastore, 1) := by decide +kernel
theorem dL_shade_12 : decode cL_shade 12 = .ok (.goto 7, 3) := by decide +kernel
theorem dL_shade_15 : decode cL_shade 15 = .ok (.astore 5, 2) := by decide +kernel
theorem dL_shade_17 : decode cL_shade 17 = .ok (.iconst 1, 1) := by decide +kernel
theorem dL_shade_18 : decode cL_shade 18 = .ok (.ireturn, 1) := by decide +kernel
theorem dL_shade_19 : decode cL_shade 19 = .ok (.iconst 0, 1) := by decide +kernel
theorem dL_shade_20 : decode cL_shade 20 = .ok (.ireturn, 1) := by decide +kernel
theorem dL_shades_0 : decode cL_shades 0 = .ok (.aload 4, 2) := by decide +kernel
theorem dL_shades_2 : decode cL_shades 2 = .ok (.iconst 0, 1) := by decide +kernel
theorem dL_shades_3 : decode cL_shades 3 = .ok (.aload_n 0, 1) := by decide +kernel
theorem dL_shades_4 : decode cL_shades 4 = .ok (.iload_n 1, 1) := by decide +kernel
theorem dL_shades_5 : decode cL_shades 5 = .ok (.iload_n 2, 1) := by decide +kernel
theorem dL_shades_6 : decode cL_shades 6 = .ok (.iload_n 3, 1) := by decide +kernel
theorem dL_shades_7 : decode cL_shades 7 = .ok (.invokevirtual 57, 3) := by decide +kernel
theorem dL_shades_10 : decode cL_shades 10 = .ok (.i2l, 1) := by decide +kernel
theorem dL_shades_11 : decode cL_shades 11 = .ok (.lastore, 1) := by decide +kernel
theorem dL_shades_12 : decode cL_shades 12 = .ok (.goto 11, 3) := by decide +kernel
theorem dL_shades_15 : decode cL_shades 15 = .ok (.astore 5, 2) := by decide +kernel
theorem dL_shades_17 : decode cL_shades 17 = .ok (.iconst 1, 1) := by decide +kernel
theorem dL_shades_18 : decode cL_shades 18 = .ok (.ireturn, 1) := by decide +kernel
theorem dL_shades_19 : decode cL_shades 19 = .ok (.astore 5, 2) := by decide +kernel
theorem dL_shades_21 : decode cL_shades 21 = .ok (.iconst 2, 1) := by decide +kernel
theorem dL_shades_22 : decode cL_shades 22 = .ok (.ireturn, 1) := by decide +kernel
theorem dL_shades_23 : decode cL_shades 23 = .ok (.iconst 0, 1) := by decide +kernel
theorem dL_shades_24 : decode cL_shades 24 = .ok (.ireturn, 1) := by decide +kernel
theorem dL_told_0 : decode cL_told 0 = .ok (.aload_n 3, 1) := by decide +kernel
theorem dL_told_1 : decode cL_told 1 = .ok (.iconst 0, 1) := by decide +kernel
theorem dL_told_2 : decode cL_told 2 = .ok (.aload_n 0, 1) := by decide +kernel
theorem dL_told_3 : decode cL_told 3 = .ok (.iload_n 1, 1) := by decide +kernel
theorem dL_told_4 : decode cL_told 4 = .ok (.iload_n 2, 1) := by decide +kernel
theorem dL_told_5 : decode cL_told 5 = .ok (.invokevirtual 60, 3) := by decide +kernel
theorem dL_told_8 : decode cL_told 8 = .ok (.i2l, 1) := by decide +kernel
theorem dL_told_9 : decode cL_told 9 = .ok (.lastore, 1) := by decide +kernel
theorem dL_told_10 : decode cL_told 10 = .ok (.goto 7, 3) := by decide +kernel
theorem dL_told_13 : decode cL_told 13 = .ok (.astore 4, 2) := by decide +kernel
theorem dL_told_15 : decode cL_told 15 = .ok (.iconst 1, 1) := by decide +kernel
theorem dL_told_16 : decode cL_told 16 = .ok (.ireturn, 1) := by decide +kernel
theorem dL_told_17 : decode cL_told 17 = .ok (.iconst 0, 1) := by decide +kernel
theorem dL_told_18 : decode cL_told 18 = .ok (.ireturn, 1) := by decide +kernel
theorem dL_wrong_0 : decode cL_wrong 0 = .ok (.aload 5, 2) := by decide +kernel
theorem dL_wrong_2 : decode cL_wrong 2 = .ok (.iconst 0, 1) := by decide +kernel
theorem dL_wrong_3 : decode cL_wrong 3 = .ok (.aload_n 0, 1) := by decide +kernel
theorem dL_wrong_4 : decode cL_wrong 4 = .ok (.iload_n 1, 1) := by decide +kernel
theorem dL_wrong_5 : decode cL_wrong 5 = .ok (.iload_n 2, 1) := by decide +kernel
theorem dL_wrong_6 : decode cL_wrong 6 = .ok (.iload_n 3, 1) := by decide +kernel
theorem dL_wrong_7 : decode cL_wrong 7 = .ok (.iload 4, 2) := by decide +kernel
theorem dL_wrong_9 : decode cL_wrong 9 = .ok (.invokevirtual 63, 3) := by decide +kernel
theorem dL_wrong_12 : decode cL_wrong 12 = .ok (.i2l, 1) := by decide +kernel
theorem dL_wrong_13 : decode cL_wrong 13 = .ok (.lastore, 1) := by decide +kernel
theorem dL_wrong_14 : decode cL_wrong 14 = .ok (.goto 11, 3) := by decide +kernel
theorem dL_wrong_17 : decode cL_wrong 17 = .ok (.astore 6, 2) := by decide +kernel
theorem dL_wrong_19 : decode cL_wrong 19 = .ok (.iconst 1, 1) := by decide +kernel
theorem dL_wrong_20 : decode cL_wrong 20 = .ok (.ireturn, 1) := by decide +kernel
theorem dL_wrong_21 : decode cL_wrong 21 = .ok (.astore 6, 2) := by decide +kernel
theorem dL_wrong_23 : decode cL_wrong 23 = .ok (.iconst 2, 1) := by decide +kernel
theorem dL_wrong_24 : decode cL_wrong 24 = .ok (.ireturn, 1) := by decide +kernel
theorem dL_wrong_25 : decode cL_wrong 25 = .ok (.iconst 0, 1) := by decide +kernel
theorem dL_wrong_26 : decode cL_wrong 26 = .ok (.ireturn, 1) := by decide +kernel
theorem dL_best_0 : decode cL_best 0 = .ok (.aload 5, 2) := by decide +kernel
theorem dL_best_2 : decode cL_best 2 = .ok (.iconst 0, 1) := by decide +kernel
theorem dL_best_3 : decode cL_best 3 = .ok (.aload_n 0, 1) := by decide +kernel
theorem dL_best_4 : decode cL_best 4 = .ok (.iload_n 1, 1) := by decide +kernel
theorem dL_best_5 : decode cL_best 5 = .ok (.iload_n 2, 1) := by decide +kernel
theorem dL_best_6 : decode cL_best 6 = .ok (.iload_n 3, 1) := by decide +kernel
theorem dL_best_7 : decode cL_best 7 = .ok (.iload 4, 2) := by decide +kernel
theorem dL_best_9 : decode cL_best 9 = .ok (.invokevirtual 67, 3) := by decide +kernel
theorem dL_best_12 : decode cL_best 12 = .ok (.i2l, 1) := by decide +kernel
theorem dL_best_13 : decode cL_best 13 = .ok (.lastore, 1) := by decide +kernel
theorem dL_best_14 : decode cL_best 14 = .ok (.goto 7, 3) := by decide +kernel
theorem dL_best_17 : decode cL_best 17 = .ok (.astore 6, 2) := by decide +kernel
theorem dL_best_19 : decode cL_best 19 = .ok (.iconst 1, 1) := by decide +kernel
theorem dL_best_20 : decode cL_best 20 = .ok (.ireturn, 1) := by decide +kernel
theorem dL_best_21 : decode cL_best 21 = .ok (.iconst 0, 1) := by decide +kernel
theorem dL_best_22 : decode cL_best 22 = .ok (.ireturn, 1) := by decide +kernel
theorem dL_rules_0 : decode cL_rules 0 = .ok (.aload_n 1, 1) := by decide +kernel
theorem dL_rules_1 : decode cL_rules 1 = .ok (.iconst 0, 1) := by decide +kernel
theorem dL_rules_2 : decode cL_rules 2 = .ok (.aload_n 0, 1) := by decide +kernel
theorem dL_rules_3 : decode cL_rules 3 = .ok (.invokevirtual 70, 3) := by decide +kernel
theorem dL_rules_6 : decode cL_rules 6 = .ok (.i2l, 1) := by decide +kernel
theorem dL_rules_7 : decode cL_rules 7 = .ok (.lastore, 1) := by decide +kernel
theorem dL_rules_8 : decode cL_rules 8 = .ok (.goto 6, 3) := by decide +kernel
theorem dL_rules_11 : decode cL_rules 11 = .ok (.astore_n 2, 1) := by decide +kernel
theorem dL_rules_12 : decode cL_rules 12 = .ok (.iconst 1, 1) := by decide +kernel
theorem dL_rules_13 : decode cL_rules 13 = .ok (.ireturn, 1) := by decide +kernel
theorem dL_rules_14 : decode cL_rules 14 = .ok (.iconst 0, 1) := by decide +kernel
theorem dL_rules_15 : decode cL_rules 15 = .ok (.ireturn, 1) := by decide +kernel
theorem dL_step_0 : decode cL_step 0 = .ok (.aload 4, 2) := by decide +kernel
theorem dL_step_2 : decode cL_step 2 = .ok (.iconst 0, 1) := by decide +kernel
theorem dL_step_3 : decode cL_step 3 = .ok (.aload_n 0, 1) := by decide +kernel
theorem dL_step_4 : decode cL_step 4 = .ok (.iload_n 1, 1) := by decide +kernel
theorem dL_step_5 : decode cL_step 5 = .ok (.iload_n 2, 1) := by decide +kernel
theorem dL_step_6 : decode cL_step 6 = .ok (.iload_n 3, 1) := by decide +kernel
theorem dL_step_7 : decode cL_step 7 = .ok (.invokevirtual 73, 3) := by decide +kernel
theorem dL_step_10 : decode cL_step 10 = .ok (.i2l, 1) := by decide +kernel
theorem dL_step_11 : decode cL_step 11 = .ok (.lastore, 1) := by decide +kernel
theorem dL_step_12 : decode cL_step 12 = .ok (.goto 7, 3) := by decide +kernel
theorem dL_step_15 : decode cL_step 15 = .ok (.astore 5, 2) := by decide +kernel
theorem dL_step_17 : decode cL_step 17 = .ok (.iconst 1, 1) := by decide +kernel
theorem dL_step_18 : decode cL_step 18 = .ok (.ireturn, 1) := by decide +kernel
theorem dL_step_19 : decode cL_step 19 = .ok (.iconst 0, 1) := by decide +kernel
theorem dL_step_20 : decode cL_step 20 = .ok (.ireturn, 1) := by decide +kernel
theorem dL_seats_0 : decode cL_seats 0 = .ok (.aload_n 3, 1) := by decide +kernel
theorem dL_seats_1 : decode cL_seats 1 = .ok (.iconst 0, 1) := by decide +kernel
theorem dL_seats_2 : decode cL_seats 2 = .ok (.aload_n 0, 1) := by decide +kernel
theorem dL_seats_3 : decode cL_seats 3 = .ok (.iload_n 1, 1) := by decide +kernel
theorem dL_seats_4 : decode cL_seats 4 = .ok (.iload_n 2, 1) := by decide +kernel
theorem dL_seats_5 : decode cL_seats 5 = .ok (.invokevirtual 76, 3) := by decide +kernel
theorem dL_seats_8 : decode cL_seats 8 = .ok (.i2l, 1) := by decide +kernel
theorem dL_seats_9 : decode cL_seats 9 = .ok (.lastore, 1) := by decide +kernel
theorem dL_seats_10 : decode cL_seats 10 = .ok (.goto 7, 3) := by decide +kernel
theorem dL_seats_13 : decode cL_seats 13 = .ok (.astore 4, 2) := by decide +kernel
theorem dL_seats_15 : decode cL_seats 15 = .ok (.iconst 1, 1) := by decide +kernel
theorem dL_seats_16 : decode cL_seats 16 = .ok (.ireturn, 1) := by decide +kernel
theorem dL_seats_17 : decode cL_seats 17 = .ok (.iconst 0, 1) := by decide +kernel
theorem dL_seats_18 : decode cL_seats 18 = .ok (.ireturn, 1) := by decide +kernel
theorem dL_holes_0 : decode cL_holes 0 = .ok (.aload_n 2, 1) := by decide +kernel
theorem dL_holes_1 : decode cL_holes 1 = .ok (.iconst 0, 1) := by decide +kernel
theorem dL_holes_2 : decode cL_holes 2 = .ok (.aload_n 0, 1) := by decide +kernel
theorem dL_holes_3 : decode cL_holes 3 = .ok (.iload_n 1, 1) := by decide +kernel
theorem dL_holes_4 : decode cL_holes 4 = .ok (.invokevirtual 79, 3) := by decide +kernel
theorem dL_holes_7 : decode cL_holes 7 = .ok (.i2l, 1) := by decide +kernel
theorem dL_holes_8 : decode cL_holes 8 = .ok (.lastore, 1) := by decide +kernel
theorem dL_holes_9 : decode cL_holes 9 = .ok (.goto 6, 3) := by decide +kernel
theorem dL_holes_12 : decode cL_holes 12 = .ok (.astore_n 3, 1) := by decide +kernel
theorem dL_holes_13 : decode cL_holes 13 = .ok (.iconst 1, 1) := by decide +kernel
theorem dL_holes_14 : decode cL_holes 14 = .ok (.ireturn, 1) := by decide +kernel
theorem dL_holes_15 : decode cL_holes 15 = .ok (.iconst 0, 1) := by decide +kernel
theorem dL_holes_16 : decode cL_holes 16 = .ok (.ireturn, 1) := by decide +kernel
theorem dL_lasts_0 : decode cL_lasts 0 = .ok (.aload_n 2, 1) := by decide +kernel
theorem dL_lasts_1 : decode cL_lasts 1 = .ok (.iconst 0, 1) := by decide +kernel
theorem dL_lasts_2 : decode cL_lasts 2 = .ok (.aload_n 0, 1) := by decide +kernel
theorem dL_lasts_3 : decode cL_lasts 3 = .ok (.iload_n 1, 1) := by decide +kernel
theorem dL_lasts_4 : decode cL_lasts 4 = .ok (.invokevirtual 82, 3) := by decide +kernel
theorem dL_lasts_7 : decode cL_lasts 7 = .ok (.i2l, 1) := by decide +kernel
theorem dL_lasts_8 : decode cL_lasts 8 = .ok (.lastore, 1) := by decide +kernel
theorem dL_lasts_9 : decode cL_lasts 9 = .ok (.goto 6, 3) := by decide +kernel
theorem dL_lasts_12 : decode cL_lasts 12 = .ok (.astore_n 3, 1) := by decide +kernel
theorem dL_lasts_13 : decode cL_lasts 13 = .ok (.iconst 1, 1) := by decide +kernel
theorem dL_lasts_14 : decode cL_lasts 14 = .ok (.ireturn, 1) := by decide +kernel
theorem dL_lasts_15 : decode cL_lasts 15 = .ok (.iconst 0, 1) := by decide +kernel
theorem dL_lasts_16 : decode cL_lasts 16 = .ok (.ireturn, 1) := by decide +kernel
theorem dL_idle_0 : decode cL_idle 0 = .ok (.aload_n 3, 1) := by decide +kernel
theorem dL_idle_1 : decode cL_idle 1 = .ok (.iconst 0, 1) := by decide +kernel
theorem dL_idle_2 : decode cL_idle 2 = .ok (.aload_n 0, 1) := by decide +kernel
theorem dL_idle_3 : decode cL_idle 3 = .ok (.iload_n 1, 1) := by decide +kernel
theorem dL_idle_4 : decode cL_idle 4 = .ok (.iload_n 2, 1) := by decide +kernel
theorem dL_idle_5 : decode cL_idle 5 = .ok (.invokevirtual 85, 3) := by decide +kernel
theorem dL_idle_8 : decode cL_idle 8 = .ok (.i2l, 1) := by decide +kernel
theorem dL_idle_9 : decode cL_idle 9 = .ok (.lastore, 1) := by decide +kernel
theorem dL_idle_10 : decode cL_idle 10 = .ok (.goto 7, 3) := by decide +kernel
theorem dL_idle_13 : decode cL_idle 13 = .ok (.astore 4, 2) := by decide +kernel
theorem dL_idle_15 : decode cL_idle 15 = .ok (.iconst 1, 1) := by decide +kernel
theorem dL_idle_16 : decode cL_idle 16 = .ok (.ireturn, 1) := by decide +kernel
theorem dL_idle_17 : decode cL_idle 17 = .ok (.iconst 0, 1) := by decide +kernel
theorem dL_idle_18 : decode cL_idle 18 = .ok (.ireturn, 1) := by decide +kernel
theorem dL_unlike_0 : decode cL_unlike 0 = .ok (.aload 5, 2) := by decide +kernel
theorem dL_unlike_2 : decode cL_unlike 2 = .ok (.iconst 0, 1) := by decide +kernel
theorem dL_unlike_3 : decode cL_unlike 3 = .ok (.aload_n 0, 1) := by decide +kernel
theorem dL_unlike_4 : decode cL_unlike 4 = .ok (.iload_n 1, 1) := by decide +kernel
theorem dL_unlike_5 : decode cL_unlike 5 = .ok (.iload_n 2, 1) := by decide +kernel
theorem dL_unlike_6 : decode cL_unlike 6 = .ok (.iload_n 3, 1) := by decide +kernel
theorem dL_unlike_7 : decode cL_unlike 7 = .ok (.iload 4, 2) := by decide +kernel
theorem dL_unlike_9 : decode cL_unlike 9 = .ok (.invokevirtual 88, 3) := by decide +kernel
theorem dL_unlike_12 : decode cL_unlike 12 = .ok (.i2l, 1) := by decide +kernel
theorem dL_unlike_13 : decode cL_unlike 13 = .ok (.lastore, 1) := by decide +kernel
theorem dL_unlike_14 : decode cL_unlike 14 = .ok (.goto 7, 3) := by decide +kernel
theorem dL_unlike_17 : decode cL_unlike 17 = .ok (.astore 6, 2) := by decide +kernel
theorem dL_unlike_19 : decode cL_unlike 19 = .ok (.iconst 1, 1) := by decide +kernel
theorem dL_unlike_20 : decode cL_unlike 20 = .ok (.ireturn, 1) := by decide +kernel
theorem dL_unlike_21 : decode cL_unlike 21 = .ok (.iconst 0, 1) := by decide +kernel
theorem dL_unlike_22 : decode cL_unlike 22 = .ok (.ireturn, 1) := by decide +kernel
theorem dL_shaped_0 : decode cL_shaped 0 = .ok (.aload_n 3, 1) := by decide +kernel
theorem dL_shaped_1 : decode cL_shaped 1 = .ok (.iconst 0, 1) := by decide +kernel
theorem dL_shaped_2 : decode cL_shaped 2 = .ok (.aload_n 0, 1) := by decide +kernel
theorem dL_shaped_3 : decode cL_shaped 3 = .ok (.iload_n 1, 1) := by decide +kernel
theorem dL_shaped_4 : decode cL_shaped 4 = .ok (.iload_n 2, 1) := by decide +kernel
theorem dL_shaped_5 : decode cL_shaped 5 = .ok (.invokevirtual 91, 3) := by decide +kernel
theorem dL_shaped_8 : decode cL_shaped 8 = .ok (.i2l, 1) := by decide +kernel
theorem dL_shaped_9 : decode cL_shaped 9 = .ok (.lastore, 1) := by decide +kernel
theorem dL_shaped_10 : decode cL_shaped 10 = .ok (.goto 11, 3) := by decide +kernel
theorem dL_shaped_13 : decode cL_shaped 13 = .ok (.astore 4, 2) := by decide +kernel
theorem dL_shaped_15 : decode cL_shaped 15 = .ok (.iconst 1, 1) := by decide +kernel
theorem dL_shaped_16 : decode cL_shaped 16 = .ok (.ireturn, 1) := by decide +kernel
theorem dL_shaped_17 : decode cL_shaped 17 = .ok (.astore 4, 2) := by decide +kernel
theorem dL_shaped_19 : decode cL_shaped 19 = .ok (.iconst 2, 1) := by decide +kernel
theorem dL_shaped_20 : decode cL_shaped 20 = .ok (.ireturn, 1) := by decide +kernel
theorem dL_shaped_21 : decode cL_shaped 21 = .ok (.iconst 0, 1) := by decide +kernel
theorem dL_shaped_22 : decode cL_shaped 22 = .ok (.ireturn, 1) := by decide +kernel
theorem dL_order_0 : decode cL_order 0 = .ok (.aload_n 2, 1) := by decide +kernel
theorem dL_order_1 : decode cL_order 1 = .ok (.iconst 0, 1) := by decide +kernel
theorem dL_order_2 : decode cL_order 2 = .ok (.aload_n 0, 1) := by decide +kernel
theorem dL_order_3 : decode cL_order 3 = .ok (.iload_n 1, 1) := by decide +kernel
theorem dL_order_4 : decode cL_order 4 = .ok (.invokevirtual 94, 3) := by decide +kernel
theorem dL_order_7 : decode cL_order 7 = .ok (.i2l, 1) := by decide +kernel
theorem dL_order_8 : decode cL_order 8 = .ok (.lastore, 1) := by decide +kernel
theorem dL_order_9 : decode cL_order 9 = .ok (.goto 6, 3) := by decide +kernel
theorem dL_order_12 : decode cL_order 12 = .ok (.astore_n 3, 1) := by decide +kernel
theorem dL_order_13 : decode cL_order 13 = .ok (.iconst 1, 1) := by decide +kernel
theorem dL_order_14 : decode cL_order 14 = .ok (.ireturn, 1) := by decide +kernel
theorem dL_order_15 : decode cL_order 15 = .ok (.iconst 0, 1) := by decide +kernel
theorem dL_order_16 : decode cL_order 16 = .ok (.ireturn, 1) := by decide +kernel
theorem dL_together_0 : decode cL_together 0 = .ok (.aload_n 2, 1) := by decide +kernel
theorem dL_together_1 : decode cL_together 1 = .ok (.iconst 0, 1) := by decide +kernel
theorem dL_together_2 : decode cL_together 2 = .ok (.aload_n 0, 1) := by decide +kernel
theorem dL_together_3 : decode cL_together 3 = .ok (.iload_n 1, 1) := by decide +kernel
theorem dL_together_4 : decode cL_together 4 = .ok (.invokevirtual 97, 3) := by decide +kernel
theorem dL_together_7 : decode cL_together 7 = .ok (.i2l, 1) := by decide +kernel
theorem dL_together_8 : decode cL_together 8 = .ok (.lastore, 1) := by decide +kernel
theorem dL_together_9 : decode cL_together 9 = .ok (.goto 6, 3) := by decide +kernel
theorem dL_together_12 : decode cL_together 12 = .ok (.astore_n 3, 1) := by decide +kernel
theorem dL_together_13 : decode cL_together 13 = .ok (.iconst 1, 1) := by decide +kernel
theorem dL_together_14 : decode cL_together 14 = .ok (.ireturn, 1) := by decide +kernel
theorem dL_together_15 : decode cL_together 15 = .ok (.iconst 0, 1) := by decide +kernel
theorem dL_together_16 : decode cL_together 16 = .ok (.ireturn, 1) := by decide +kernel
theorem dL_bound_0 : decode cL_bound 0 = .ok (.aload 4, 2) := by decide +kernel
theorem dL_bound_2 : decode cL_bound 2 = .ok (.iconst 0, 1) := by decide +kernel
theorem dL_bound_3 : decode cL_bound 3 = .ok (.aload_n 0, 1) := by decide +kernel
theorem dL_bound_4 : decode cL_bound 4 = .ok (.iload_n 1, 1) := by decide +kernel
theorem dL_bound_5 : decode cL_bound 5 = .ok (.iload_n 2, 1) := by decide +kernel
theorem dL_bound_6 : decode cL_bound 6 = .ok (.iload_n 3, 1) := by decide +kernel
theorem dL_bound_7 : decode cL_bound 7 = .ok (.invokevirtual 100, 3) := by decide +kernel
theorem dL_bound_10 : decode cL_bound 10 = .ok (.i2l, 1) := by decide +kernel
theorem dL_bound_11 : decode cL_bound 11 = .ok (.lastore, 1) := by decide +kernel
theorem dL_bound_12 : decode cL_bound 12 = .ok (.goto 7, 3) := by decide +kernel
theorem dL_bound_15 : decode cL_bound 15 = .ok (.astore 5, 2) := by decide +kernel
theorem dL_bound_17 : decode cL_bound 17 = .ok (.iconst 1, 1) := by decide +kernel
theorem dL_bound_18 : decode cL_bound 18 = .ok (.ireturn, 1) := by decide +kernel
theorem dL_bound_19 : decode cL_bound 19 = .ok (.iconst 0, 1) := by decide +kernel
theorem dL_bound_20 : decode cL_bound 20 = .ok (.ireturn, 1) := by decide +kernel
theorem dL_helps_0 : decode cL_helps 0 = .ok (.aload 5, 2) := by decide +kernel
theorem dL_helps_2 : decode cL_helps 2 = .ok (.iconst 0, 1) := by decide +kernel
theorem dL_helps_3 : decode cL_helps 3 = .ok (.aload_n 0, 1) := by decide +kernel
theorem dL_helps_4 : decode cL_helps 4 = .ok (.iload_n 1, 1) := by decide +kernel
theorem dL_helps_5 : decode cL_helps 5 = .ok (.iload_n 2, 1) := by decide +kernel
theorem dL_helps_6 : decode cL_helps 6 = .ok (.iload_n 3, 1) := by decide +kernel
theorem dL_helps_7 : decode cL_helps 7 = .ok (.iload 4, 2) := by decide +kernel
theorem dL_helps_9 : decode cL_helps 9 = .ok (.invokevirtual 103, 3) := by decide +kernel
theorem dL_helps_12 : decode cL_helps 12 = .ok (.i2l, 1) := by decide +kernel
theorem dL_helps_13 : decode cL_helps 13 = .ok (.lastore, 1) := by decide +kernel
theorem dL_helps_14 : decode cL_helps 14 = .ok (.goto 11, 3) := by decide +kernel
theorem dL_helps_17 : decode cL_helps 17 = .ok (.astore 6, 2) := by decide +kernel
theorem dL_helps_19 : decode cL_helps 19 = .ok (.iconst 1, 1) := by decide +kernel
theorem dL_helps_20 : decode cL_helps 20 = .ok (.ireturn, 1) := by decide +kernel
theorem dL_helps_21 : decode cL_helps 21 = .ok (.astore 6, 2) := by decide +kernel
theorem dL_helps_23 : decode cL_helps 23 = .ok (.iconst 2, 1) := by decide +kernel
theorem dL_helps_24 : decode cL_helps 24 = .ok (.ireturn, 1) := by decide +kernel
theorem dL_helps_25 : decode cL_helps 25 = .ok (.iconst 0, 1) := by decide +kernel
theorem dL_helps_26 : decode cL_helps 26 = .ok (.ireturn, 1) := by decide +kernel
theorem dL_anew_0 : decode cL_anew 0 = .ok (.aload 5, 2) := by decide +kernel
theorem dL_anew_2 : decode cL_anew 2 = .ok (.iconst 0, 1) := by decide +kernel
theorem dL_anew_3 : decode cL_anew 3 = .ok (.aload_n 0, 1) := by decide +kernel
theorem dL_anew_4 : decode cL_anew 4 = .ok (.iload_n 1, 1) := by decide +kernel
theorem dL_anew_5 : decode cL_anew 5 = .ok (.iload_n 2, 1) := by decide +kernel
theorem dL_anew_6 : decode cL_anew 6 = .ok (.iload_n 3, 1) := by decide +kernel
theorem dL_anew_7 : decode cL_anew 7 = .ok (.iload 4, 2) := by decide +kernel
theorem dL_anew_9 : decode cL_anew 9 = .ok (.invokevirtual 106, 3) := by decide +kernel
theorem dL_anew_12 : decode cL_anew 12 = .ok (.i2l, 1) := by decide +kernel
theorem dL_anew_13 : decode cL_anew 13 = .ok (.lastore, 1) := by decide +kernel
theorem dL_anew_14 : decode cL_anew 14 = .ok (.goto 11, 3) := by decide +kernel
theorem dL_anew_17 : decode cL_anew 17 = .ok (.astore 6, 2) := by decide +kernel
theorem dL_anew_19 : decode cL_anew 19 = .ok (.iconst 1, 1) := by decide +kernel
theorem dL_anew_20 : decode cL_anew 20 = .ok (.ireturn, 1) := by decide +kernel
theorem dL_anew_21 : decode cL_anew 21 = .ok (.astore 6, 2) := by decide +kernel
theorem dL_anew_23 : decode cL_anew 23 = .ok (.iconst 2, 1) := by decide +kernel
theorem dL_anew_24 : decode cL_anew 24 = .ok (.ireturn, 1) := by decide +kernel
theorem dL_anew_25 : decode cL_anew 25 = .ok (.iconst 0, 1) := by decide +kernel
theorem dL_anew_26 : decode cL_anew 26 = .ok (.ireturn, 1) := by decide +kernel
theorem dL_frame_0 : decode cL_frame 0 = .ok (.aload_n 1, 1) := by decide +kernel
theorem dL_frame_1 : decode cL_frame 1 = .ok (.iconst 0, 1) := by decide +kernel
theorem dL_frame_2 : decode cL_frame 2 = .ok (.aload_n 0, 1) := by decide +kernel
theorem dL_frame_3 : decode cL_frame 3 = .ok (.invokevirtual 109, 3) := by decide +kernel
theorem dL_frame_6 : decode cL_frame 6 = .ok (.i2l, 1) := by decide +kernel
theorem dL_frame_7 : decode cL_frame 7 = .ok (.lastore, 1) := by decide +kernel
theorem dL_frame_8 : decode cL_frame 8 = .ok (.goto 6, 3) := by decide +kernel
theorem dL_frame_11 : decode cL_frame 11 = .ok (.astore_n 2, 1) := by decide +kernel
theorem dL_frame_12 : decode cL_frame 12 = .ok (.iconst 1, 1) := by decide +kernel
theorem dL_frame_13 : decode cL_frame 13 = .ok (.ireturn, 1) := by decide +kernel
theorem dL_frame_14 : decode cL_frame 14 = .ok (.iconst 0, 1) := by decide +kernel
theorem dL_frame_15 : decode cL_frame 15 = .ok (.ireturn, 1) := by decide +kernel
theorem dL_moves_0 : decode cL_moves 0 = .ok (.aload_n 3, 1) := by decide +kernel
theorem dL_moves_1 : decode cL_moves 1 = .ok (.iconst 0, 1) := by decide +kernel
theorem dL_moves_2 : decode cL_moves 2 = .ok (.aload_n 0, 1) := by decide +kernel
theorem dL_moves_3 : decode cL_moves 3 = .ok (.iload_n 1, 1) := by decide +kernel
theorem dL_moves_4 : decode cL_moves 4 = .ok (.iload_n 2, 1) := by decide +kernel
theorem dL_moves_5 : decode cL_moves 5 = .ok (.invokevirtual 112, 3) := by decide +kernel
theorem dL_moves_8 : decode cL_moves 8 = .ok (.i2l, 1) := by decide +kernel
theorem dL_moves_9 : decode cL_moves 9 = .ok (.lastore, 1) := by decide +kernel
theorem dL_moves_10 : decode cL_moves 10 = .ok (.goto 7, 3) := by decide +kernel
theorem dL_moves_13 : decode cL_moves 13 = .ok (.astore 4, 2) := by decide +kernel
theorem dL_moves_15 : decode cL_moves 15 = .ok (.iconst 1, 1) := by decide +kernel
theorem dL_moves_16 : decode cL_moves 16 = .ok (.ireturn, 1) := by decide +kernel
theorem dL_moves_17 : decode cL_moves 17 = .ok (.iconst 0, 1) := by decide +kernel
theorem dL_moves_18 : decode cL_moves 18 = .ok (.ireturn, 1) := by decide +kernel
theorem dL_take_0 : decode cL_take 0 = .ok (.aload_n 2, 1) := by decide +kernel
theorem dL_take_1 : decode cL_take 1 = .ok (.iconst 0, 1) := by decide +kernel
theorem dL_take_2 : decode cL_take 2 = .ok (.aload_n 0, 1) := by decide +kernel
theorem dL_take_3 : decode cL_take 3 = .ok (.iload_n 1, 1) := by decide +kernel
theorem dL_take_4 : decode cL_take 4 = .ok (.invokevirtual 115, 3) := by decide +kernel
theorem dL_take_7 : decode cL_take 7 = .ok (.i2l, 1) := by decide +kernel
theorem dL_take_8 : decode cL_take 8 = .ok (.lastore, 1) := by decide +kernel
theorem dL_take_9 : decode cL_take 9 = .ok (.goto 6, 3) := by decide +kernel
theorem dL_take_12 : decode cL_take 12 = .ok (.astore_n 3, 1) := by decide +kernel
theorem dL_take_13 : decode cL_take 13 = .ok (.iconst 1, 1) := by decide +kernel
theorem dL_take_14 : decode cL_take 14 = .ok (.ireturn, 1) := by decide +kernel
theorem dL_take_15 : decode cL_take 15 = .ok (.iconst 0, 1) := by decide +kernel
theorem dL_take_16 : decode cL_take 16 = .ok (.ireturn, 1) := by decide +kernel
theorem dL_play_0 : decode cL_play 0 = .ok (.aload_n 2, 1) := by decide +kernel
theorem dL_play_1 : decode cL_play 1 = .ok (.iconst 0, 1) := by decide +kernel
theorem dL_play_2 : decode cL_play 2 = .ok (.aload_n 0, 1) := by decide +kernel
theorem dL_play_3 : decode cL_play 3 = .ok (.iload_n 1, 1) := by decide +kernel
theorem dL_play_4 : decode cL_play 4 = .ok (.invokevirtual 118, 3) := by decide +kernel
theorem dL_play_7 : decode cL_play 7 = .ok (.i2l, 1) := by decide +kernel
theorem dL_play_8 : decode cL_play 8 = .ok (.lastore, 1) := by decide +kernel
theorem dL_play_9 : decode cL_play 9 = .ok (.goto 6, 3) := by decide +kernel
theorem dL_play_12 : decode cL_play 12 = .ok (.astore_n 3, 1) := by decide +kernel
theorem dL_play_13 : decode cL_play 13 = .ok (.iconst 1, 1) := by decide +kernel
theorem dL_play_14 : decode cL_play 14 = .ok (.ireturn, 1) := by decide +kernel
theorem dL_play_15 : decode cL_play 15 = .ok (.iconst 0, 1) := by decide +kernel
theorem dL_play_16 : decode cL_play 16 = .ok (.ireturn, 1) := by decide +kernel
theorem dL_uses_0 : decode cL_uses 0 = .ok (.aload_n 2, 1) := by decide +kernel
theorem dL_uses_1 : decode cL_uses 1 = .ok (.iconst 0, 1) := by decide +kernel
theorem dL_uses_2 : decode cL_uses 2 = .ok (.aload_n 0, 1) := by decide +kernel
theorem dL_uses_3 : decode cL_uses 3 = .ok (.iload_n 1, 1) := by decide +kernel
theorem dL_uses_4 : decode cL_uses 4 = .ok (.invokevirtual 121, 3) := by decide +kernel
theorem dL_uses_7 : decode cL_uses 7 = .ok (.i2l, 1) := by decide +kernel
theorem dL_uses_8 : decode cL_uses 8 = .ok (.lastore, 1) := by decide +kernel
theorem dL_uses_9 : decode cL_uses 9 = .ok (.goto 6, 3) := by decide +kernel
theorem dL_uses_12 : decode cL_uses 12 = .ok (.astore_n 3, 1) := by decide +kernel
theorem dL_uses_13 : decode cL_uses 13 = .ok (.iconst 1, 1) := by decide +kernel
theorem dL_uses_14 : decode cL_uses 14 = .ok (.ireturn, 1) := by decide +kernel
theorem dL_uses_15 : decode cL_uses 15 = .ok (.iconst 0, 1) := by decide +kernel
theorem dL_uses_16 : decode cL_uses 16 = .ok (.ireturn, 1) := by decide +kernel
theorem dL_paste_0 : decode cL_paste 0 = .ok (.aload_n 2, 1) := by decide +kernel
theorem dL_paste_1 : decode cL_paste 1 = .ok (.iconst 0, 1) := by decide +kernel
theorem dL_paste_2 : decode cL_paste 2 = .ok (.aload_n 0, 1) := by decide +kernel
theorem dL_paste_3 : decode cL_paste 3 = .ok (.iload_n 1, 1) := by decide +kernel
theorem dL_paste_4 : decode cL_paste 4 = .ok (.invokevirtual 124, 3) := by decide +kernel
theorem dL_paste_7 : decode cL_paste 7 = .ok (.i2l, 1) := by decide +kernel
theorem dL_paste_8 : decode cL_paste 8 = .ok (.lastore, 1) := by decide +kernel
theorem dL_paste_9 : decode cL_paste 9 = .ok (.goto 6, 3) := by decide +kernel
theorem dL_paste_12 : decode cL_paste 12 = .ok (.astore_n 3, 1) := by decide +kernel
theorem dL_paste_13 : decode cL_paste 13 = .ok (.iconst 1, 1) := by decide +kernel
theorem dL_paste_14 : decode cL_paste 14 = .ok (.ireturn, 1) := by decide +kernel
theorem dL_paste_15 : decode cL_paste 15 = .ok (.iconst 0, 1) := by decide +kernel
theorem dL_paste_16 : decode cL_paste 16 = .ok (.ireturn, 1) := by decide +kernel
theorem dL_seen_0 : decode cL_seen 0 = .ok (.aload 4, 2) := by decide +kernel
theorem dL_seen_2 : decode cL_seen 2 = .ok (.iconst 0, 1) := by decide +kernel
theorem dL_seen_3 : decode cL_seen 3 = .ok (.aload_n 0, 1) := by decide +kernel
theorem dL_seen_4 : decode cL_seen 4 = .ok (.iload_n 1, 1) := by decide +kernel
theorem dL_seen_5 : decode cL_seen 5 = .ok (.iload_n 2, 1) := by decide +kernel
theorem dL_seen_6 : decode cL_seen 6 = .ok (.iload_n 3, 1) := by decide +kernel
theorem dL_seen_7 : decode cL_seen 7 = .ok (.invokevirtual 127, 3) := by decide +kernel
theorem dL_seen_10 : decode cL_seen 10 = .ok (.i2l, 1) := by decide +kernel
theorem dL_seen_11 : decode cL_seen 11 = .ok (.lastore, 1) := by decide +kernel
theorem dL_seen_12 : decode cL_seen 12 = .ok (.goto 11, 3) := by decide +kernel
theorem dL_seen_15 : decode cL_seen 15 = .ok (.astore 5, 2) := by decide +kernel
theorem dL_seen_17 : decode cL_seen 17 = .ok (.iconst 1, 1) := by decide +kernel
theorem dL_seen_18 : decode cL_seen 18 = .ok (.ireturn, 1) := by decide +kernel
theorem dL_seen_19 : decode cL_seen 19 = .ok (.astore 5, 2) := by decide +kernel
theorem dL_seen_21 : decode cL_seen 21 = .ok (.iconst 2, 1) := by decide +kernel
theorem dL_seen_22 : decode cL_seen 22 = .ok (.ireturn, 1) := by decide +kernel
theorem dL_seen_23 : decode cL_seen 23 = .ok (.iconst 0, 1) := by decide +kernel
theorem dL_seen_24 : decode cL_seen 24 = .ok (.ireturn, 1) := by decide +kernel
theorem dL_guess_0 : decode cL_guess 0 = .ok (.aload_n 2, 1) := by decide +kernel
theorem dL_guess_1 : decode cL_guess 1 = .ok (.iconst 0, 1) := by decide +kernel
theorem dL_guess_2 : decode cL_guess 2 = .ok (.aload_n 0, 1) := by decide +kernel
theorem dL_guess_3 : decode cL_guess 3 = .ok (.iload_n 1, 1) := by decide +kernel
theorem dL_guess_4 : decode cL_guess 4 = .ok (.invokevirtual 130, 3) := by decide +kernel
theorem dL_guess_7 : decode cL_guess 7 = .ok (.i2l, 1) := by decide +kernel
theorem dL_guess_8 : decode cL_guess 8 = .ok (.lastore, 1) := by decide +kernel
theorem dL_guess_9 : decode cL_guess 9 = .ok (.goto 6, 3) := by decide +kernel
theorem dL_guess_12 : decode cL_guess 12 = .ok (.astore_n 3, 1) := by decide +kernel
theorem dL_guess_13 : decode cL_guess 13 = .ok (.iconst 1, 1) := by decide +kernel
theorem dL_guess_14 : decode cL_guess 14 = .ok (.ireturn, 1) := by decide +kernel
theorem dL_guess_15 : decode cL_guess 15 = .ok (.iconst 0, 1) := by decide +kernel
theorem dL_guess_16 : decode cL_guess 16 = .ok (.ireturn, 1) := by decide +kernel
