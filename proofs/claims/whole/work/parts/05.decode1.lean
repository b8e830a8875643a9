theorem dX0_beside_0 : decode cX0_beside 0 = .ok (.iload_n 0, 1) := by decide +kernel
theorem dX0_beside_1 : decode cX0_beside 1 = .ok (.ldc 11, 2) := by decide +kernel
theorem dX0_beside_3 : decode cX0_beside 3 = .ok (.iand, 1) := by decide +kernel
theorem dX0_beside_4 : decode cX0_beside 4 = .ok (.iconst 1, 1) := by decide +kernel
theorem dX0_beside_5 : decode cX0_beside 5 = .ok (.ishl, 1) := by decide +kernel
theorem dX0_beside_6 : decode cX0_beside 6 = .ok (.iload_n 0, 1) := by decide +kernel
theorem dX0_beside_7 : decode cX0_beside 7 = .ok (.ldc 12, 2) := by decide +kernel
theorem dX0_beside_9 : decode cX0_beside 9 = .ok (.iand, 1) := by decide +kernel
theorem dX0_beside_10 : decode cX0_beside 10 = .ok (.iconst 1, 1) := by decide +kernel
theorem dX0_beside_11 : decode cX0_beside 11 = .ok (.ishr, 1) := by decide +kernel
theorem dX0_beside_12 : decode cX0_beside 12 = .ok (.ior, 1) := by decide +kernel
theorem dX0_beside_13 : decode cX0_beside 13 = .ok (.istore_n 1, 1) := by decide +kernel
theorem dX0_beside_14 : decode cX0_beside 14 = .ok (.iload_n 1, 1) := by decide +kernel
theorem dX0_beside_15 : decode cX0_beside 15 = .ok (.iload_n 0, 1) := by decide +kernel
theorem dX0_beside_16 : decode cX0_beside 16 = .ok (.iconst 5, 1) := by decide +kernel
theorem dX0_beside_17 : decode cX0_beside 17 = .ok (.ishl, 1) := by decide +kernel
theorem dX0_beside_18 : decode cX0_beside 18 = .ok (.ior, 1) := by decide +kernel
theorem dX0_beside_19 : decode cX0_beside 19 = .ok (.iload_n 0, 1) := by decide +kernel
theorem dX0_beside_20 : decode cX0_beside 20 = .ok (.iconst 5, 1) := by decide +kernel
theorem dX0_beside_21 : decode cX0_beside 21 = .ok (.ishr, 1) := by decide +kernel
theorem dX0_beside_22 : decode cX0_beside 22 = .ok (.ior, 1) := by decide +kernel
theorem dX0_beside_23 : decode cX0_beside 23 = .ok (.ldc 13, 2) := by decide +kernel
theorem dX0_beside_25 : decode cX0_beside 25 = .ok (.iand, 1) := by decide +kernel
theorem dX0_beside_26 : decode cX0_beside 26 = .ok (.ireturn, 1) := by decide +kernel
theorem dX0_joined_0 : decode cX0_joined 0 = .ok (.iload_n 0, 1) := by decide +kernel
theorem dX0_joined_1 : decode cX0_joined 1 = .ok (.iload_n 1, 1) := by decide +kernel
theorem dX0_joined_2 : decode cX0_joined 2 = .ok (.iand, 1) := by decide +kernel
theorem dX0_joined_3 : decode cX0_joined 3 = .ok (.istore_n 2, 1) := by decide +kernel
theorem dX0_joined_4 : decode cX0_joined 4 = .ok (.iconst 0, 1) := by decide +kernel
theorem dX0_joined_5 : decode cX0_joined 5 = .ok (.istore_n 3, 1) := by decide +kernel
theorem dX0_joined_6 : decode cX0_joined 6 = .ok (.iload_n 3, 1) := by decide +kernel
theorem dX0_joined_7 : decode cX0_joined 7 = .ok (.bipush 25, 2) := by decide +kernel
theorem dX0_joined_9 : decode cX0_joined 9 = .ok (.if_icmp .ge 30, 3) := by decide +kernel
theorem dX0_joined_12 : decode cX0_joined 12 = .ok (.iload_n 2, 1) := by decide +kernel
theorem dX0_joined_13 : decode cX0_joined 13 = .ok (.iload_n 2, 1) := by decide +kernel
theorem dX0_joined_14 : decode cX0_joined 14 = .ok (.invokestatic 14, 3) := by decide +kernel
theorem dX0_joined_17 : decode cX0_joined 17 = .ok (.ior, 1) := by decide +kernel
theorem dX0_joined_18 : decode cX0_joined 18 = .ok (.iload_n 1, 1) := by decide +kernel
theorem dX0_joined_19 : decode cX0_joined 19 = .ok (.iand, 1) := by decide +kernel
theorem dX0_joined_20 : decode cX0_joined 20 = .ok (.istore 4, 2) := by decide +kernel
theorem dX0_joined_22 : decode cX0_joined 22 = .ok (.iload 4, 2) := by decide +kernel
theorem dX0_joined_24 : decode cX0_joined 24 = .ok (.iload_n 2, 1) := by decide +kernel
theorem dX0_joined_25 : decode cX0_joined 25 = .ok (.if_icmp .ne 5, 3) := by decide +kernel
theorem dX0_joined_28 : decode cX0_joined 28 = .ok (.iload_n 2, 1) := by decide +kernel
theorem dX0_joined_29 : decode cX0_joined 29 = .ok (.ireturn, 1) := by decide +kernel
theorem dX0_joined_30 : decode cX0_joined 30 = .ok (.iload 4, 2) := by decide +kernel
theorem dX0_joined_32 : decode cX0_joined 32 = .ok (.istore_n 2, 1) := by decide +kernel
theorem dX0_joined_33 : decode cX0_joined 33 = .ok (.iinc 3 1, 3) := by decide +kernel
theorem dX0_joined_36 : decode cX0_joined 36 = .ok (.goto (-30), 3) := by decide +kernel
theorem dX0_joined_39 : decode cX0_joined 39 = .ok (.iload_n 2, 1) := by decide +kernel
theorem dX0_joined_40 : decode cX0_joined 40 = .ok (.ireturn, 1) := by decide +kernel
theorem dX0_fallen_0 : decode cX0_fallen 0 = .ok (.iload_n 0, 1) := by decide +kernel
theorem dX0_fallen_1 : decode cX0_fallen 1 = .ok (.ldc 18, 2) := by decide +kernel
theorem dX0_fallen_3 : decode cX0_fallen 3 = .ok (.iload_n 0, 1) := by decide +kernel
theorem dX0_fallen_4 : decode cX0_fallen 4 = .ok (.invokestatic 19, 3) := by decide +kernel
theorem dX0_fallen_7 : decode cX0_fallen 7 = .ok (.iconst (-1), 1) := by decide +kernel
theorem dX0_fallen_8 : decode cX0_fallen 8 = .ok (.ixor, 1) := by decide +kernel
theorem dX0_fallen_9 : decode cX0_fallen 9 = .ok (.iand, 1) := by decide +kernel
theorem dX0_fallen_10 : decode cX0_fallen 10 = .ok (.ireturn, 1) := by decide +kernel
theorem dX0_partsOf_0 : decode cX0_partsOf 0 = .ok (.iload_n 0, 1) := by decide +kernel
theorem dX0_partsOf_1 : decode cX0_partsOf 1 = .ok (.istore_n 1, 1) := by decide +kernel
theorem dX0_partsOf_2 : decode cX0_partsOf 2 = .ok (.iconst 0, 1) := by decide +kernel
theorem dX0_partsOf_3 : decode cX0_partsOf 3 = .ok (.istore_n 2, 1) := by decide +kernel
theorem dX0_partsOf_4 : decode cX0_partsOf 4 = .ok (.iconst 0, 1) := by decide +kernel
theorem dX0_partsOf_5 : decode cX0_partsOf 5 = .ok (.istore_n 3, 1) := by decide +kernel
theorem dX0_partsOf_6 : decode cX0_partsOf 6 = .ok (.iload_n 3, 1) := by decide +kernel
theorem dX0_partsOf_7 : decode cX0_partsOf 7 = .ok (.bipush 25, 2) := by decide +kernel
theorem dX0_partsOf_9 : decode cX0_partsOf 9 = .ok (.if_icmp .ge 29, 3) := by decide +kernel
theorem dX0_partsOf_12 : decode cX0_partsOf 12 = .ok (.iload_n 1, 1) := by decide +kernel
theorem dX0_partsOf_13 : decode cX0_partsOf 13 = .ok (.ifCond .eq 25, 3) := by decide +kernel
theorem dX0_partsOf_16 : decode cX0_partsOf 16 = .ok (.iload_n 1, 1) := by decide +kernel
theorem dX0_partsOf_17 : decode cX0_partsOf 17 = .ok (.iload_n 1, 1) := by decide +kernel
theorem dX0_partsOf_18 : decode cX0_partsOf 18 = .ok (.iload_n 1, 1) := by decide +kernel
theorem dX0_partsOf_19 : decode cX0_partsOf 19 = .ok (.ineg, 1) := by decide +kernel
theorem dX0_partsOf_20 : decode cX0_partsOf 20 = .ok (.iand, 1) := by decide +kernel
theorem dX0_partsOf_21 : decode cX0_partsOf 21 = .ok (.iload_n 1, 1) := by decide +kernel
theorem dX0_partsOf_22 : decode cX0_partsOf 22 = .ok (.invokestatic 19, 3) := by decide +kernel
theorem dX0_partsOf_25 : decode cX0_partsOf 25 = .ok (.iconst (-1), 1) := by decide +kernel
theorem dX0_partsOf_26 : decode cX0_partsOf 26 = .ok (.ixor, 1) := by decide +kernel
theorem dX0_partsOf_27 : decode cX0_partsOf 27 = .ok (.iand, 1) := by decide +kernel
theorem dX0_partsOf_28 : decode cX0_partsOf 28 = .ok (.istore_n 1, 1) := by decide +kernel
theorem dX0_partsOf_29 : decode cX0_partsOf 29 = .ok (.iinc 2 1, 3) := by decide +kernel
theorem dX0_partsOf_32 : decode cX0_partsOf 32 = .ok (.iinc 3 1, 3) := by decide +kernel
theorem dX0_partsOf_35 : decode cX0_partsOf 35 = .ok (.goto (-29), 3) := by decide +kernel
theorem dX0_partsOf_38 : decode cX0_partsOf 38 = .ok (.iload_n 2, 1) := by decide +kernel
theorem dX0_partsOf_39 : decode cX0_partsOf 39 = .ok (.ireturn, 1) := by decide +kernel
theorem dX0_holders_0 : decode cX0_holders 0 = .ok (.iconst 0, 1) := by decide +kernel
theorem dX0_holders_1 : decode cX0_holders 1 = .ok (.istore_n 1, 1) := by decide +kernel
theorem dX0_holders_2 : decode cX0_holders 2 = .ok (.iload_n 1, 1) := by decide +kernel
theorem dX0_holders_3 : decode cX0_holders 3 = .ok (.iconst 4, 1) := by decide +kernel
theorem dX0_holders_4 : decode cX0_holders 4 = .ok (.if_icmp .gt 22, 3) := by decide +kernel
theorem dX0_holders_7 : decode cX0_holders 7 = .ok (.iload_n 1, 1) := by decide +kernel
theorem dX0_holders_8 : decode cX0_holders 8 = .ok (.iload_n 0, 1) := by decide +kernel
theorem dX0_holders_9 : decode cX0_holders 9 = .ok (.invokestatic 23, 3) := by decide +kernel
theorem dX0_holders_12 : decode cX0_holders 12 = .ok (.istore_n 2, 1) := by decide +kernel
theorem dX0_holders_13 : decode cX0_holders 13 = .ok (.iload_n 2, 1) := by decide +kernel
theorem dX0_holders_14 : decode cX0_holders 14 = .ok (.iconst (-1), 1) := by decide +kernel
theorem dX0_holders_15 : decode cX0_holders 15 = .ok (.if_icmp .eq 5, 3) := by decide +kernel
theorem dX0_holders_18 : decode cX0_holders 18 = .ok (.iload_n 2, 1) := by decide +kernel
theorem dX0_holders_19 : decode cX0_holders 19 = .ok (.ireturn, 1) := by decide +kernel
theorem dX0_holders_20 : decode cX0_holders 20 = .ok (.iinc 1 1, 3) := by decide +kernel
theorem dX0_holders_23 : decode cX0_holders 23 = .ok (.goto (-21), 3) := by decide +kernel
theorem dX0_holders_26 : decode cX0_holders 26 = .ok (.iconst (-1), 1) := by decide +kernel
theorem dX0_holders_27 : decode cX0_holders 27 = .ok (.ireturn, 1) := by decide +kernel
theorem dX0_holdersOf_0 : decode cX0_holdersOf 0 = .ok (.iconst 1, 1) := by decide +kernel
theorem dX0_holdersOf_1 : decode cX0_holdersOf 1 = .ok (.iload_n 0, 1) := by decide +kernel
theorem dX0_holdersOf_2 : decode cX0_holdersOf 2 = .ok (.ishl, 1) := by decide +kernel
theorem dX0_holdersOf_3 : decode cX0_holdersOf 3 = .ok (.iconst 1, 1) := by decide +kernel
theorem dX0_holdersOf_4 : decode cX0_holdersOf 4 = .ok (.isub, 1) := by decide +kernel
theorem dX0_holdersOf_5 : decode cX0_holdersOf 5 = .ok (.istore_n 2, 1) := by decide +kernel
theorem dX0_holdersOf_6 : decode cX0_holdersOf 6 = .ok (.iconst 0, 1) := by decide +kernel
theorem dX0_holdersOf_7 : decode cX0_holdersOf 7 = .ok (.istore_n 3, 1) := by decide +kernel
theorem dX0_holdersOf_8 : decode cX0_holdersOf 8 = .ok (.iload_n 3, 1) := by decide +kernel
theorem dX0_holdersOf_9 : decode cX0_holdersOf 9 = .ok (.sipush 12650, 3) := by decide +kernel
theorem dX0_holdersOf_12 : decode cX0_holdersOf 12 = .ok (.if_icmp .ge 46, 3) := by decide +kernel
theorem dX0_holdersOf_15 : decode cX0_holdersOf 15 = .ok (.iload_n 2, 1) := by decide +kernel
theorem dX0_holdersOf_16 : decode cX0_holdersOf 16 = .ok (.ldc 13, 2) := by decide +kernel
theorem dX0_holdersOf_18 : decode cX0_holdersOf 18 = .ok (.if_icmp .gt 40, 3) := by decide +kernel
theorem dX0_holdersOf_21 : decode cX0_holdersOf 21 = .ok (.iload_n 2, 1) := by decide +kernel
theorem dX0_holdersOf_22 : decode cX0_holdersOf 22 = .ok (.iload_n 1, 1) := by decide +kernel
theorem dX0_holdersOf_23 : decode cX0_holdersOf 23 = .ok (.ldc 26, 2) := by decide +kernel
theorem dX0_holdersOf_25 : decode cX0_holdersOf 25 = .ok (.ior, 1) := by decide +kernel
theorem dX0_holdersOf_26 : decode cX0_holdersOf 26 = .ok (.iand, 1) := by decide +kernel
theorem dX0_holdersOf_27 : decode cX0_holdersOf 27 = .ok (.ifCond .ne 14, 3) := by decide +kernel
theorem dX0_holdersOf_30 : decode cX0_holdersOf 30 = .ok (.iload_n 1, 1) := by decide +kernel
theorem dX0_holdersOf_31 : decode cX0_holdersOf 31 = .ok (.iload_n 2, 1) := by decide +kernel
theorem dX0_holdersOf_32 : decode cX0_holdersOf 32 = .ok (.ior, 1) := by decide +kernel
theorem dX0_holdersOf_33 : decode cX0_holdersOf 33 = .ok (.invokestatic 27, 3) := by decide +kernel
theorem dX0_holdersOf_36 : decode cX0_holdersOf 36 = .ok (.ifCond .ne 5, 3) := by decide +kernel
theorem dX0_holdersOf_39 : decode cX0_holdersOf 39 = .ok (.iload_n 2, 1) := by decide +kernel
theorem dX0_holdersOf_40 : decode cX0_holdersOf 40 = .ok (.ireturn, 1) := by decide +kernel
theorem dX0_holdersOf_41 : decode cX0_holdersOf 41 = .ok (.iload_n 2, 1) := by decide +kernel
theorem dX0_holdersOf_42 : decode cX0_holdersOf 42 = .ok (.ifCond .ne 5, 3) := by decide +kernel
theorem dX0_holdersOf_45 : decode cX0_holdersOf 45 = .ok (.iconst (-1), 1) := by decide +kernel
theorem dX0_holdersOf_46 : decode cX0_holdersOf 46 = .ok (.ireturn, 1) := by decide +kernel
theorem dX0_holdersOf_47 : decode cX0_holdersOf 47 = .ok (.iload_n 2, 1) := by decide +kernel
theorem dX0_holdersOf_48 : decode cX0_holdersOf 48 = .ok (.invokestatic 30, 3) := by decide +kernel
theorem dX0_holdersOf_51 : decode cX0_holdersOf 51 = .ok (.istore_n 2, 1) := by decide +kernel
theorem dX0_holdersOf_52 : decode cX0_holdersOf 52 = .ok (.iinc 3 1, 3) := by decide +kernel
theorem dX0_holdersOf_55 : decode cX0_holdersOf 55 = .ok (.goto (-47), 3) := by decide +kernel
theorem dX0_holdersOf_58 : decode cX0_holdersOf 58 = .ok (.iconst (-1), 1) := by decide +kernel
theorem dX0_holdersOf_59 : decode cX0_holdersOf 59 = .ok (.ireturn, 1) := by decide +kernel
theorem dX0_nextOfAsManyBits_0 : decode cX0_nextOfAsManyBits 0 = .ok (.iload_n 0, 1) := by decide +kernel
theorem dX0_nextOfAsManyBits_1 : decode cX0_nextOfAsManyBits 1 = .ok (.iload_n 0, 1) := by decide +kernel
theorem dX0_nextOfAsManyBits_2 : decode cX0_nextOfAsManyBits 2 = .ok (.ineg, 1) := by decide +kernel
theorem dX0_nextOfAsManyBits_3 : decode cX0_nextOfAsManyBits 3 = .ok (.iand, 1) := by decide +kernel
theorem dX0_nextOfAsManyBits_4 : decode cX0_nextOfAsManyBits 4 = .ok (.istore_n 1, 1) := by decide +kernel
theorem dX0_nextOfAsManyBits_5 : decode cX0_nextOfAsManyBits 5 = .ok (.iload_n 0, 1) := by decide +kernel
theorem dX0_nextOfAsManyBits_6 : decode cX0_nextOfAsManyBits 6 = .ok (.iload_n 1, 1) := by decide +kernel
theorem dX0_nextOfAsManyBits_7 : decode cX0_nextOfAsManyBits 7 = .ok (.iadd, 1) := by decide +kernel
theorem dX0_nextOfAsManyBits_8 : decode cX0_nextOfAsManyBits 8 = .ok (.istore_n 2, 1) := by decide +kernel
theorem dX0_nextOfAsManyBits_9 : decode cX0_nextOfAsManyBits 9 = .ok (.iload_n 0, 1) := by decide +kernel
theorem dX0_nextOfAsManyBits_10 : decode cX0_nextOfAsManyBits 10 = .ok (.iload_n 2, 1) := by decide +kernel
theorem dX0_nextOfAsManyBits_11 : decode cX0_nextOfAsManyBits 11 = .ok (.iconst (-1), 1) := by decide +kernel
theorem dX0_nextOfAsManyBits_12 : decode cX0_nextOfAsManyBits 12 = .ok (.ixor, 1) := by decide +kernel
theorem dX0_nextOfAsManyBits_13 : decode cX0_nextOfAsManyBits 13 = .ok (.iand, 1) := by decide +kernel
theorem dX0_nextOfAsManyBits_14 : decode cX0_nextOfAsManyBits 14 = .ok (.invokestatic 33, 3) := by decide +kernel
theorem dX0_nextOfAsManyBits_17 : decode cX0_nextOfAsManyBits 17 = .ok (.iconst 1, 1) := by decide +kernel
theorem dX0_nextOfAsManyBits_18 : decode cX0_nextOfAsManyBits 18 = .ok (.isub, 1) := by decide +kernel
theorem dX0_nextOfAsManyBits_19 : decode cX0_nextOfAsManyBits 19 = .ok (.istore_n 3, 1) := by decide +kernel
theorem dX0_nextOfAsManyBits_20 : decode cX0_nextOfAsManyBits 20 = .ok (.iload_n 2, 1) := by decide +kernel
theorem dX0_nextOfAsManyBits_21 : decode cX0_nextOfAsManyBits 21 = .ok (.iconst 1, 1) := by decide +kernel
theorem dX0_nextOfAsManyBits_22 : decode cX0_nextOfAsManyBits 22 = .ok (.iload_n 3, 1) := by decide +kernel
theorem dX0_nextOfAsManyBits_23 : decode cX0_nextOfAsManyBits 23 = .ok (.ishl, 1) := by decide +kernel
theorem dX0_nextOfAsManyBits_24 : decode cX0_nextOfAsManyBits 24 = .ok (.iconst 1, 1) := by decide +kernel
theorem dX0_nextOfAsManyBits_25 : decode cX0_nextOfAsManyBits 25 = .ok (.isub, 1) := by decide +kernel
theorem dX0_nextOfAsManyBits_26 : decode cX0_nextOfAsManyBits 26 = .ok (.ior, 1) := by decide +kernel
theorem dX0_nextOfAsManyBits_27 : decode cX0_nextOfAsManyBits 27 = .ok (.ireturn, 1) := by decide +kernel
theorem dX0_frayCell_0 : decode cX0_frayCell 0 = .ok (.iload_n 0, 1) := by decide +kernel
theorem dX0_frayCell_1 : decode cX0_frayCell 1 = .ok (.ldc 13, 2) := by decide +kernel
theorem dX0_frayCell_3 : decode cX0_frayCell 3 = .ok (.iload_n 0, 1) := by decide +kernel
theorem dX0_frayCell_4 : decode cX0_frayCell 4 = .ok (.iconst (-1), 1) := by decide +kernel
theorem dX0_frayCell_5 : decode cX0_frayCell 5 = .ok (.ixor, 1) := by decide +kernel
theorem dX0_frayCell_6 : decode cX0_frayCell 6 = .ok (.iand, 1) := by decide +kernel
theorem dX0_frayCell_7 : decode cX0_frayCell 7 = .ok (.invokestatic 14, 3) := by decide +kernel
theorem dX0_frayCell_10 : decode cX0_frayCell 10 = .ok (.iand, 1) := by decide +kernel
theorem dX0_frayCell_11 : decode cX0_frayCell 11 = .ok (.istore_n 1, 1) := by decide +kernel
theorem dX0_frayCell_12 : decode cX0_frayCell 12 = .ok (.iload_n 1, 1) := by decide +kernel
theorem dX0_frayCell_13 : decode cX0_frayCell 13 = .ok (.iload_n 1, 1) := by decide +kernel
theorem dX0_frayCell_14 : decode cX0_frayCell 14 = .ok (.ineg, 1) := by decide +kernel
theorem dX0_frayCell_15 : decode cX0_frayCell 15 = .ok (.iand, 1) := by decide +kernel
theorem dX0_frayCell_16 : decode cX0_frayCell 16 = .ok (.ireturn, 1) := by decide +kernel
theorem dX0_fraysTillFallen_0 : decode cX0_fraysTillFallen 0 = .ok (.iload_n 0, 1) := by decide +kernel
theorem dX0_fraysTillFallen_1 : decode cX0_fraysTillFallen 1 = .ok (.istore_n 1, 1) := by decide +kernel
theorem dX0_fraysTillFallen_2 : decode cX0_fraysTillFallen 2 = .ok (.iconst 0, 1) := by decide +kernel
theorem dX0_fraysTillFallen_3 : decode cX0_fraysTillFallen 3 = .ok (.istore_n 2, 1) := by decide +kernel
theorem dX0_fraysTillFallen_4 : decode cX0_fraysTillFallen 4 = .ok (.iload_n 2, 1) := by decide +kernel
theorem dX0_fraysTillFallen_5 : decode cX0_fraysTillFallen 5 = .ok (.bipush 25, 2) := by decide +kernel
theorem dX0_fraysTillFallen_7 : decode cX0_fraysTillFallen 7 = .ok (.if_icmp .gt 35, 3) := by decide +kernel
theorem dX0_fraysTillFallen_10 : decode cX0_fraysTillFallen 10 = .ok (.iload_n 1, 1) := by decide +kernel
theorem dX0_fraysTillFallen_11 : decode cX0_fraysTillFallen 11 = .ok (.invokestatic 27, 3) := by decide +kernel
theorem dX0_fraysTillFallen_14 : decode cX0_fraysTillFallen 14 = .ok (.ifCond .eq 5, 3) := by decide +kernel
theorem dX0_fraysTillFallen_17 : decode cX0_fraysTillFallen 17 = .ok (.iload_n 2, 1) := by decide +kernel
theorem dX0_fraysTillFallen_18 : decode cX0_fraysTillFallen 18 = .ok (.ireturn, 1) := by decide +kernel
theorem dX0_fraysTillFallen_19 : decode cX0_fraysTillFallen 19 = .ok (.iload_n 1, 1) := by decide +kernel
theorem dX0_fraysTillFallen_20 : decode cX0_fraysTillFallen 20 = .ok (.invokestatic 38, 3) := by decide +kernel
theorem dX0_fraysTillFallen_23 : decode cX0_fraysTillFallen 23 = .ok (.istore_n 3, 1) := by decide +kernel
theorem dX0_fraysTillFallen_24 : decode cX0_fraysTillFallen 24 = .ok (.iload_n 3, 1) := by decide +kernel
theorem dX0_fraysTillFallen_25 : decode cX0_fraysTillFallen 25 = .ok (.ifCond .ne 5, 3) := by decide +kernel
theorem dX0_fraysTillFallen_28 : decode cX0_fraysTillFallen 28 = .ok (.iconst (-1), 1) := by decide +kernel
theorem dX0_fraysTillFallen_29 : decode cX0_fraysTillFallen 29 = .ok (.ireturn, 1) := by decide +kernel
theorem dX0_fraysTillFallen_30 : decode cX0_fraysTillFallen 30 = .ok (.iload_n 1, 1) := by decide +kernel
theorem dX0_fraysTillFallen_31 : decode cX0_fraysTillFallen 31 = .ok (.iload_n 3, 1) := by decide +kernel
theorem dX0_fraysTillFallen_32 : decode cX0_fraysTillFallen 32 = .ok (.iconst (-1), 1) := by decide +kernel
theorem dX0_fraysTillFallen_33 : decode cX0_fraysTillFallen 33 = .ok (.ixor, 1) := by decide +kernel
theorem dX0_fraysTillFallen_34 : decode cX0_fraysTillFallen 34 = .ok (.iand, 1) := by decide +kernel
theorem dX0_fraysTillFallen_35 : decode cX0_fraysTillFallen 35 = .ok (.istore_n 1, 1) := by decide +kernel
theorem dX0_fraysTillFallen_36 : decode cX0_fraysTillFallen 36 = .ok (.iinc 2 1, 3) := by decide +kernel
theorem dX0_fraysTillFallen_39 : decode cX0_fraysTillFallen 39 = .ok (.goto (-35), 3) := by decide +kernel
theorem dX0_fraysTillFallen_42 : decode cX0_fraysTillFallen 42 = .ok (.iconst (-1), 1) := by decide +kernel
theorem dX0_fraysTillFallen_43 : decode cX0_fraysTillFallen 43 = .ok (.ireturn, 1) := by decide +kernel
theorem dX0_box_0 : decode cX0_box 0 = .ok (.iconst 1, 1) := by decide +kernel
theorem dX0_box_1 : decode cX0_box 1 = .ok (.iload_n 2, 1) := by decide +kernel
theorem dX0_box_2 : decode cX0_box 2 = .ok (.ishl, 1) := by decide +kernel
theorem dX0_box_3 : decode cX0_box 3 = .ok (.iconst 1, 1) := by decide +kernel
theorem dX0_box_4 : decode cX0_box 4 = .ok (.isub, 1) := by decide +kernel
theorem dX0_box_5 : decode cX0_box 5 = .ok (.iload_n 0, 1) := by decide +kernel
theorem dX0_box_6 : decode cX0_box 6 = .ok (.ishl, 1) := by decide +kernel
theorem dX0_box_7 : decode cX0_box 7 = .ok (.istore 4, 2) := by decide +kernel
theorem dX0_box_9 : decode cX0_box 9 = .ok (.iconst 0, 1) := by decide +kernel
theorem dX0_box_10 : decode cX0_box 10 = .ok (.istore 5, 2) := by decide +kernel
theorem dX0_box_12 : decode cX0_box 12 = .ok (.iload_n 1, 1) := by decide +kernel
theorem dX0_box_13 : decode cX0_box 13 = .ok (.istore 6, 2) := by decide +kernel
theorem dX0_box_15 : decode cX0_box 15 = .ok (.iload 6, 2) := by decide +kernel
theorem dX0_box_17 : decode cX0_box 17 = .ok (.iload_n 1, 1) := by decide +kernel
theorem dX0_box_18 : decode cX0_box 18 = .ok (.iload_n 3, 1) := by decide +kernel
theorem dX0_box_19 : decode cX0_box 19 = .ok (.iadd, 1) := by decide +kernel
theorem dX0_box_20 : decode cX0_box 20 = .ok (.if_icmp .ge 21, 3) := by decide +kernel
theorem dX0_box_23 : decode cX0_box 23 = .ok (.iload 5, 2) := by decide +kernel
theorem dX0_box_25 : decode cX0_box 25 = .ok (.iload 4, 2) := by decide +kernel
theorem dX0_box_27 : decode cX0_box 27 = .ok (.iconst 5, 1) := by decide +kernel
theorem dX0_box_28 : decode cX0_box 28 = .ok (.iload 6, 2) := by decide +kernel
theorem dX0_box_30 : decode cX0_box 30 = .ok (.imul, 1) := by decide +kernel
theorem dX0_box_31 : decode cX0_box 31 = .ok (.ishl, 1) := by decide +kernel
theorem dX0_box_32 : decode cX0_box 32 = .ok (.ior, 1) := by decide +kernel
theorem dX0_box_33 : decode cX0_box 33 = .ok (.istore 5, 2) := by decide +kernel
theorem dX0_box_35 : decode cX0_box 35 = .ok (.iinc 6 1, 3) := by decide +kernel
theorem dX0_box_38 : decode cX0_box 38 = .ok (.goto (-23), 3) := by decide +kernel
theorem dX0_box_41 : decode cX0_box 41 = .ok (.iload 5, 2) := by decide +kernel
theorem dX0_box_43 : decode cX0_box 43 = .ok (.ireturn, 1) := by decide +kernel
theorem dX0_turned_0 : decode cX0_turned 0 = .ok (.iconst 0, 1) := by decide +kernel
theorem dX0_turned_1 : decode cX0_turned 1 = .ok (.istore_n 1, 1) := by decide +kernel
theorem dX0_turned_2 : decode cX0_turned 2 = .ok (.iconst 0, 1) := by decide +kernel
theorem dX0_turned_3 : decode cX0_turned 3 = .ok (.istore_n 2, 1) := by decide +kernel
theorem dX0_turned_4 : decode cX0_turned 4 = .ok (.iload_n 2, 1) := by decide +kernel
theorem dX0_turned_5 : decode cX0_turned 5 = .ok (.iconst 5, 1) := by decide +kernel
theorem dX0_turned_6 : decode cX0_turned 6 = .ok (.if_icmp .ge 42, 3) := by decide +kernel
theorem dX0_turned_9 : decode cX0_turned 9 = .ok (.iconst 0, 1) := by decide +kernel
theorem dX0_turned_10 : decode cX0_turned 10 = .ok (.istore_n 3, 1) := by decide +kernel
theorem dX0_turned_11 : decode cX0_turned 11 = .ok (.iload_n 3, 1) := by decide +kernel
theorem dX0_turned_12 : decode cX0_turned 12 = .ok (.iconst 5, 1) := by decide +kernel
theorem dX0_turned_13 : decode cX0_turned 13 = .ok (.if_icmp .ge 29, 3) := by decide +kernel
theorem dX0_turned_16 : decode cX0_turned 16 = .ok (.iload_n 1, 1) := by decide +kernel
theorem dX0_turned_17 : decode cX0_turned 17 = .ok (.iload_n 0, 1) := by decide +kernel
theorem dX0_turned_18 : decode cX0_turned 18 = .ok (.iconst 5, 1) := by decide +kernel
theorem dX0_turned_19 : decode cX0_turned 19 = .ok (.iconst 4, 1) := by decide +kernel
theorem dX0_turned_20 : decode cX0_turned 20 = .ok (.iload_n 3, 1) := by decide +kernel
theorem dX0_turned_21 : decode cX0_turned 21 = .ok (.isub, 1) := by decide +kernel
theorem dX0_turned_22 : decode cX0_turned 22 = .ok (.imul, 1) := by decide +kernel
theorem dX0_turned_23 : decode cX0_turned 23 = .ok (.iload_n 2, 1) := by decide +kernel
theorem dX0_turned_24 : decode cX0_turned 24 = .ok (.iadd, 1) := by decide +kernel
theorem dX0_turned_25 : decode cX0_turned 25 = .ok (.ishr, 1) := by decide +kernel
theorem dX0_turned_26 : decode cX0_turned 26 = .ok (.iconst 1, 1) := by decide +kernel
theorem dX0_turned_27 : decode cX0_turned 27 = .ok (.iand, 1) := by decide +kernel
theorem dX0_turned_28 : decode cX0_turned 28 = .ok (.iconst 5, 1) := by decide +kernel
theorem dX0_turned_29 : decode cX0_turned 29 = .ok (.iload_n 2, 1) := by decide +kernel
theorem dX0_turned_30 : decode cX0_turned 30 = .ok (.imul, 1) := by decide +kernel
theorem dX0_turned_31 : decode cX0_turned 31 = .ok (.iload_n 3, 1) := by decide +kernel
theorem dX0_turned_32 : decode cX0_turned 32 = .ok (.iadd, 1) := by decide +kernel
theorem dX0_turned_33 : decode cX0_turned 33 = .ok (.ishl, 1) := by decide +kernel
theorem dX0_turned_34 : decode cX0_turned 34 = .ok (.ior, 1) := by decide +kernel
theorem dX0_turned_35 : decode cX0_turned 35 = .ok (.istore_n 1, 1) := by decide +kernel
theorem dX0_turned_36 : decode cX0_turned 36 = .ok (.iinc 3 1, 3) := by decide +kernel
theorem dX0_turned_39 : decode cX0_turned 39 = .ok (.goto (-28), 3) := by decide +kernel
theorem dX0_turned_42 : decode cX0_turned 42 = .ok (.iinc 2 1, 3) := by decide +kernel
theorem dX0_turned_45 : decode cX0_turned 45 = .ok (.goto (-41), 3) := by decide +kernel
theorem dX0_turned_48 : decode cX0_turned 48 = .ok (.iload_n 1, 1) := by decide +kernel
theorem dX0_turned_49 : decode cX0_turned 49 = .ok (.ireturn, 1) := by decide +kernel
theorem dX0_flipped_0 : decode cX0_flipped 0 = .ok (.iconst 0, 1) := by decide +kernel
theorem dX0_flipped_1 : decode cX0_flipped 1 = .ok (.istore_n 1, 1) := by decide +kernel
theorem dX0_flipped_2 : decode cX0_flipped 2 = .ok (.iconst 0, 1) := by decide +kernel
theorem dX0_flipped_3 : decode cX0_flipped 3 = .ok (.istore_n 2, 1) := by decide +kernel
theorem dX0_flipped_4 : decode cX0_flipped 4 = .ok (.iload_n 2, 1) := by decide +kernel
theorem dX0_flipped_5 : decode cX0_flipped 5 = .ok (.iconst 5, 1) := by decide +kernel
theorem dX0_flipped_6 : decode cX0_flipped 6 = .ok (.if_icmp .ge 22, 3) := by decide +kernel
theorem dX0_flipped_9 : decode cX0_flipped 9 = .ok (.iload_n 1, 1) := by decide +kernel
theorem dX0_flipped_10 : decode cX0_flipped 10 = .ok (.iload_n 0, 1) := by decide +kernel
theorem dX0_flipped_11 : decode cX0_flipped 11 = .ok (.iconst 4, 1) := by decide +kernel
theorem dX0_flipped_12 : decode cX0_flipped 12 = .ok (.iload_n 2, 1) := by decide +kernel
theorem dX0_flipped_13 : decode cX0_flipped 13 = .ok (.isub, 1) := by decide +kernel
theorem dX0_flipped_14 : decode cX0_flipped 14 = .ok (.ishr, 1) := by decide +kernel
theorem dX0_flipped_15 : decode cX0_flipped 15 = .ok (.ldc 41, 2) := by decide +kernel
theorem dX0_flipped_17 : decode cX0_flipped 17 = .ok (.iand, 1) := by decide +kernel
theorem dX0_flipped_18 : decode cX0_flipped 18 = .ok (.iload_n 2, 1) := by decide +kernel
theorem dX0_flipped_19 : decode cX0_flipped 19 = .ok (.ishl, 1) := by decide +kernel
theorem dX0_flipped_20 : decode cX0_flipped 20 = .ok (.ior, 1) := by decide +kernel
theorem dX0_flipped_21 : decode cX0_flipped 21 = .ok (.istore_n 1, 1) := by decide +kernel
theorem dX0_flipped_22 : decode cX0_flipped 22 = .ok (.iinc 2 1, 3) := by decide +kernel
theorem dX0_flipped_25 : decode cX0_flipped 25 = .ok (.goto (-21), 3) := by decide +kernel
theorem dX0_flipped_28 : decode cX0_flipped 28 = .ok (.iload_n 1, 1) := by decide +kernel
theorem dX0_flipped_29 : decode cX0_flipped 29 = .ok (.ireturn, 1) := by decide +kernel
theorem dX0_fewestStrokes_0 : decode cX0_fewestStrokes 0 = .ok (.iload_n 0, 1) := by decide +kernel
theorem dX0_fewestStrokes_1 : decode cX0_fewestStrokes 1 = .ok (.iload_n 1, 1) := by decide +kernel
theorem dX0_fewestStrokes_2 : decode cX0_fewestStrokes 2 = .ok (.if_icmp .ne 5, 3) := by decide +kernel
theorem dX0_fewestStrokes_5 : decode cX0_fewestStrokes 5 = .ok (.iconst 0, 1) := by decide +kernel
theorem dX0_fewestStrokes_6 : decode cX0_fewestStrokes 6 = .ok (.ireturn, 1) := by decide +kernel
theorem dX0_fewestStrokes_7 : decode cX0_fewestStrokes 7 = .ok (.iload_n 1, 1) := by decide +kernel
theorem dX0_fewestStrokes_8 : decode cX0_fewestStrokes 8 = .ok (.invokestatic 42, 3) := by decide +kernel
theorem dX0_fewestStrokes_11 : decode cX0_fewestStrokes 11 = .ok (.invokestatic 42, 3) := by decide +kernel
theorem dX0_fewestStrokes_14 : decode cX0_fewestStrokes 14 = .ok (.invokestatic 42, 3) := by decide +kernel
theorem dX0_fewestStrokes_17 : decode cX0_fewestStrokes 17 = .ok (.istore_n 2, 1) := by decide +kernel
theorem dX0_fewestStrokes_18 : decode cX0_fewestStrokes 18 = .ok (.iload_n 1, 1) := by decide +kernel
theorem dX0_fewestStrokes_19 : decode cX0_fewestStrokes 19 = .ok (.invokestatic 45, 3) := by decide +kernel
theorem dX0_fewestStrokes_22 : decode cX0_fewestStrokes 22 = .ok (.istore_n 3, 1) := by decide +kernel
theorem dX0_fewestStrokes_23 : decode cX0_fewestStrokes 23 = .ok (.iload_n 0, 1) := by decide +kernel
theorem dX0_fewestStrokes_24 : decode cX0_fewestStrokes 24 = .ok (.iload_n 1, 1) := by decide +kernel
theorem dX0_fewestStrokes_25 : decode cX0_fewestStrokes 25 = .ok (.iload_n 2, 1) := by decide +kernel
theorem dX0_fewestStrokes_26 : decode cX0_fewestStrokes 26 = .ok (.iload_n 3, 1) := by decide +kernel
theorem dX0_fewestStrokes_27 : decode cX0_fewestStrokes 27 = .ok (.invokestatic 48, 3) := by decide +kernel
theorem dX0_fewestStrokes_30 : decode cX0_fewestStrokes 30 = .ok (.ifCond .eq 5, 3) := by decide +kernel
theorem dX0_fewestStrokes_33 : decode cX0_fewestStrokes 33 = .ok (.iconst 1, 1) := by decide +kernel
theorem dX0_fewestStrokes_34 : decode cX0_fewestStrokes 34 = .ok (.ireturn, 1) := by decide +kernel
theorem dX0_fewestStrokes_35 : decode cX0_fewestStrokes 35 = .ok (.iload_n 0, 1) := by decide +kernel
theorem dX0_fewestStrokes_36 : decode cX0_fewestStrokes 36 = .ok (.invokestatic 42, 3) := by decide +kernel
theorem dX0_fewestStrokes_39 : decode cX0_fewestStrokes 39 = .ok (.iload_n 1, 1) := by decide +kernel
theorem dX0_fewestStrokes_40 : decode cX0_fewestStrokes 40 = .ok (.iload_n 2, 1) := by decide +kernel
theorem dX0_fewestStrokes_41 : decode cX0_fewestStrokes 41 = .ok (.iload_n 3, 1) := by decide +kernel
theorem dX0_fewestStrokes_42 : decode cX0_fewestStrokes 42 = .ok (.invokestatic 48, 3) := by decide +kernel
theorem dX0_fewestStrokes_45 : decode cX0_fewestStrokes 45 = .ok (.ifCond .ne 16, 3) := by decide +kernel
theorem dX0_fewestStrokes_48 : decode cX0_fewestStrokes 48 = .ok (.iload_n 0, 1) := by decide +kernel
theorem dX0_fewestStrokes_49 : decode cX0_fewestStrokes 49 = .ok (.invokestatic 45, 3) := by decide +kernel
theorem dX0_fewestStrokes_52 : decode cX0_fewestStrokes 52 = .ok (.iload_n 1, 1) := by decide +kernel
theorem dX0_fewestStrokes_53 : decode cX0_fewestStrokes 53 = .ok (.iload_n 2, 1) := by decide +kernel
theorem dX0_fewestStrokes_54 : decode cX0_fewestStrokes 54 = .ok (.iload_n 3, 1) := by decide +kernel
theorem dX0_fewestStrokes_55 : decode cX0_fewestStrokes 55 = .ok (.invokestatic 48, 3) := by decide +kernel
theorem dX0_fewestStrokes_58 : decode cX0_fewestStrokes 58 = .ok (.ifCond .eq 5, 3) := by decide +kernel
theorem dX0_fewestStrokes_61 : decode cX0_fewestStrokes 61 = .ok (.iconst 2, 1) := by decide +kernel
theorem dX0_fewestStrokes_62 : decode cX0_fewestStrokes 62 = .ok (.ireturn, 1) := by decide +kernel
theorem dX0_fewestStrokes_63 : decode cX0_fewestStrokes 63 = .ok (.iconst 0, 1) := by decide +kernel
theorem dX0_fewestStrokes_64 : decode cX0_fewestStrokes 64 = .ok (.istore 4, 2) := by decide +kernel
theorem dX0_fewestStrokes_66 : decode cX0_fewestStrokes 66 = .ok (.iload 4, 2) := by decide +kernel
theorem dX0_fewestStrokes_68 : decode cX0_fewestStrokes 68 = .ok (.iconst 5, 1) := by decide +kernel
theorem dX0_fewestStrokes_69 : decode cX0_fewestStrokes 69 = .ok (.if_icmp .ge 43, 3) := by decide +kernel
theorem dX0_fewestStrokes_72 : decode cX0_fewestStrokes 72 = .ok (.iconst 1, 1) := by decide +kernel
theorem dX0_fewestStrokes_73 : decode cX0_fewestStrokes 73 = .ok (.istore 5, 2) := by decide +kernel
theorem dX0_fewestStrokes_75 : decode cX0_fewestStrokes 75 = .ok (.iload 5, 2) := by decide +kernel
theorem dX0_fewestStrokes_77 : decode cX0_fewestStrokes 77 = .ok (.iconst 5, 1) := by decide +kernel
theorem dX0_fewestStrokes_78 : decode cX0_fewestStrokes 78 = .ok (.iload 4, 2) := by decide +kernel
theorem dX0_fewestStrokes_80 : decode cX0_fewestStrokes 80 = .ok (.isub, 1) := by decide +kernel
theorem dX0_fewestStrokes_81 : decode cX0_fewestStrokes 81 = .ok (.if_icmp .gt 25, 3) := by decide +kernel
theorem dX0_fewestStrokes_84 : decode cX0_fewestStrokes 84 = .ok (.iload_n 0, 1) := by decide +kernel
theorem dX0_fewestStrokes_85 : decode cX0_fewestStrokes 85 = .ok (.iload_n 1, 1) := by decide +kernel
theorem dX0_fewestStrokes_86 : decode cX0_fewestStrokes 86 = .ok (.iload 4, 2) := by decide +kernel
theorem dX0_fewestStrokes_88 : decode cX0_fewestStrokes 88 = .ok (.iload 5, 2) := by decide +kernel
theorem dX0_fewestStrokes_90 : decode cX0_fewestStrokes 90 = .ok (.iload_n 2, 1) := by decide +kernel
theorem dX0_fewestStrokes_91 : decode cX0_fewestStrokes 91 = .ok (.iload_n 3, 1) := by decide +kernel
theorem dX0_fewestStrokes_92 : decode cX0_fewestStrokes 92 = .ok (.invokestatic 52, 3) := by decide +kernel
theorem dX0_fewestStrokes_95 : decode cX0_fewestStrokes 95 = .ok (.ifCond .eq 5, 3) := by decide +kernel
theorem dX0_fewestStrokes_98 : decode cX0_fewestStrokes 98 = .ok (.iconst 2, 1) := by decide +kernel
theorem dX0_fewestStrokes_99 : decode cX0_fewestStrokes 99 = .ok (.ireturn, 1) := by decide +kernel
theorem dX0_fewestStrokes_100 : decode cX0_fewestStrokes 100 = .ok (.iinc 5 1, 3) := by decide +kernel
theorem dX0_fewestStrokes_103 : decode cX0_fewestStrokes 103 = .ok (.goto (-28), 3) := by decide +kernel
theorem dX0_fewestStrokes_106 : decode cX0_fewestStrokes 106 = .ok (.iinc 4 1, 3) := by decide +kernel
theorem dX0_fewestStrokes_109 : decode cX0_fewestStrokes 109 = .ok (.goto (-43), 3) := by decide +kernel
theorem dX0_fewestStrokes_112 : decode cX0_fewestStrokes 112 = .ok (.iconst (-1), 1) := by decide +kernel
theorem dX0_fewestStrokes_113 : decode cX0_fewestStrokes 113 = .ok (.ireturn, 1) := by decide +kernel
theorem dX0_byBoxOfLines_0 : decode cX0_byBoxOfLines 0 = .ok (.iconst 0, 1) := by decide +kernel
theorem dX0_byBoxOfLines_1 : decode cX0_byBoxOfLines 1 = .ok (.istore 6, 2) := by decide +kernel
theorem dX0_byBoxOfLines_3 : decode cX0_byBoxOfLines 3 = .ok (.iload 6, 2) := by decide +kernel
theorem dX0_byBoxOfLines_5 : decode cX0_byBoxOfLines 5 = .ok (.iconst 5, 1) := by decide +kernel
theorem dX0_byBoxOfLines_6 : decode cX0_byBoxOfLines 6 = .ok (.if_icmp .ge 72, 3) := by decide +kernel
theorem dX0_byBoxOfLines_9 : decode cX0_byBoxOfLines 9 = .ok (.iconst 1, 1) := by decide +kernel
theorem dX0_byBoxOfLines_10 : decode cX0_byBoxOfLines 10 = .ok (.istore 7, 2) := by decide +kernel
theorem dX0_byBoxOfLines_12 : decode cX0_byBoxOfLines 12 = .ok (.iload 7, 2) := by decide +kernel
theorem dX0_byBoxOfLines_14 : decode cX0_byBoxOfLines 14 = .ok (.iconst 5, 1) := by decide +kernel
theorem dX0_byBoxOfLines_15 : decode cX0_byBoxOfLines 15 = .ok (.iload 6, 2) := by decide +kernel
theorem dX0_byBoxOfLines_17 : decode cX0_byBoxOfLines 17 = .ok (.isub, 1) := by decide +kernel
theorem dX0_byBoxOfLines_18 : decode cX0_byBoxOfLines 18 = .ok (.if_icmp .gt 54, 3) := by decide +kernel
theorem dX0_byBoxOfLines_21 : decode cX0_byBoxOfLines 21 = .ok (.iload 6, 2) := by decide +kernel
theorem dX0_byBoxOfLines_23 : decode cX0_byBoxOfLines 23 = .ok (.iload_n 2, 1) := by decide +kernel
theorem dX0_byBoxOfLines_24 : decode cX0_byBoxOfLines 24 = .ok (.iload 7, 2) := by decide +kernel
theorem dX0_byBoxOfLines_26 : decode cX0_byBoxOfLines 26 = .ok (.iload_n 3, 1) := by decide +kernel
theorem dX0_byBoxOfLines_27 : decode cX0_byBoxOfLines 27 = .ok (.invokestatic 56, 3) := by decide +kernel
theorem dX0_byBoxOfLines_30 : decode cX0_byBoxOfLines 30 = .ok (.istore 8, 2) := by decide +kernel
theorem dX0_byBoxOfLines_32 : decode cX0_byBoxOfLines 32 = .ok (.iload_n 0, 1) := by decide +kernel
theorem dX0_byBoxOfLines_33 : decode cX0_byBoxOfLines 33 = .ok (.iload 8, 2) := by decide +kernel
theorem dX0_byBoxOfLines_35 : decode cX0_byBoxOfLines 35 = .ok (.iconst (-1), 1) := by decide +kernel
theorem dX0_byBoxOfLines_36 : decode cX0_byBoxOfLines 36 = .ok (.ixor, 1) := by decide +kernel
theorem dX0_byBoxOfLines_37 : decode cX0_byBoxOfLines 37 = .ok (.iand, 1) := by decide +kernel
theorem dX0_byBoxOfLines_38 : decode cX0_byBoxOfLines 38 = .ok (.iload_n 1, 1) := by decide +kernel
theorem dX0_byBoxOfLines_39 : decode cX0_byBoxOfLines 39 = .ok (.iload 4, 2) := by decide +kernel
theorem dX0_byBoxOfLines_41 : decode cX0_byBoxOfLines 41 = .ok (.iload 5, 2) := by decide +kernel
theorem dX0_byBoxOfLines_43 : decode cX0_byBoxOfLines 43 = .ok (.invokestatic 48, 3) := by decide +kernel
theorem dX0_byBoxOfLines_46 : decode cX0_byBoxOfLines 46 = .ok (.ifCond .ne 18, 3) := by decide +kernel
theorem dX0_byBoxOfLines_49 : decode cX0_byBoxOfLines 49 = .ok (.iload_n 0, 1) := by decide +kernel
theorem dX0_byBoxOfLines_50 : decode cX0_byBoxOfLines 50 = .ok (.iload 8, 2) := by decide +kernel
theorem dX0_byBoxOfLines_52 : decode cX0_byBoxOfLines 52 = .ok (.ior, 1) := by decide +kernel
theorem dX0_byBoxOfLines_53 : decode cX0_byBoxOfLines 53 = .ok (.iload_n 1, 1) := by decide +kernel
theorem dX0_byBoxOfLines_54 : decode cX0_byBoxOfLines 54 = .ok (.iload 4, 2) := by decide +kernel
theorem dX0_byBoxOfLines_56 : decode cX0_byBoxOfLines 56 = .ok (.iload 5, 2) := by decide +kernel
theorem dX0_byBoxOfLines_58 : decode cX0_byBoxOfLines 58 = .ok (.invokestatic 48, 3) := by decide +kernel
theorem dX0_byBoxOfLines_61 : decode cX0_byBoxOfLines 61 = .ok (.ifCond .eq 5, 3) := by decide +kernel
theorem dX0_byBoxOfLines_64 : decode cX0_byBoxOfLines 64 = .ok (.iconst 1, 1) := by decide +kernel
theorem dX0_byBoxOfLines_65 : decode cX0_byBoxOfLines 65 = .ok (.ireturn, 1) := by decide +kernel
theorem dX0_byBoxOfLines_66 : decode cX0_byBoxOfLines 66 = .ok (.iinc 7 1, 3) := by decide +kernel
theorem dX0_byBoxOfLines_69 : decode cX0_byBoxOfLines 69 = .ok (.goto (-57), 3) := by decide +kernel
theorem dX0_byBoxOfLines_72 : decode cX0_byBoxOfLines 72 = .ok (.iinc 6 1, 3) := by decide +kernel
theorem dX0_byBoxOfLines_75 : decode cX0_byBoxOfLines 75 = .ok (.goto (-72), 3) := by decide +kernel
theorem dX0_byBoxOfLines_78 : decode cX0_byBoxOfLines 78 = .ok (.iconst 0, 1) := by decide +kernel
theorem dX0_byBoxOfLines_79 : decode cX0_byBoxOfLines 79 = .ok (.ireturn, 1) := by decide +kernel
theorem dX0_inOneStroke_0 : decode cX0_inOneStroke 0 = .ok (.iload_n 0, 1) := by decide +kernel
theorem dX0_inOneStroke_1 : decode cX0_inOneStroke 1 = .ok (.iload_n 2, 1) := by decide +kernel
theorem dX0_inOneStroke_2 : decode cX0_inOneStroke 2 = .ok (.if_icmp .eq 8, 3) := by decide +kernel
theorem dX0_inOneStroke_5 : decode cX0_inOneStroke 5 = .ok (.iload_n 0, 1) := by decide +kernel
theorem dX0_inOneStroke_6 : decode cX0_inOneStroke 6 = .ok (.iload_n 3, 1) := by decide +kernel
theorem dX0_inOneStroke_7 : decode cX0_inOneStroke 7 = .ok (.if_icmp .ne 5, 3) := by decide +kernel
theorem dX0_inOneStroke_10 : decode cX0_inOneStroke 10 = .ok (.iconst 1, 1) := by decide +kernel
theorem dX0_inOneStroke_11 : decode cX0_inOneStroke 11 = .ok (.ireturn, 1) := by decide +kernel
theorem dX0_inOneStroke_12 : decode cX0_inOneStroke 12 = .ok (.iload_n 1, 1) := by decide +kernel
theorem dX0_inOneStroke_13 : decode cX0_inOneStroke 13 = .ok (.iload_n 0, 1) := by decide +kernel
theorem dX0_inOneStroke_14 : decode cX0_inOneStroke 14 = .ok (.iconst (-1), 1) := by decide +kernel
theorem dX0_inOneStroke_15 : decode cX0_inOneStroke 15 = .ok (.ixor, 1) := by decide +kernel
theorem dX0_inOneStroke_16 : decode cX0_inOneStroke 16 = .ok (.iand, 1) := by decide +kernel
theorem dX0_inOneStroke_17 : decode cX0_inOneStroke 17 = .ok (.ifCond .ne 7, 3) := by decide +kernel
theorem dX0_inOneStroke_20 : decode cX0_inOneStroke 20 = .ok (.iconst 1, 1) := by decide +kernel
theorem dX0_inOneStroke_21 : decode cX0_inOneStroke 21 = .ok (.goto 4, 3) := by decide +kernel
theorem dX0_inOneStroke_24 : decode cX0_inOneStroke 24 = .ok (.iconst 0, 1) := by decide +kernel
theorem dX0_inOneStroke_25 : decode cX0_inOneStroke 25 = .ok (.istore 4, 2) := by decide +kernel
theorem dX0_inOneStroke_27 : decode cX0_inOneStroke 27 = .ok (.iload_n 0, 1) := by decide +kernel
theorem dX0_inOneStroke_28 : decode cX0_inOneStroke 28 = .ok (.iload_n 1, 1) := by decide +kernel
theorem dX0_inOneStroke_29 : decode cX0_inOneStroke 29 = .ok (.iconst (-1), 1) := by decide +kernel
theorem dX0_inOneStroke_30 : decode cX0_inOneStroke 30 = .ok (.ixor, 1) := by decide +kernel
theorem dX0_inOneStroke_31 : decode cX0_inOneStroke 31 = .ok (.iand, 1) := by decide +kernel
theorem dX0_inOneStroke_32 : decode cX0_inOneStroke 32 = .ok (.ifCond .ne 7, 3) := by decide +kernel
theorem dX0_inOneStroke_35 : decode cX0_inOneStroke 35 = .ok (.iconst 1, 1) := by decide +kernel
theorem dX0_inOneStroke_36 : decode cX0_inOneStroke 36 = .ok (.goto 4, 3) := by decide +kernel
theorem dX0_inOneStroke_39 : decode cX0_inOneStroke 39 = .ok (.iconst 0, 1) := by decide +kernel
theorem dX0_inOneStroke_40 : decode cX0_inOneStroke 40 = .ok (.istore 5, 2) := by decide +kernel
theorem dX0_inOneStroke_42 : decode cX0_inOneStroke 42 = .ok (.iload 4, 2) := by decide +kernel
theorem dX0_inOneStroke_44 : decode cX0_inOneStroke 44 = .ok (.ifCond .ne 10, 3) := by decide +kernel
theorem dX0_inOneStroke_47 : decode cX0_inOneStroke 47 = .ok (.iload 5, 2) := by decide +kernel
theorem dX0_inOneStroke_49 : decode cX0_inOneStroke 49 = .ok (.ifCond .ne 5, 3) := by decide +kernel
theorem dX0_inOneStroke_52 : decode cX0_inOneStroke 52 = .ok (.iconst 0, 1) := by decide +kernel
theorem dX0_inOneStroke_53 : decode cX0_inOneStroke 53 = .ok (.ireturn, 1) := by decide +kernel
theorem dX0_inOneStroke_54 : decode cX0_inOneStroke 54 = .ok (.iload_n 0, 1) := by decide +kernel
theorem dX0_inOneStroke_55 : decode cX0_inOneStroke 55 = .ok (.iload_n 1, 1) := by decide +kernel
theorem dX0_inOneStroke_56 : decode cX0_inOneStroke 56 = .ok (.ixor, 1) := by decide +kernel
theorem dX0_inOneStroke_57 : decode cX0_inOneStroke 57 = .ok (.invokestatic 60, 3) := by decide +kernel
theorem dX0_inOneStroke_60 : decode cX0_inOneStroke 60 = .ok (.istore 6, 2) := by decide +kernel
theorem dX0_inOneStroke_62 : decode cX0_inOneStroke 62 = .ok (.iload 4, 2) := by decide +kernel
theorem dX0_inOneStroke_64 : decode cX0_inOneStroke 64 = .ok (.ifCond .eq 10, 3) := by decide +kernel
theorem dX0_inOneStroke_67 : decode cX0_inOneStroke 67 = .ok (.iload 6, 2) := by decide +kernel
theorem dX0_inOneStroke_69 : decode cX0_inOneStroke 69 = .ok (.iload_n 1, 1) := by decide +kernel
theorem dX0_inOneStroke_70 : decode cX0_inOneStroke 70 = .ok (.iand, 1) := by decide +kernel
theorem dX0_inOneStroke_71 : decode cX0_inOneStroke 71 = .ok (.ifCond .eq 17, 3) := by decide +kernel
theorem dX0_inOneStroke_74 : decode cX0_inOneStroke 74 = .ok (.iload 5, 2) := by decide +kernel
theorem dX0_inOneStroke_76 : decode cX0_inOneStroke 76 = .ok (.ifCond .eq 16, 3) := by decide +kernel
theorem dX0_inOneStroke_79 : decode cX0_inOneStroke 79 = .ok (.iload 6, 2) := by decide +kernel
theorem dX0_inOneStroke_81 : decode cX0_inOneStroke 81 = .ok (.iload_n 1, 1) := by decide +kernel
theorem dX0_inOneStroke_82 : decode cX0_inOneStroke 82 = .ok (.iconst (-1), 1) := by decide +kernel
theorem dX0_inOneStroke_83 : decode cX0_inOneStroke 83 = .ok (.ixor, 1) := by decide +kernel
theorem dX0_inOneStroke_84 : decode cX0_inOneStroke 84 = .ok (.iand, 1) := by decide +kernel
theorem dX0_inOneStroke_85 : decode cX0_inOneStroke 85 = .ok (.ifCond .ne 7, 3) := by decide +kernel
theorem dX0_inOneStroke_88 : decode cX0_inOneStroke 88 = .ok (.iconst 1, 1) := by decide +kernel
theorem dX0_inOneStroke_89 : decode cX0_inOneStroke 89 = .ok (.goto 4, 3) := by decide +kernel
theorem dX0_inOneStroke_92 : decode cX0_inOneStroke 92 = .ok (.iconst 0, 1) := by decide +kernel
theorem dX0_inOneStroke_93 : decode cX0_inOneStroke 93 = .ok (.ireturn, 1) := by decide +kernel
theorem dX0_boxRound_0 : decode cX0_boxRound 0 = .ok (.iconst 0, 1) := by decide +kernel
theorem dX0_boxRound_1 : decode cX0_boxRound 1 = .ok (.istore_n 1, 1) := by decide +kernel
theorem dX0_boxRound_2 : decode cX0_boxRound 2 = .ok (.iconst 0, 1) := by decide +kernel
theorem dX0_boxRound_3 : decode cX0_boxRound 3 = .ok (.istore_n 2, 1) := by decide +kernel
theorem dX0_boxRound_4 : decode cX0_boxRound 4 = .ok (.iload_n 2, 1) := by decide +kernel
theorem dX0_boxRound_5 : decode cX0_boxRound 5 = .ok (.iconst 5, 1) := by decide +kernel
theorem dX0_boxRound_6 : decode cX0_boxRound 6 = .ok (.if_icmp .ge 20, 3) := by decide +kernel
theorem dX0_boxRound_9 : decode cX0_boxRound 9 = .ok (.iload_n 1, 1) := by decide +kernel
theorem dX0_boxRound_10 : decode cX0_boxRound 10 = .ok (.iload_n 0, 1) := by decide +kernel
theorem dX0_boxRound_11 : decode cX0_boxRound 11 = .ok (.iconst 5, 1) := by decide +kernel
theorem dX0_boxRound_12 : decode cX0_boxRound 12 = .ok (.iload_n 2, 1) := by decide +kernel
theorem dX0_boxRound_13 : decode cX0_boxRound 13 = .ok (.imul, 1) := by decide +kernel
theorem dX0_boxRound_14 : decode cX0_boxRound 14 = .ok (.ishr, 1) := by decide +kernel
theorem dX0_boxRound_15 : decode cX0_boxRound 15 = .ok (.bipush 31, 2) := by decide +kernel
theorem dX0_boxRound_17 : decode cX0_boxRound 17 = .ok (.iand, 1) := by decide +kernel
theorem dX0_boxRound_18 : decode cX0_boxRound 18 = .ok (.ior, 1) := by decide +kernel
theorem dX0_boxRound_19 : decode cX0_boxRound 19 = .ok (.istore_n 1, 1) := by decide +kernel
theorem dX0_boxRound_20 : decode cX0_boxRound 20 = .ok (.iinc 2 1, 3) := by decide +kernel
theorem dX0_boxRound_23 : decode cX0_boxRound 23 = .ok (.goto (-19), 3) := by decide +kernel
theorem dX0_boxRound_26 : decode cX0_boxRound 26 = .ok (.iload_n 1, 1) := by decide +kernel
theorem dX0_boxRound_27 : decode cX0_boxRound 27 = .ok (.iload_n 1, 1) := by decide +kernel
theorem dX0_boxRound_28 : decode cX0_boxRound 28 = .ok (.ineg, 1) := by decide +kernel
theorem dX0_boxRound_29 : decode cX0_boxRound 29 = .ok (.iand, 1) := by decide +kernel
theorem dX0_boxRound_30 : decode cX0_boxRound 30 = .ok (.istore_n 2, 1) := by decide +kernel
theorem dX0_boxRound_31 : decode cX0_boxRound 31 = .ok (.iload_n 1, 1) := by decide +kernel
theorem dX0_boxRound_32 : decode cX0_boxRound 32 = .ok (.iload_n 1, 1) := by decide +kernel
theorem dX0_boxRound_33 : decode cX0_boxRound 33 = .ok (.iconst 1, 1) := by decide +kernel
theorem dX0_boxRound_34 : decode cX0_boxRound 34 = .ok (.ishr, 1) := by decide +kernel
theorem dX0_boxRound_35 : decode cX0_boxRound 35 = .ok (.ior, 1) := by decide +kernel
theorem dX0_boxRound_36 : decode cX0_boxRound 36 = .ok (.istore_n 3, 1) := by decide +kernel
theorem dX0_boxRound_37 : decode cX0_boxRound 37 = .ok (.iload_n 3, 1) := by decide +kernel
theorem dX0_boxRound_38 : decode cX0_boxRound 38 = .ok (.iload_n 3, 1) := by decide +kernel
theorem dX0_boxRound_39 : decode cX0_boxRound 39 = .ok (.iconst 2, 1) := by decide +kernel
theorem dX0_boxRound_40 : decode cX0_boxRound 40 = .ok (.ishr, 1) := by decide +kernel
theorem dX0_boxRound_41 : decode cX0_boxRound 41 = .ok (.ior, 1) := by decide +kernel
theorem dX0_boxRound_42 : decode cX0_boxRound 42 = .ok (.istore_n 3, 1) := by decide +kernel
theorem dX0_boxRound_43 : decode cX0_boxRound 43 = .ok (.iload_n 3, 1) := by decide +kernel
theorem dX0_boxRound_44 : decode cX0_boxRound 44 = .ok (.iload_n 3, 1) := by decide +kernel
theorem dX0_boxRound_45 : decode cX0_boxRound 45 = .ok (.iconst 4, 1) := by decide +kernel
theorem dX0_boxRound_46 : decode cX0_boxRound 46 = .ok (.ishr, 1) := by decide +kernel
theorem dX0_boxRound_47 : decode cX0_boxRound 47 = .ok (.ior, 1) := by decide +kernel
theorem dX0_boxRound_48 : decode cX0_boxRound 48 = .ok (.istore_n 3, 1) := by decide +kernel
theorem dX0_boxRound_49 : decode cX0_boxRound 49 = .ok (.iload_n 3, 1) := by decide +kernel
theorem dX0_boxRound_50 : decode cX0_boxRound 50 = .ok (.iload_n 2, 1) := by decide +kernel
theorem dX0_boxRound_51 : decode cX0_boxRound 51 = .ok (.ineg, 1) := by decide +kernel
theorem dX0_boxRound_52 : decode cX0_boxRound 52 = .ok (.iand, 1) := by decide +kernel
theorem dX0_boxRound_53 : decode cX0_boxRound 53 = .ok (.istore 4, 2) := by decide +kernel
theorem dX0_boxRound_55 : decode cX0_boxRound 55 = .ok (.iconst 0, 1) := by decide +kernel
theorem dX0_boxRound_56 : decode cX0_boxRound 56 = .ok (.istore 5, 2) := by decide +kernel
theorem dX0_boxRound_58 : decode cX0_boxRound 58 = .ok (.iconst 0, 1) := by decide +kernel
theorem dX0_boxRound_59 : decode cX0_boxRound 59 = .ok (.istore 6, 2) := by decide +kernel
theorem dX0_boxRound_61 : decode cX0_boxRound 61 = .ok (.iload 6, 2) := by decide +kernel
theorem dX0_boxRound_63 : decode cX0_boxRound 63 = .ok (.iconst 5, 1) := by decide +kernel
theorem dX0_boxRound_64 : decode cX0_boxRound 64 = .ok (.if_icmp .ge 69, 3) := by decide +kernel
theorem dX0_boxRound_67 : decode cX0_boxRound 67 = .ok (.iload_n 0, 1) := by decide +kernel
theorem dX0_boxRound_68 : decode cX0_boxRound 68 = .ok (.iconst 1, 1) := by decide +kernel
theorem dX0_boxRound_69 : decode cX0_boxRound 69 = .ok (.iconst 5, 1) := by decide +kernel
theorem dX0_boxRound_70 : decode cX0_boxRound 70 = .ok (.iload 6, 2) := by decide +kernel
theorem dX0_boxRound_72 : decode cX0_boxRound 72 = .ok (.imul, 1) := by decide +kernel
theorem dX0_boxRound_73 : decode cX0_boxRound 73 = .ok (.iconst 5, 1) := by decide +kernel
theorem dX0_boxRound_74 : decode cX0_boxRound 74 = .ok (.iadd, 1) := by decide +kernel
theorem dX0_boxRound_75 : decode cX0_boxRound 75 = .ok (.ishl, 1) := by decide +kernel
theorem dX0_boxRound_76 : decode cX0_boxRound 76 = .ok (.iconst 1, 1) := by decide +kernel
theorem dX0_boxRound_77 : decode cX0_boxRound 77 = .ok (.isub, 1) := by decide +kernel
theorem dX0_boxRound_78 : decode cX0_boxRound 78 = .ok (.iand, 1) := by decide +kernel
theorem dX0_boxRound_79 : decode cX0_boxRound 79 = .ok (.ifCond .eq 7, 3) := by decide +kernel
theorem dX0_boxRound_82 : decode cX0_boxRound 82 = .ok (.iconst 1, 1) := by decide +kernel
theorem dX0_boxRound_83 : decode cX0_boxRound 83 = .ok (.goto 4, 3) := by decide +kernel
theorem dX0_boxRound_86 : decode cX0_boxRound 86 = .ok (.iconst 0, 1) := by decide +kernel
theorem dX0_boxRound_87 : decode cX0_boxRound 87 = .ok (.istore 7, 2) := by decide +kernel
theorem dX0_boxRound_89 : decode cX0_boxRound 89 = .ok (.iload_n 0, 1) := by decide +kernel
theorem dX0_boxRound_90 : decode cX0_boxRound 90 = .ok (.iconst 5, 1) := by decide +kernel
theorem dX0_boxRound_91 : decode cX0_boxRound 91 = .ok (.iload 6, 2) := by decide +kernel
theorem dX0_boxRound_93 : decode cX0_boxRound 93 = .ok (.imul, 1) := by decide +kernel
theorem dX0_boxRound_94 : decode cX0_boxRound 94 = .ok (.ishr, 1) := by decide +kernel
theorem dX0_boxRound_95 : decode cX0_boxRound 95 = .ok (.ifCond .eq 7, 3) := by decide +kernel
theorem dX0_boxRound_98 : decode cX0_boxRound 98 = .ok (.iconst 1, 1) := by decide +kernel
theorem dX0_boxRound_99 : decode cX0_boxRound 99 = .ok (.goto 4, 3) := by decide +kernel
theorem dX0_boxRound_102 : decode cX0_boxRound 102 = .ok (.iconst 0, 1) := by decide +kernel
theorem dX0_boxRound_103 : decode cX0_boxRound 103 = .ok (.istore 8, 2) := by decide +kernel
theorem dX0_boxRound_105 : decode cX0_boxRound 105 = .ok (.iload 7, 2) := by decide +kernel
theorem dX0_boxRound_107 : decode cX0_boxRound 107 = .ok (.ifCond .eq 20, 3) := by decide +kernel
theorem dX0_boxRound_110 : decode cX0_boxRound 110 = .ok (.iload 8, 2) := by decide +kernel
theorem dX0_boxRound_112 : decode cX0_boxRound 112 = .ok (.ifCond .eq 15, 3) := by decide +kernel
theorem dX0_boxRound_115 : decode cX0_boxRound 115 = .ok (.iload 5, 2) := by decide +kernel
theorem dX0_boxRound_117 : decode cX0_boxRound 117 = .ok (.iload 4, 2) := by decide +kernel
theorem dX0_boxRound_119 : decode cX0_boxRound 119 = .ok (.iconst 5, 1) := by decide +kernel
theorem dX0_boxRound_120 : decode cX0_boxRound 120 = .ok (.iload 6, 2) := by decide +kernel
theorem dX0_boxRound_122 : decode cX0_boxRound 122 = .ok (.imul, 1) := by decide +kernel
theorem dX0_boxRound_123 : decode cX0_boxRound 123 = .ok (.ishl, 1) := by decide +kernel
theorem dX0_boxRound_124 : decode cX0_boxRound 124 = .ok (.ior, 1) := by decide +kernel
theorem dX0_boxRound_125 : decode cX0_boxRound 125 = .ok (.istore 5, 2) := by decide +kernel
theorem dX0_boxRound_127 : decode cX0_boxRound 127 = .ok (.iinc 6 1, 3) := by decide +kernel
theorem dX0_boxRound_130 : decode cX0_boxRound 130 = .ok (.goto (-69), 3) := by decide +kernel
theorem dX0_boxRound_133 : decode cX0_boxRound 133 = .ok (.iload 5, 2) := by decide +kernel
theorem dX0_boxRound_135 : decode cX0_boxRound 135 = .ok (.ireturn, 1) := by decide +kernel
theorem dX1_init_0 : decode cX1_init 0 = .ok (.aload_n 0, 1) := by decide +kernel
theorem dX1_init_1 : decode cX1_init 1 = .ok (.invokespecial 3, 3) := by decide +kernel
theorem dX1_init_4 : decode cX1_init 4 = .ok (.aload_n 0, 1) := by decide +kernel
theorem dX1_init_5 : decode cX1_init 5 = .ok (.iconst 0, 1) := by decide +kernel
theorem dX1_init_6 : decode cX1_init 6 = .ok (.putfield 9, 3) := by decide +kernel
theorem dX1_init_9 : decode cX1_init 9 = .ok (.aload_n 0, 1) := by decide +kernel
theorem dX1_init_10 : decode cX1_init 10 = .ok (.bipush 60, 2) := by decide +kernel
theorem dX1_init_12 : decode cX1_init 12 = .ok (.newarray .int, 2) := by decide +kernel
theorem dX1_init_14 : decode cX1_init 14 = .ok (.putfield 15, 3) := by decide +kernel
theorem dX1_init_17 : decode cX1_init 17 = .ok (.aload_n 0, 1) := by decide +kernel
theorem dX1_init_18 : decode cX1_init 18 = .ok (.bipush 6, 2) := by decide +kernel
theorem dX1_init_20 : decode cX1_init 20 = .ok (.newarray .int, 2) := by decide +kernel
theorem dX1_init_22 : decode cX1_init 22 = .ok (.putfield 19, 3) := by decide +kernel
theorem dX1_init_25 : decode cX1_init 25 = .ok (.return_, 1) := by decide +kernel
theorem dX1_learn_0 : decode cX1_learn 0 = .ok (.iconst 0, 1) := by decide +kernel
theorem dX1_learn_1 : decode cX1_learn 1 = .ok (.istore_n 2, 1) := by decide +kernel
theorem dX1_learn_2 : decode cX1_learn 2 = .ok (.iload_n 2, 1) := by decide +kernel
theorem dX1_learn_3 : decode cX1_learn 3 = .ok (.aload_n 1, 1) := by decide +kernel
theorem dX1_learn_4 : decode cX1_learn 4 = .ok (.getfield 22, 3) := by decide +kernel
theorem dX1_learn_7 : decode cX1_learn 7 = .ok (.if_icmp .ge 42, 3) := by decide +kernel
theorem dX1_learn_10 : decode cX1_learn 10 = .ok (.iconst 0, 1) := by decide +kernel
theorem dX1_learn_11 : decode cX1_learn 11 = .ok (.istore_n 3, 1) := by decide +kernel
theorem dX1_learn_12 : decode cX1_learn 12 = .ok (.iload_n 3, 1) := by decide +kernel
theorem dX1_learn_13 : decode cX1_learn 13 = .ok (.iconst 3, 1) := by decide +kernel
theorem dX1_learn_14 : decode cX1_learn 14 = .ok (.if_icmp .ge 29, 3) := by decide +kernel
theorem dX1_learn_17 : decode cX1_learn 17 = .ok (.aload_n 0, 1) := by decide +kernel
theorem dX1_learn_18 : decode cX1_learn 18 = .ok (.getfield 15, 3) := by decide +kernel
theorem dX1_learn_21 : decode cX1_learn 21 = .ok (.iload_n 2, 1) := by decide +kernel
theorem dX1_learn_22 : decode cX1_learn 22 = .ok (.iconst 3, 1) := by decide +kernel
theorem dX1_learn_23 : decode cX1_learn 23 = .ok (.imul, 1) := by decide +kernel
theorem dX1_learn_24 : decode cX1_learn 24 = .ok (.iload_n 3, 1) := by decide +kernel
theorem dX1_learn_25 : decode cX1_learn 25 = .ok (.iadd, 1) := by decide +kernel
theorem dX1_learn_26 : decode cX1_learn 26 = .ok (.aload_n 1, 1) := by decide +kernel
theorem dX1_learn_27 : decode cX1_learn 27 = .ok (.getfield 27, 3) := by decide +kernel
theorem dX1_learn_30 : decode cX1_learn 30 = .ok (.iload_n 2, 1) := by decide +kernel
theorem dX1_learn_31 : decode cX1_learn 31 = .ok (.iconst 5, 1) := by decide +kernel
theorem dX1_learn_32 : decode cX1_learn 32 = .ok (.imul, 1) := by decide +kernel
theorem dX1_learn_33 : decode cX1_learn 33 = .ok (.iload_n 3, 1) := by decide +kernel
theorem dX1_learn_34 : decode cX1_learn 34 = .ok (.iadd, 1) := by decide +kernel
theorem dX1_learn_35 : decode cX1_learn 35 = .ok (.iaload, 1) := by decide +kernel
theorem dX1_learn_36 : decode cX1_learn 36 = .ok (.iastore, 1) := by decide +kernel
theorem dX1_learn_37 : decode cX1_learn 37 = .ok (.iinc 3 1, 3) := by decide +kernel
theorem dX1_learn_40 : decode cX1_learn 40 = .ok (.goto (-28), 3) := by decide +kernel
theorem dX1_learn_43 : decode cX1_learn 43 = .ok (.iinc 2 1, 3) := by decide +kernel
theorem dX1_learn_46 : decode cX1_learn 46 = .ok (.goto (-44), 3) := by decide +kernel
theorem dX1_learn_49 : decode cX1_learn 49 = .ok (.aload_n 0, 1) := by decide +kernel
theorem dX1_learn_50 : decode cX1_learn 50 = .ok (.aload_n 1, 1) := by decide +kernel
theorem dX1_learn_51 : decode cX1_learn 51 = .ok (.getfield 22, 3) := by decide +kernel
theorem dX1_learn_54 : decode cX1_learn 54 = .ok (.putfield 9, 3) := by decide +kernel
theorem dX1_learn_57 : decode cX1_learn 57 = .ok (.return_, 1) := by decide +kernel
theorem dX1_copyRules_0 : decode cX1_copyRules 0 = .ok (.aload_n 0, 1) := by decide +kernel
theorem dX1_copyRules_1 : decode cX1_copyRules 1 = .ok (.aload_n 1, 1) := by decide +kernel
theorem dX1_copyRules_2 : decode cX1_copyRules 2 = .ok (.getfield 9, 3) := by decide +kernel
theorem dX1_copyRules_5 : decode cX1_copyRules 5 = .ok (.putfield 9, 3) := by decide +kernel
theorem dX1_copyRules_8 : decode cX1_copyRules 8 = .ok (.aload_n 1, 1) := by decide +kernel
theorem dX1_copyRules_9 : decode cX1_copyRules 9 = .ok (.getfield 15, 3) := by decide +kernel
theorem dX1_copyRules_12 : decode cX1_copyRules 12 = .ok (.iconst 0, 1) := by decide +kernel
theorem dX1_copyRules_13 : decode cX1_copyRules 13 = .ok (.aload_n 0, 1) := by decide +kernel
theorem dX1_copyRules_14 : decode cX1_copyRules 14 = .ok (.getfield 15, 3) := by decide +kernel
theorem dX1_copyRules_17 : decode cX1_copyRules 17 = .ok (.iconst 0, 1) := by decide +kernel
theorem dX1_copyRules_18 : decode cX1_copyRules 18 = .ok (.bipush 60, 2) := by decide +kernel
theorem dX1_copyRules_20 : decode cX1_copyRules 20 = .ok (.invokestatic 30, 3) := by decide +kernel
theorem dX1_copyRules_23 : decode cX1_copyRules 23 = .ok (.return_, 1) := by decide +kernel
theorem dX1_permit_0 : decode cX1_permit 0 = .ok (.aload_n 0, 1) := by decide +kernel
theorem dX1_permit_1 : decode cX1_permit 1 = .ok (.getfield 9, 3) := by decide +kernel
theorem dX1_permit_4 : decode cX1_permit 4 = .ok (.ifCond .ne 5, 3) := by decide +kernel
theorem dX1_permit_7 : decode cX1_permit 7 = .ok (.iconst 1, 1) := by decide +kernel
theorem dX1_permit_8 : decode cX1_permit 8 = .ok (.ireturn, 1) := by decide +kernel
theorem dX1_permit_9 : decode cX1_permit 9 = .ok (.iconst 0, 1) := by decide +kernel
theorem dX1_permit_10 : decode cX1_permit 10 = .ok (.istore_n 3, 1) := by decide +kernel
theorem dX1_permit_11 : decode cX1_permit 11 = .ok (.iload_n 3, 1) := by decide +kernel
theorem dX1_permit_12 : decode cX1_permit 12 = .ok (.bipush 6, 2) := by decide +kernel
theorem dX1_permit_14 : decode cX1_permit 14 = .ok (.if_icmp .ge 16, 3) := by decide +kernel
theorem dX1_permit_17 : decode cX1_permit 17 = .ok (.aload_n 0, 1) := by decide +kernel
theorem dX1_permit_18 : decode cX1_permit 18 = .ok (.getfield 19, 3) := by decide +kernel
theorem dX1_permit_21 : decode cX1_permit 21 = .ok (.iload_n 3, 1) := by decide +kernel
theorem dX1_permit_22 : decode cX1_permit 22 = .ok (.iconst (-1), 1) := by decide +kernel
theorem dX1_permit_23 : decode cX1_permit 23 = .ok (.iastore, 1) := by decide +kernel
theorem dX1_permit_24 : decode cX1_permit 24 = .ok (.iinc 3 1, 3) := by decide +kernel
theorem dX1_permit_27 : decode cX1_permit 27 = .ok (.goto (-16), 3) := by decide +kernel
theorem dX1_permit_30 : decode cX1_permit 30 = .ok (.iconst 0, 1) := by decide +kernel
theorem dX1_permit_31 : decode cX1_permit 31 = .ok (.istore_n 3, 1) := by decide +kernel
theorem dX1_permit_32 : decode cX1_permit 32 = .ok (.iload_n 3, 1) := by decide +kernel
theorem dX1_permit_33 : decode cX1_permit 33 = .ok (.iconst 4, 1) := by decide +kernel
theorem dX1_permit_34 : decode cX1_permit 34 = .ok (.if_icmp .ge 25, 3) := by decide +kernel
theorem dX1_permit_37 : decode cX1_permit 37 = .ok (.aload_n 1, 1) := by decide +kernel
theorem dX1_permit_38 : decode cX1_permit 38 = .ok (.iload_n 3, 1) := by decide +kernel
theorem dX1_permit_39 : decode cX1_permit 39 = .ok (.iaload, 1) := by decide +kernel
theorem dX1_permit_40 : decode cX1_permit 40 = .ok (.iconst (-1), 1) := by decide +kernel
theorem dX1_permit_41 : decode cX1_permit 41 = .ok (.if_icmp .eq 12, 3) := by decide +kernel
theorem dX1_permit_44 : decode cX1_permit 44 = .ok (.aload_n 0, 1) := by decide +kernel
theorem dX1_permit_45 : decode cX1_permit 45 = .ok (.getfield 19, 3) := by decide +kernel
theorem dX1_permit_48 : decode cX1_permit 48 = .ok (.aload_n 1, 1) := by decide +kernel
theorem dX1_permit_49 : decode cX1_permit 49 = .ok (.iload_n 3, 1) := by decide +kernel
theorem dX1_permit_50 : decode cX1_permit 50 = .ok (.iaload, 1) := by decide +kernel
theorem dX1_permit_51 : decode cX1_permit 51 = .ok (.iload_n 3, 1) := by decide +kernel
theorem dX1_permit_52 : decode cX1_permit 52 = .ok (.iastore, 1) := by decide +kernel
theorem dX1_permit_53 : decode cX1_permit 53 = .ok (.iinc 3 1, 3) := by decide +kernel
theorem dX1_permit_56 : decode cX1_permit 56 = .ok (.goto (-24), 3) := by decide +kernel
theorem dX1_permit_59 : decode cX1_permit 59 = .ok (.iconst 0, 1) := by decide +kernel
theorem dX1_permit_60 : decode cX1_permit 60 = .ok (.istore_n 3, 1) := by decide +kernel
theorem dX1_permit_61 : decode cX1_permit 61 = .ok (.iload_n 3, 1) := by decide +kernel
theorem dX1_permit_62 : decode cX1_permit 62 = .ok (.aload_n 0, 1) := by decide +kernel
theorem dX1_permit_63 : decode cX1_permit 63 = .ok (.getfield 9, 3) := by decide +kernel
theorem dX1_permit_66 : decode cX1_permit 66 = .ok (.if_icmp .ge 22, 3) := by decide +kernel
theorem dX1_permit_69 : decode cX1_permit 69 = .ok (.aload_n 0, 1) := by decide +kernel
theorem dX1_permit_70 : decode cX1_permit 70 = .ok (.iload_n 3, 1) := by decide +kernel
theorem dX1_permit_71 : decode cX1_permit 71 = .ok (.iconst 3, 1) := by decide +kernel
theorem dX1_permit_72 : decode cX1_permit 72 = .ok (.imul, 1) := by decide +kernel
theorem dX1_permit_73 : decode cX1_permit 73 = .ok (.aload_n 2, 1) := by decide +kernel
theorem dX1_permit_74 : decode cX1_permit 74 = .ok (.invokevirtual 36, 3) := by decide +kernel
theorem dX1_permit_77 : decode cX1_permit 77 = .ok (.ifCond .ne 5, 3) := by decide +kernel
theorem dX1_permit_80 : decode cX1_permit 80 = .ok (.iconst 0, 1) := by decide +kernel
theorem dX1_permit_81 : decode cX1_permit 81 = .ok (.ireturn, 1) := by decide +kernel
theorem dX1_permit_82 : decode cX1_permit 82 = .ok (.iinc 3 1, 3) := by decide +kernel
theorem dX1_permit_85 : decode cX1_permit 85 = .ok (.goto (-24), 3) := by decide +kernel
theorem dX1_permit_88 : decode cX1_permit 88 = .ok (.iconst 1, 1) := by decide +kernel
theorem dX1_permit_89 : decode cX1_permit 89 = .ok (.ireturn, 1) := by decide +kernel
theorem dX1_permits_0 : decode cX1_permits 0 = .ok (.aload_n 0, 1) := by decide +kernel
theorem dX1_permits_1 : decode cX1_permits 1 = .ok (.getfield 15, 3) := by decide +kernel
theorem dX1_permits_4 : decode cX1_permits 4 = .ok (.iload_n 1, 1) := by decide +kernel
theorem dX1_permits_5 : decode cX1_permits 5 = .ok (.iaload, 1) := by decide +kernel
theorem dX1_permits_6 : decode cX1_permits 6 = .ok (.istore_n 3, 1) := by decide +kernel
theorem dX1_permits_7 : decode cX1_permits 7 = .ok (.aload_n 0, 1) := by decide +kernel
theorem dX1_permits_8 : decode cX1_permits 8 = .ok (.getfield 19, 3) := by decide +kernel
theorem dX1_permits_11 : decode cX1_permits 11 = .ok (.aload_n 0, 1) := by decide +kernel
theorem dX1_permits_12 : decode cX1_permits 12 = .ok (.getfield 15, 3) := by decide +kernel
theorem dX1_permits_15 : decode cX1_permits 15 = .ok (.iload_n 1, 1) := by decide +kernel
theorem dX1_permits_16 : decode cX1_permits 16 = .ok (.iconst 1, 1) := by decide +kernel
theorem dX1_permits_17 : decode cX1_permits 17 = .ok (.iadd, 1) := by decide +kernel
theorem dX1_permits_18 : decode cX1_permits 18 = .ok (.iaload, 1) := by decide +kernel
theorem dX1_permits_19 : decode cX1_permits 19 = .ok (.iaload, 1) := by decide +kernel
theorem dX1_permits_20 : decode cX1_permits 20 = .ok (.istore 4, 2) := by decide +kernel
theorem dX1_permits_22 : decode cX1_permits 22 = .ok (.iload_n 3, 1) := by decide +kernel
theorem dX1_permits_23 : decode cX1_permits 23 = .ok (.ifCond .ne 22, 3) := by decide +kernel
theorem dX1_permits_26 : decode cX1_permits 26 = .ok (.iload 4, 2) := by decide +kernel
theorem dX1_permits_28 : decode cX1_permits 28 = .ok (.aload_n 0, 1) := by decide +kernel
theorem dX1_permits_29 : decode cX1_permits 29 = .ok (.getfield 15, 3) := by decide +kernel
theorem dX1_permits_32 : decode cX1_permits 32 = .ok (.iload_n 1, 1) := by decide +kernel
theorem dX1_permits_33 : decode cX1_permits 33 = .ok (.iconst 2, 1) := by decide +kernel
theorem dX1_permits_34 : decode cX1_permits 34 = .ok (.iadd, 1) := by decide +kernel
theorem dX1_permits_35 : decode cX1_permits 35 = .ok (.iaload, 1) := by decide +kernel
theorem dX1_permits_36 : decode cX1_permits 36 = .ok (.if_icmp .eq 7, 3) := by decide +kernel
theorem dX1_permits_39 : decode cX1_permits 39 = .ok (.iconst 1, 1) := by decide +kernel
theorem dX1_permits_40 : decode cX1_permits 40 = .ok (.goto 4, 3) := by decide +kernel
theorem dX1_permits_43 : decode cX1_permits 43 = .ok (.iconst 0, 1) := by decide +kernel
theorem dX1_permits_44 : decode cX1_permits 44 = .ok (.ireturn, 1) := by decide +kernel
theorem dX1_permits_45 : decode cX1_permits 45 = .ok (.aload_n 0, 1) := by decide +kernel
theorem dX1_permits_46 : decode cX1_permits 46 = .ok (.getfield 19, 3) := by decide +kernel
theorem dX1_permits_49 : decode cX1_permits 49 = .ok (.aload_n 0, 1) := by decide +kernel
theorem dX1_permits_50 : decode cX1_permits 50 = .ok (.getfield 15, 3) := by decide +kernel
theorem dX1_permits_53 : decode cX1_permits 53 = .ok (.iload_n 1, 1) := by decide +kernel
theorem dX1_permits_54 : decode cX1_permits 54 = .ok (.iconst 2, 1) := by decide +kernel
theorem dX1_permits_55 : decode cX1_permits 55 = .ok (.iadd, 1) := by decide +kernel
theorem dX1_permits_56 : decode cX1_permits 56 = .ok (.iaload, 1) := by decide +kernel
theorem dX1_permits_57 : decode cX1_permits 57 = .ok (.iaload, 1) := by decide +kernel
theorem dX1_permits_58 : decode cX1_permits 58 = .ok (.istore 5, 2) := by decide +kernel
theorem dX1_permits_60 : decode cX1_permits 60 = .ok (.iload_n 3, 1) := by decide +kernel
theorem dX1_permits_61 : decode cX1_permits 61 = .ok (.iconst 1, 1) := by decide +kernel
theorem dX1_permits_62 : decode cX1_permits 62 = .ok (.if_icmp .ne 34, 3) := by decide +kernel
theorem dX1_permits_65 : decode cX1_permits 65 = .ok (.iload 4, 2) := by decide +kernel
theorem dX1_permits_67 : decode cX1_permits 67 = .ok (.iconst (-1), 1) := by decide +kernel
theorem dX1_permits_68 : decode cX1_permits 68 = .ok (.if_icmp .ne 7, 3) := by decide +kernel
theorem dX1_permits_71 : decode cX1_permits 71 = .ok (.iconst 1, 1) := by decide +kernel
theorem dX1_permits_72 : decode cX1_permits 72 = .ok (.goto 4, 3) := by decide +kernel
theorem dX1_permits_75 : decode cX1_permits 75 = .ok (.iconst 0, 1) := by decide +kernel
theorem dX1_permits_76 : decode cX1_permits 76 = .ok (.iload 5, 2) := by decide +kernel
theorem dX1_permits_78 : decode cX1_permits 78 = .ok (.iconst (-1), 1) := by decide +kernel
theorem dX1_permits_79 : decode cX1_permits 79 = .ok (.if_icmp .ne 7, 3) := by decide +kernel
theorem dX1_permits_82 : decode cX1_permits 82 = .ok (.iconst 1, 1) := by decide +kernel
theorem dX1_permits_83 : decode cX1_permits 83 = .ok (.goto 4, 3) := by decide +kernel
theorem dX1_permits_86 : decode cX1_permits 86 = .ok (.iconst 0, 1) := by decide +kernel
theorem dX1_permits_87 : decode cX1_permits 87 = .ok (.if_icmp .ne 7, 3) := by decide +kernel
theorem dX1_permits_90 : decode cX1_permits 90 = .ok (.iconst 1, 1) := by decide +kernel
theorem dX1_permits_91 : decode cX1_permits 91 = .ok (.goto 4, 3) := by decide +kernel
theorem dX1_permits_94 : decode cX1_permits 94 = .ok (.iconst 0, 1) := by decide +kernel
theorem dX1_permits_95 : decode cX1_permits 95 = .ok (.ireturn, 1) := by decide +kernel
theorem dX1_permits_96 : decode cX1_permits 96 = .ok (.iload 4, 2) := by decide +kernel
theorem dX1_permits_98 : decode cX1_permits 98 = .ok (.iconst (-1), 1) := by decide +kernel
theorem dX1_permits_99 : decode cX1_permits 99 = .ok (.if_icmp .eq 9, 3) := by decide +kernel
theorem dX1_permits_102 : decode cX1_permits 102 = .ok (.iload 5, 2) := by decide +kernel
theorem dX1_permits_104 : decode cX1_permits 104 = .ok (.iconst (-1), 1) := by decide +kernel
theorem dX1_permits_105 : decode cX1_permits 105 = .ok (.if_icmp .ne 5, 3) := by decide +kernel
theorem dX1_permits_108 : decode cX1_permits 108 = .ok (.iconst 1, 1) := by decide +kernel
theorem dX1_permits_109 : decode cX1_permits 109 = .ok (.ireturn, 1) := by decide +kernel
theorem dX1_permits_110 : decode cX1_permits 110 = .ok (.iload_n 3, 1) := by decide +kernel
theorem dX1_permits_111 : decode cX1_permits 111 = .ok (.iconst 2, 1) := by decide +kernel
theorem dX1_permits_112 : decode cX1_permits 112 = .ok (.if_icmp .eq 18, 3) := by decide +kernel
theorem dX1_permits_115 : decode cX1_permits 115 = .ok (.aload_n 2, 1) := by decide +kernel
theorem dX1_permits_116 : decode cX1_permits 116 = .ok (.iload 4, 2) := by decide +kernel
theorem dX1_permits_118 : decode cX1_permits 118 = .ok (.iaload, 1) := by decide +kernel
theorem dX1_permits_119 : decode cX1_permits 119 = .ok (.aload_n 2, 1) := by decide +kernel
theorem dX1_permits_120 : decode cX1_permits 120 = .ok (.iload 5, 2) := by decide +kernel
theorem dX1_permits_122 : decode cX1_permits 122 = .ok (.iaload, 1) := by decide +kernel
theorem dX1_permits_123 : decode cX1_permits 123 = .ok (.if_icmp .le 7, 3) := by decide +kernel
theorem dX1_permits_126 : decode cX1_permits 126 = .ok (.iconst 1, 1) := by decide +kernel
theorem dX1_permits_127 : decode cX1_permits 127 = .ok (.goto 4, 3) := by decide +kernel
theorem dX1_permits_130 : decode cX1_permits 130 = .ok (.iconst 0, 1) := by decide +kernel
theorem dX1_permits_131 : decode cX1_permits 131 = .ok (.ireturn, 1) := by decide +kernel
theorem dX2_init_0 : decode cX2_init 0 = .ok (.aload_n 0, 1) := by decide +kernel
theorem dX2_init_1 : decode cX2_init 1 = .ok (.invokespecial 3, 3) := by decide +kernel
theorem dX2_init_4 : decode cX2_init 4 = .ok (.aload_n 0, 1) := by decide +kernel
theorem dX2_init_5 : decode cX2_init 5 = .ok (.iconst 4, 1) := by decide +kernel
theorem dX2_init_6 : decode cX2_init 6 = .ok (.newarray .int, 2) := by decide +kernel
theorem dX2_init_8 : decode cX2_init 8 = .ok (.putfield 9, 3) := by decide +kernel
theorem dX2_init_11 : decode cX2_init 11 = .ok (.aload_n 0, 1) := by decide +kernel
theorem dX2_init_12 : decode cX2_init 12 = .ok (.bipush 6, 2) := by decide +kernel
theorem dX2_init_14 : decode cX2_init 14 = .ok (.newarray .int, 2) := by decide +kernel
theorem dX2_init_16 : decode cX2_init 16 = .ok (.putfield 15, 3) := by decide +kernel
theorem dX2_init_19 : decode cX2_init 19 = .ok (.aload_n 0, 1) := by decide +kernel
theorem dX2_init_20 : decode cX2_init 20 = .ok (.iconst 0, 1) := by decide +kernel
theorem dX2_init_21 : decode cX2_init 21 = .ok (.putfield 18, 3) := by decide +kernel
theorem dX2_init_24 : decode cX2_init 24 = .ok (.aload_n 0, 1) := by decide +kernel
theorem dX2_init_25 : decode cX2_init 25 = .ok (.iconst 4, 1) := by decide +kernel
theorem dX2_init_26 : decode cX2_init 26 = .ok (.newarray .int, 2) := by decide +kernel
theorem dX2_init_28 : decode cX2_init 28 = .ok (.putfield 22, 3) := by decide +kernel
theorem dX2_init_31 : decode cX2_init 31 = .ok (.aload_n 0, 1) := by decide +kernel
theorem dX2_init_32 : decode cX2_init 32 = .ok (.iconst 3, 1) := by decide +kernel
theorem dX2_init_33 : decode cX2_init 33 = .ok (.newarray .long, 2) := by decide +kernel
theorem dX2_init_35 : decode cX2_init 35 = .ok (.putfield 25, 3) := by decide +kernel
theorem dX2_init_38 : decode cX2_init 38 = .ok (.aload_n 0, 1) := by decide +kernel
theorem dX2_init_39 : decode cX2_init 39 = .ok (.aload_n 1, 1) := by decide +kernel
theorem dX2_init_40 : decode cX2_init 40 = .ok (.putfield 29, 3) := by decide +kernel
theorem dX2_init_43 : decode cX2_init 43 = .ok (.aload_n 0, 1) := by decide +kernel
theorem dX2_init_44 : decode cX2_init 44 = .ok (.aload_n 2, 1) := by decide +kernel
theorem dX2_init_45 : decode cX2_init 45 = .ok (.putfield 33, 3) := by decide +kernel
theorem dX2_init_48 : decode cX2_init 48 = .ok (.return_, 1) := by decide +kernel
theorem dX2_over_0 : decode cX2_over 0 = .ok (.aload_n 0, 1) := by decide +kernel
theorem dX2_over_1 : decode cX2_over 1 = .ok (.iconst 1, 1) := by decide +kernel
theorem dX2_over_2 : decode cX2_over 2 = .ok (.putfield 18, 3) := by decide +kernel
theorem dX2_over_5 : decode cX2_over 5 = .ok (.aload_n 0, 1) := by decide +kernel
theorem dX2_over_6 : decode cX2_over 6 = .ok (.getfield 15, 3) := by decide +kernel
theorem dX2_over_9 : decode cX2_over 9 = .ok (.iconst 0, 1) := by decide +kernel
theorem dX2_over_10 : decode cX2_over 10 = .ok (.iload_n 1, 1) := by decide +kernel
theorem dX2_over_11 : decode cX2_over 11 = .ok (.iastore, 1) := by decide +kernel
theorem dX2_over_12 : decode cX2_over 12 = .ok (.aload_n 0, 1) := by decide +kernel
theorem dX2_over_13 : decode cX2_over 13 = .ok (.getfield 33, 3) := by decide +kernel
theorem dX2_over_16 : decode cX2_over 16 = .ok (.iconst 0, 1) := by decide +kernel
theorem dX2_over_17 : decode cX2_over 17 = .ok (.iload_n 2, 1) := by decide +kernel
theorem dX2_over_18 : decode cX2_over 18 = .ok (.iload_n 3, 1) := by decide +kernel
theorem dX2_over_19 : decode cX2_over 19 = .ok (.invokevirtual 37, 3) := by decide +kernel
theorem dX2_over_22 : decode cX2_over 22 = .ok (.aload_n 0, 1) := by decide +kernel
theorem dX2_over_23 : decode cX2_over 23 = .ok (.invokevirtual 43, 3) := by decide +kernel
theorem dX2_over_26 : decode cX2_over 26 = .ok (.return_, 1) := by decide +kernel
theorem dX2_overSeen_0 : decode cX2_overSeen 0 = .ok (.aload_n 0, 1) := by decide +kernel
theorem dX2_overSeen_1 : decode cX2_overSeen 1 = .ok (.aload_n 0, 1) := by decide +kernel
theorem dX2_overSeen_2 : decode cX2_overSeen 2 = .ok (.getfield 29, 3) := by decide +kernel
theorem dX2_overSeen_5 : decode cX2_overSeen 5 = .ok (.getfield 46, 3) := by decide +kernel
theorem dX2_overSeen_8 : decode cX2_overSeen 8 = .ok (.putfield 18, 3) := by decide +kernel
theorem dX2_overSeen_11 : decode cX2_overSeen 11 = .ok (.iconst 0, 1) := by decide +kernel
theorem dX2_overSeen_12 : decode cX2_overSeen 12 = .ok (.istore_n 1, 1) := by decide +kernel
theorem dX2_overSeen_13 : decode cX2_overSeen 13 = .ok (.iload_n 1, 1) := by decide +kernel
theorem dX2_overSeen_14 : decode cX2_overSeen 14 = .ok (.aload_n 0, 1) := by decide +kernel
theorem dX2_overSeen_15 : decode cX2_overSeen 15 = .ok (.getfield 18, 3) := by decide +kernel
theorem dX2_overSeen_18 : decode cX2_overSeen 18 = .ok (.if_icmp .ge 58, 3) := by decide +kernel
theorem dX2_overSeen_21 : decode cX2_overSeen 21 = .ok (.iload_n 1, 1) := by decide +kernel
theorem dX2_overSeen_22 : decode cX2_overSeen 22 = .ok (.iconst 3, 1) := by decide +kernel
theorem dX2_overSeen_23 : decode cX2_overSeen 23 = .ok (.imul, 1) := by decide +kernel
theorem dX2_overSeen_24 : decode cX2_overSeen 24 = .ok (.istore_n 2, 1) := by decide +kernel
theorem dX2_overSeen_25 : decode cX2_overSeen 25 = .ok (.aload_n 0, 1) := by decide +kernel
theorem dX2_overSeen_26 : decode cX2_overSeen 26 = .ok (.getfield 15, 3) := by decide +kernel
theorem dX2_overSeen_29 : decode cX2_overSeen 29 = .ok (.iload_n 1, 1) := by decide +kernel
theorem dX2_overSeen_30 : decode cX2_overSeen 30 = .ok (.aload_n 0, 1) := by decide +kernel
theorem dX2_overSeen_31 : decode cX2_overSeen 31 = .ok (.getfield 29, 3) := by decide +kernel
theorem dX2_overSeen_34 : decode cX2_overSeen 34 = .ok (.getfield 51, 3) := by decide +kernel
theorem dX2_overSeen_37 : decode cX2_overSeen 37 = .ok (.iload_n 2, 1) := by decide +kernel
theorem dX2_overSeen_38 : decode cX2_overSeen 38 = .ok (.iaload, 1) := by decide +kernel
theorem dX2_overSeen_39 : decode cX2_overSeen 39 = .ok (.iastore, 1) := by decide +kernel
theorem dX2_overSeen_40 : decode cX2_overSeen 40 = .ok (.aload_n 0, 1) := by decide +kernel
theorem dX2_overSeen_41 : decode cX2_overSeen 41 = .ok (.getfield 33, 3) := by decide +kernel
theorem dX2_overSeen_44 : decode cX2_overSeen 44 = .ok (.iload_n 1, 1) := by decide +kernel
theorem dX2_overSeen_45 : decode cX2_overSeen 45 = .ok (.aload_n 0, 1) := by decide +kernel
theorem dX2_overSeen_46 : decode cX2_overSeen 46 = .ok (.getfield 29, 3) := by decide +kernel
theorem dX2_overSeen_49 : decode cX2_overSeen 49 = .ok (.getfield 51, 3) := by decide +kernel
theorem dX2_overSeen_52 : decode cX2_overSeen 52 = .ok (.iload_n 2, 1) := by decide +kernel
theorem dX2_overSeen_53 : decode cX2_overSeen 53 = .ok (.iconst 1, 1) := by decide +kernel
theorem dX2_overSeen_54 : decode cX2_overSeen 54 = .ok (.iadd, 1) := by decide +kernel
theorem dX2_overSeen_55 : decode cX2_overSeen 55 = .ok (.iaload, 1) := by decide +kernel
theorem dX2_overSeen_56 : decode cX2_overSeen 56 = .ok (.aload_n 0, 1) := by decide +kernel
theorem dX2_overSeen_57 : decode cX2_overSeen 57 = .ok (.getfield 29, 3) := by decide +kernel
theorem dX2_overSeen_60 : decode cX2_overSeen 60 = .ok (.getfield 51, 3) := by decide +kernel
theorem dX2_overSeen_63 : decode cX2_overSeen 63 = .ok (.iload_n 2, 1) := by decide +kernel
theorem dX2_overSeen_64 : decode cX2_overSeen 64 = .ok (.iconst 2, 1) := by decide +kernel
theorem dX2_overSeen_65 : decode cX2_overSeen 65 = .ok (.iadd, 1) := by decide +kernel
theorem dX2_overSeen_66 : decode cX2_overSeen 66 = .ok (.iaload, 1) := by decide +kernel
theorem dX2_overSeen_67 : decode cX2_overSeen 67 = .ok (.invokevirtual 37, 3) := by decide +kernel
theorem dX2_overSeen_70 : decode cX2_overSeen 70 = .ok (.iinc 1 1, 3) := by decide +kernel
theorem dX2_overSeen_73 : decode cX2_overSeen 73 = .ok (.goto (-60), 3) := by decide +kernel
theorem dX2_overSeen_76 : decode cX2_overSeen 76 = .ok (.aload_n 0, 1) := by decide +kernel
theorem dX2_overSeen_77 : decode cX2_overSeen 77 = .ok (.invokevirtual 43, 3) := by decide +kernel
theorem dX2_overSeen_80 : decode cX2_overSeen 80 = .ok (.return_, 1) := by decide +kernel
theorem dX2_alwaysMissed_0 : decode cX2_alwaysMissed 0 = .ok (.iconst 0, 1) := by decide +kernel
theorem dX2_alwaysMissed_1 : decode cX2_alwaysMissed 1 = .ok (.istore_n 1, 1) := by decide +kernel
theorem dX2_alwaysMissed_2 : decode cX2_alwaysMissed 2 = .ok (.iconst 0, 1) := by decide +kernel
theorem dX2_alwaysMissed_3 : decode cX2_alwaysMissed 3 = .ok (.istore_n 2, 1) := by decide +kernel
theorem dX2_alwaysMissed_4 : decode cX2_alwaysMissed 4 = .ok (.iload_n 2, 1) := by decide +kernel
theorem dX2_alwaysMissed_5 : decode cX2_alwaysMissed 5 = .ok (.iconst 3, 1) := by decide +kernel
theorem dX2_alwaysMissed_6 : decode cX2_alwaysMissed 6 = .ok (.if_icmp .ge 21, 3) := by decide +kernel
theorem dX2_alwaysMissed_9 : decode cX2_alwaysMissed 9 = .ok (.iload_n 1, 1) := by decide +kernel
theorem dX2_alwaysMissed_10 : decode cX2_alwaysMissed 10 = .ok (.aload_n 0, 1) := by decide +kernel
theorem dX2_alwaysMissed_11 : decode cX2_alwaysMissed 11 = .ok (.getfield 25, 3) := by decide +kernel
theorem dX2_alwaysMissed_14 : decode cX2_alwaysMissed 14 = .ok (.iload_n 2, 1) := by decide +kernel
theorem dX2_alwaysMissed_15 : decode cX2_alwaysMissed 15 = .ok (.laload, 1) := by decide +kernel
theorem dX2_alwaysMissed_16 : decode cX2_alwaysMissed 16 = .ok (.invokestatic 54, 3) := by decide +kernel
theorem dX2_alwaysMissed_19 : decode cX2_alwaysMissed 19 = .ok (.iadd, 1) := by decide +kernel
theorem dX2_alwaysMissed_20 : decode cX2_alwaysMissed 20 = .ok (.istore_n 1, 1) := by decide +kernel
theorem dX2_alwaysMissed_21 : decode cX2_alwaysMissed 21 = .ok (.iinc 2 1, 3) := by decide +kernel
theorem dX2_alwaysMissed_24 : decode cX2_alwaysMissed 24 = .ok (.goto (-20), 3) := by decide +kernel
theorem dX2_alwaysMissed_27 : decode cX2_alwaysMissed 27 = .ok (.iload_n 1, 1) := by decide +kernel
theorem dX2_alwaysMissed_28 : decode cX2_alwaysMissed 28 = .ok (.ireturn, 1) := by decide +kernel
theorem dX2_choices_0 : decode cX2_choices 0 = .ok (.iload_n 1, 1) := by decide +kernel
theorem dX2_choices_1 : decode cX2_choices 1 = .ok (.aload_n 0, 1) := by decide +kernel
theorem dX2_choices_2 : decode cX2_choices 2 = .ok (.getfield 29, 3) := by decide +kernel
theorem dX2_choices_5 : decode cX2_choices 5 = .ok (.getfield 60, 3) := by decide +kernel
theorem dX2_choices_8 : decode cX2_choices 8 = .ok (.if_icmp .ge 13, 3) := by decide +kernel
theorem dX2_choices_11 : decode cX2_choices 11 = .ok (.aload_n 0, 1) := by decide +kernel
theorem dX2_choices_12 : decode cX2_choices 12 = .ok (.getfield 29, 3) := by decide +kernel
theorem dX2_choices_15 : decode cX2_choices 15 = .ok (.getfield 63, 3) := by decide +kernel
theorem dX2_choices_18 : decode cX2_choices 18 = .ok (.goto 4, 3) := by decide +kernel
theorem dX2_choices_21 : decode cX2_choices 21 = .ok (.iconst 0, 1) := by decide +kernel
theorem dX2_choices_22 : decode cX2_choices 22 = .ok (.ireturn, 1) := by decide +kernel
theorem dX2_clash_0 : decode cX2_clash 0 = .ok (.iload_n 0, 1) := by decide +kernel
theorem dX2_clash_1 : decode cX2_clash 1 = .ok (.iconst (-1), 1) := by decide +kernel
theorem dX2_clash_2 : decode cX2_clash 2 = .ok (.if_icmp .eq 12, 3) := by decide +kernel
theorem dX2_clash_5 : decode cX2_clash 5 = .ok (.iload_n 0, 1) := by decide +kernel
theorem dX2_clash_6 : decode cX2_clash 6 = .ok (.iload_n 1, 1) := by decide +kernel
theorem dX2_clash_7 : decode cX2_clash 7 = .ok (.if_icmp .ne 7, 3) := by decide +kernel
theorem dX2_clash_10 : decode cX2_clash 10 = .ok (.iconst 1, 1) := by decide +kernel
theorem dX2_clash_11 : decode cX2_clash 11 = .ok (.goto 4, 3) := by decide +kernel
theorem dX2_clash_14 : decode cX2_clash 14 = .ok (.iconst 0, 1) := by decide +kernel
theorem dX2_clash_15 : decode cX2_clash 15 = .ok (.ireturn, 1) := by decide +kernel
theorem dX2_searchAll_0 : decode cX2_searchAll 0 = .ok (.aload_n 0, 1) := by decide +kernel
theorem dX2_searchAll_1 : decode cX2_searchAll 1 = .ok (.ldc 66, 2) := by decide +kernel
theorem dX2_searchAll_3 : decode cX2_searchAll 3 = .ok (.putfield 67, 3) := by decide +kernel
theorem dX2_searchAll_6 : decode cX2_searchAll 6 = .ok (.aload_n 0, 1) := by decide +kernel
theorem dX2_searchAll_7 : decode cX2_searchAll 7 = .ok (.iconst 0, 1) := by decide +kernel
theorem dX2_searchAll_8 : decode cX2_searchAll 8 = .ok (.putfield 70, 3) := by decide +kernel
theorem dX2_searchAll_11 : decode cX2_searchAll 11 = .ok (.aload_n 0, 1) := by decide +kernel
theorem dX2_searchAll_12 : decode cX2_searchAll 12 = .ok (.iconst 0, 1) := by decide +kernel
theorem dX2_searchAll_13 : decode cX2_searchAll 13 = .ok (.putfield 73, 3) := by decide +kernel
theorem dX2_searchAll_16 : decode cX2_searchAll 16 = .ok (.iconst 0, 1) := by decide +kernel
theorem dX2_searchAll_17 : decode cX2_searchAll 17 = .ok (.istore_n 1, 1) := by decide +kernel
theorem dX2_searchAll_18 : decode cX2_searchAll 18 = .ok (.iload_n 1, 1) := by decide +kernel
theorem dX2_searchAll_19 : decode cX2_searchAll 19 = .ok (.iconst 3, 1) := by decide +kernel
theorem dX2_searchAll_20 : decode cX2_searchAll 20 = .ok (.if_icmp .ge 18, 3) := by decide +kernel
theorem dX2_searchAll_23 : decode cX2_searchAll 23 = .ok (.aload_n 0, 1) := by decide +kernel
theorem dX2_searchAll_24 : decode cX2_searchAll 24 = .ok (.getfield 25, 3) := by decide +kernel
theorem dX2_searchAll_27 : decode cX2_searchAll 27 = .ok (.iload_n 1, 1) := by decide +kernel
theorem dX2_searchAll_28 : decode cX2_searchAll 28 = .ok (.ldc2_w 76, 3) := by decide +kernel
theorem dX2_searchAll_31 : decode cX2_searchAll 31 = .ok (.lastore, 1) := by decide +kernel
theorem dX2_searchAll_32 : decode cX2_searchAll 32 = .ok (.iinc 1 1, 3) := by decide +kernel
theorem dX2_searchAll_35 : decode cX2_searchAll 35 = .ok (.goto (-17), 3) := by decide +kernel
theorem dX2_searchAll_38 : decode cX2_searchAll 38 = .ok (.iconst (-1), 1) := by decide +kernel
theorem dX2_searchAll_39 : decode cX2_searchAll 39 = .ok (.istore_n 1, 1) := by decide +kernel
theorem dX2_searchAll_40 : decode cX2_searchAll 40 = .ok (.iload_n 1, 1) := by decide +kernel
theorem dX2_searchAll_41 : decode cX2_searchAll 41 = .ok (.aload_n 0, 1) := by decide +kernel
theorem dX2_searchAll_42 : decode cX2_searchAll 42 = .ok (.iconst 0, 1) := by decide +kernel
theorem dX2_searchAll_43 : decode cX2_searchAll 43 = .ok (.invokevirtual 78, 3) := by decide +kernel
theorem dX2_searchAll_46 : decode cX2_searchAll 46 = .ok (.if_icmp .ge 152, 3) := by decide +kernel
theorem dX2_searchAll_49 : decode cX2_searchAll 49 = .ok (.aload_n 0, 1) := by decide +kernel
theorem dX2_searchAll_50 : decode cX2_searchAll 50 = .ok (.getfield 9, 3) := by decide +kernel
theorem dX2_searchAll_53 : decode cX2_searchAll 53 = .ok (.iconst 0, 1) := by decide +kernel
theorem dX2_searchAll_54 : decode cX2_searchAll 54 = .ok (.iload_n 1, 1) := by decide +kernel
theorem dX2_searchAll_55 : decode cX2_searchAll 55 = .ok (.iastore, 1) := by decide +kernel
theorem dX2_searchAll_56 : decode cX2_searchAll 56 = .ok (.iconst (-1), 1) := by decide +kernel
theorem dX2_searchAll_57 : decode cX2_searchAll 57 = .ok (.istore_n 2, 1) := by decide +kernel
theorem dX2_searchAll_58 : decode cX2_searchAll 58 = .ok (.iload_n 2, 1) := by decide +kernel
theorem dX2_searchAll_59 : decode cX2_searchAll 59 = .ok (.aload_n 0, 1) := by decide +kernel
theorem dX2_searchAll_60 : decode cX2_searchAll 60 = .ok (.iconst 1, 1) := by decide +kernel
theorem dX2_searchAll_61 : decode cX2_searchAll 61 = .ok (.invokevirtual 78, 3) := by decide +kernel
theorem dX2_searchAll_64 : decode cX2_searchAll 64 = .ok (.if_icmp .ge 128, 3) := by decide +kernel
theorem dX2_searchAll_67 : decode cX2_searchAll 67 = .ok (.iload_n 2, 1) := by decide +kernel
theorem dX2_searchAll_68 : decode cX2_searchAll 68 = .ok (.iload_n 1, 1) := by decide +kernel
theorem dX2_searchAll_69 : decode cX2_searchAll 69 = .ok (.invokestatic 82, 3) := by decide +kernel
theorem dX2_searchAll_72 : decode cX2_searchAll 72 = .ok (.ifCond .eq 6, 3) := by decide +kernel
theorem dX2_searchAll_75 : decode cX2_searchAll 75 = .ok (.goto 111, 3) := by decide +kernel
theorem dX2_searchAll_78 : decode cX2_searchAll 78 = .ok (.aload_n 0, 1) := by decide +kernel
theorem dX2_searchAll_79 : decode cX2_searchAll 79 = .ok (.getfield 9, 3) := by decide +kernel
theorem dX2_searchAll_82 : decode cX2_searchAll 82 = .ok (.iconst 1, 1) := by decide +kernel
theorem dX2_searchAll_83 : decode cX2_searchAll 83 = .ok (.iload_n 2, 1) := by decide +kernel
theorem dX2_searchAll_84 : decode cX2_searchAll 84 = .ok (.iastore, 1) := by decide +kernel
theorem dX2_searchAll_85 : decode cX2_searchAll 85 = .ok (.iconst (-1), 1) := by decide +kernel
theorem dX2_searchAll_86 : decode cX2_searchAll 86 = .ok (.istore_n 3, 1) := by decide +kernel
theorem dX2_searchAll_87 : decode cX2_searchAll 87 = .ok (.iload_n 3, 1) := by decide +kernel
theorem dX2_searchAll_88 : decode cX2_searchAll 88 = .ok (.aload_n 0, 1) := by decide +kernel
theorem dX2_searchAll_89 : decode cX2_searchAll 89 = .ok (.iconst 2, 1) := by decide +kernel
theorem dX2_searchAll_90 : decode cX2_searchAll 90 = .ok (.invokevirtual 78, 3) := by decide +kernel
theorem dX2_searchAll_93 : decode cX2_searchAll 93 = .ok (.if_icmp .ge 93, 3) := by decide +kernel
theorem dX2_searchAll_96 : decode cX2_searchAll 96 = .ok (.iload_n 3, 1) := by decide +kernel
theorem dX2_searchAll_97 : decode cX2_searchAll 97 = .ok (.iload_n 1, 1) := by decide +kernel
theorem dX2_searchAll_98 : decode cX2_searchAll 98 = .ok (.invokestatic 82, 3) := by decide +kernel
theorem dX2_searchAll_101 : decode cX2_searchAll 101 = .ok (.ifCond .ne 79, 3) := by decide +kernel
theorem dX2_searchAll_104 : decode cX2_searchAll 104 = .ok (.iload_n 3, 1) := by decide +kernel
theorem dX2_searchAll_105 : decode cX2_searchAll 105 = .ok (.iload_n 2, 1) := by decide +kernel
theorem dX2_searchAll_106 : decode cX2_searchAll 106 = .ok (.invokestatic 82, 3) := by decide +kernel
theorem dX2_searchAll_109 : decode cX2_searchAll 109 = .ok (.ifCond .eq 6, 3) := by decide +kernel
theorem dX2_searchAll_112 : decode cX2_searchAll 112 = .ok (.goto 68, 3) := by decide +kernel
theorem dX2_searchAll_115 : decode cX2_searchAll 115 = .ok (.aload_n 0, 1) := by decide +kernel
theorem dX2_searchAll_116 : decode cX2_searchAll 116 = .ok (.getfield 9, 3) := by decide +kernel
theorem dX2_searchAll_119 : decode cX2_searchAll 119 = .ok (.iconst 2, 1) := by decide +kernel
theorem dX2_searchAll_120 : decode cX2_searchAll 120 = .ok (.iload_n 3, 1) := by decide +kernel
theorem dX2_searchAll_121 : decode cX2_searchAll 121 = .ok (.iastore, 1) := by decide +kernel
theorem dX2_searchAll_122 : decode cX2_searchAll 122 = .ok (.iconst (-1), 1) := by decide +kernel
theorem dX2_searchAll_123 : decode cX2_searchAll 123 = .ok (.istore 4, 2) := by decide +kernel
theorem dX2_searchAll_125 : decode cX2_searchAll 125 = .ok (.iload 4, 2) := by decide +kernel
theorem dX2_searchAll_127 : decode cX2_searchAll 127 = .ok (.aload_n 0, 1) := by decide +kernel
theorem dX2_searchAll_128 : decode cX2_searchAll 128 = .ok (.iconst 3, 1) := by decide +kernel
theorem dX2_searchAll_129 : decode cX2_searchAll 129 = .ok (.invokevirtual 78, 3) := by decide +kernel
theorem dX2_searchAll_132 : decode cX2_searchAll 132 = .ok (.if_icmp .ge 48, 3) := by decide +kernel
theorem dX2_searchAll_135 : decode cX2_searchAll 135 = .ok (.iload 4, 2) := by decide +kernel
theorem dX2_searchAll_137 : decode cX2_searchAll 137 = .ok (.iload_n 1, 1) := by decide +kernel
theorem dX2_searchAll_138 : decode cX2_searchAll 138 = .ok (.invokestatic 82, 3) := by decide +kernel
theorem dX2_searchAll_141 : decode cX2_searchAll 141 = .ok (.ifCond .ne 33, 3) := by decide +kernel
theorem dX2_searchAll_144 : decode cX2_searchAll 144 = .ok (.iload 4, 2) := by decide +kernel
theorem dX2_searchAll_146 : decode cX2_searchAll 146 = .ok (.iload_n 2, 1) := by decide +kernel
theorem dX2_searchAll_147 : decode cX2_searchAll 147 = .ok (.invokestatic 82, 3) := by decide +kernel
theorem dX2_searchAll_150 : decode cX2_searchAll 150 = .ok (.ifCond .ne 24, 3) := by decide +kernel
theorem dX2_searchAll_153 : decode cX2_searchAll 153 = .ok (.iload 4, 2) := by decide +kernel
theorem dX2_searchAll_155 : decode cX2_searchAll 155 = .ok (.iload_n 3, 1) := by decide +kernel
theorem dX2_searchAll_156 : decode cX2_searchAll 156 = .ok (.invokestatic 82, 3) := by decide +kernel
theorem dX2_searchAll_159 : decode cX2_searchAll 159 = .ok (.ifCond .ne 15, 3) := by decide +kernel
theorem dX2_searchAll_162 : decode cX2_searchAll 162 = .ok (.aload_n 0, 1) := by decide +kernel
theorem dX2_searchAll_163 : decode cX2_searchAll 163 = .ok (.getfield 9, 3) := by decide +kernel
theorem dX2_searchAll_166 : decode cX2_searchAll 166 = .ok (.iconst 3, 1) := by decide +kernel
theorem dX2_searchAll_167 : decode cX2_searchAll 167 = .ok (.iload 4, 2) := by decide +kernel
theorem dX2_searchAll_169 : decode cX2_searchAll 169 = .ok (.iastore, 1) := by decide +kernel
theorem dX2_searchAll_170 : decode cX2_searchAll 170 = .ok (.aload_n 0, 1) := by decide +kernel
theorem dX2_searchAll_171 : decode cX2_searchAll 171 = .ok (.invokevirtual 86, 3) := by decide +kernel
theorem dX2_searchAll_174 : decode cX2_searchAll 174 = .ok (.iinc 4 1, 3) := by decide +kernel
theorem dX2_searchAll_177 : decode cX2_searchAll 177 = .ok (.goto (-52), 3) := by decide +kernel
theorem dX2_searchAll_180 : decode cX2_searchAll 180 = .ok (.iinc 3 1, 3) := by decide +kernel
theorem dX2_searchAll_183 : decode cX2_searchAll 183 = .ok (.goto (-96), 3) := by decide +kernel
theorem dX2_searchAll_186 : decode cX2_searchAll 186 = .ok (.iinc 2 1, 3) := by decide +kernel
theorem dX2_searchAll_189 : decode cX2_searchAll 189 = .ok (.goto (-131), 3) := by decide +kernel
theorem dX2_searchAll_192 : decode cX2_searchAll 192 = .ok (.iinc 1 1, 3) := by decide +kernel
theorem dX2_searchAll_195 : decode cX2_searchAll 195 = .ok (.goto (-155), 3) := by decide +kernel
theorem dX2_searchAll_198 : decode cX2_searchAll 198 = .ok (.return_, 1) := by decide +kernel
theorem dX2_weigh_0 : decode cX2_weigh 0 = .ok (.aload_n 0, 1) := by decide +kernel
theorem dX2_weigh_1 : decode cX2_weigh 1 = .ok (.getfield 29, 3) := by decide +kernel
theorem dX2_weigh_4 : decode cX2_weigh 4 = .ok (.getfield 89, 3) := by decide +kernel
theorem dX2_weigh_7 : decode cX2_weigh 7 = .ok (.aload_n 0, 1) := by decide +kernel
theorem dX2_weigh_8 : decode cX2_weigh 8 = .ok (.getfield 9, 3) := by decide +kernel
theorem dX2_weigh_11 : decode cX2_weigh 11 = .ok (.aload_n 0, 1) := by decide +kernel
theorem dX2_weigh_12 : decode cX2_weigh 12 = .ok (.getfield 29, 3) := by decide +kernel
theorem dX2_weigh_15 : decode cX2_weigh 15 = .ok (.getfield 93, 3) := by decide +kernel
theorem dX2_weigh_18 : decode cX2_weigh 18 = .ok (.invokevirtual 96, 3) := by decide +kernel
theorem dX2_weigh_21 : decode cX2_weigh 21 = .ok (.ifCond .ne 4, 3) := by decide +kernel
theorem dX2_weigh_24 : decode cX2_weigh 24 = .ok (.return_, 1) := by decide +kernel
theorem dX2_weigh_25 : decode cX2_weigh 25 = .ok (.iconst 0, 1) := by decide +kernel
theorem dX2_weigh_26 : decode cX2_weigh 26 = .ok (.istore_n 1, 1) := by decide +kernel
theorem dX2_weigh_27 : decode cX2_weigh 27 = .ok (.iconst 0, 1) := by decide +kernel
theorem dX2_weigh_28 : decode cX2_weigh 28 = .ok (.istore_n 2, 1) := by decide +kernel
theorem dX2_weigh_29 : decode cX2_weigh 29 = .ok (.iload_n 2, 1) := by decide +kernel
theorem dX2_weigh_30 : decode cX2_weigh 30 = .ok (.aload_n 0, 1) := by decide +kernel
theorem dX2_weigh_31 : decode cX2_weigh 31 = .ok (.getfield 18, 3) := by decide +kernel
theorem dX2_weigh_34 : decode cX2_weigh 34 = .ok (.if_icmp .ge 46, 3) := by decide +kernel
theorem dX2_weigh_37 : decode cX2_weigh 37 = .ok (.iload_n 1, 1) := by decide +kernel
theorem dX2_weigh_38 : decode cX2_weigh 38 = .ok (.aload_n 0, 1) := by decide +kernel
theorem dX2_weigh_39 : decode cX2_weigh 39 = .ok (.getfield 67, 3) := by decide +kernel
theorem dX2_weigh_42 : decode cX2_weigh 42 = .ok (.if_icmp .gt 38, 3) := by decide +kernel
theorem dX2_weigh_45 : decode cX2_weigh 45 = .ok (.iload_n 1, 1) := by decide +kernel
theorem dX2_weigh_46 : decode cX2_weigh 46 = .ok (.aload_n 0, 1) := by decide +kernel
theorem dX2_weigh_47 : decode cX2_weigh 47 = .ok (.getfield 33, 3) := by decide +kernel
theorem dX2_weigh_50 : decode cX2_weigh 50 = .ok (.iload_n 2, 1) := by decide +kernel
theorem dX2_weigh_51 : decode cX2_weigh 51 = .ok (.aload_n 0, 1) := by decide +kernel
theorem dX2_weigh_52 : decode cX2_weigh 52 = .ok (.getfield 15, 3) := by decide +kernel
theorem dX2_weigh_55 : decode cX2_weigh 55 = .ok (.iload_n 2, 1) := by decide +kernel
theorem dX2_weigh_56 : decode cX2_weigh 56 = .ok (.iaload, 1) := by decide +kernel
theorem dX2_weigh_57 : decode cX2_weigh 57 = .ok (.aload_n 0, 1) := by decide +kernel
theorem dX2_weigh_58 : decode cX2_weigh 58 = .ok (.getfield 9, 3) := by decide +kernel
theorem dX2_weigh_61 : decode cX2_weigh 61 = .ok (.invokevirtual 102, 3) := by decide +kernel
theorem dX2_weigh_64 : decode cX2_weigh 64 = .ok (.iadd, 1) := by decide +kernel
theorem dX2_weigh_65 : decode cX2_weigh 65 = .ok (.istore_n 1, 1) := by decide +kernel
theorem dX2_weigh_66 : decode cX2_weigh 66 = .ok (.iload_n 2, 1) := by decide +kernel
theorem dX2_weigh_67 : decode cX2_weigh 67 = .ok (.ifCond .ne 7, 3) := by decide +kernel
theorem dX2_weigh_70 : decode cX2_weigh 70 = .ok (.aload_n 0, 1) := by decide +kernel
theorem dX2_weigh_71 : decode cX2_weigh 71 = .ok (.invokevirtual 106, 3) := by decide +kernel
theorem dX2_weigh_74 : decode cX2_weigh 74 = .ok (.iinc 2 1, 3) := by decide +kernel
theorem dX2_weigh_77 : decode cX2_weigh 77 = .ok (.goto (-48), 3) := by decide +kernel
theorem dX2_weigh_80 : decode cX2_weigh 80 = .ok (.iload_n 1, 1) := by decide +kernel
theorem dX2_weigh_81 : decode cX2_weigh 81 = .ok (.ifCond .ne 13, 3) := by decide +kernel
theorem dX2_weigh_84 : decode cX2_weigh 84 = .ok (.aload_n 0, 1) := by decide +kernel
theorem dX2_weigh_85 : decode cX2_weigh 85 = .ok (.dup, 1) := by decide +kernel
theorem dX2_weigh_86 : decode cX2_weigh 86 = .ok (.getfield 73, 3) := by decide +kernel
theorem dX2_weigh_89 : decode cX2_weigh 89 = .ok (.iconst 1, 1) := by decide +kernel
theorem dX2_weigh_90 : decode cX2_weigh 90 = .ok (.iadd, 1) := by decide +kernel
theorem dX2_weigh_91 : decode cX2_weigh 91 = .ok (.putfield 73, 3) := by decide +kernel
theorem dX2_weigh_94 : decode cX2_weigh 94 = .ok (.aload_n 0, 1) := by decide +kernel
theorem dX2_weigh_95 : decode cX2_weigh 95 = .ok (.getfield 9, 3) := by decide +kernel
theorem dX2_weigh_98 : decode cX2_weigh 98 = .ok (.invokestatic 109, 3) := by decide +kernel
theorem dX2_weigh_101 : decode cX2_weigh 101 = .ok (.istore_n 2, 1) := by decide +kernel
theorem dX2_weigh_102 : decode cX2_weigh 102 = .ok (.iload_n 1, 1) := by decide +kernel
theorem dX2_weigh_103 : decode cX2_weigh 103 = .ok (.aload_n 0, 1) := by decide +kernel
theorem dX2_weigh_104 : decode cX2_weigh 104 = .ok (.getfield 67, 3) := by decide +kernel
theorem dX2_weigh_107 : decode cX2_weigh 107 = .ok (.if_icmp .lt 19, 3) := by decide +kernel
theorem dX2_weigh_110 : decode cX2_weigh 110 = .ok (.iload_n 1, 1) := by decide +kernel
theorem dX2_weigh_111 : decode cX2_weigh 111 = .ok (.aload_n 0, 1) := by decide +kernel
theorem dX2_weigh_112 : decode cX2_weigh 112 = .ok (.getfield 67, 3) := by decide +kernel
theorem dX2_weigh_115 : decode cX2_weigh 115 = .ok (.if_icmp .ne 35, 3) := by decide +kernel
theorem dX2_weigh_118 : decode cX2_weigh 118 = .ok (.iload_n 2, 1) := by decide +kernel
theorem dX2_weigh_119 : decode cX2_weigh 119 = .ok (.aload_n 0, 1) := by decide +kernel
theorem dX2_weigh_120 : decode cX2_weigh 120 = .ok (.getfield 70, 3) := by decide +kernel
theorem dX2_weigh_123 : decode cX2_weigh 123 = .ok (.if_icmp .ge 27, 3) := by decide +kernel
theorem dX2_weigh_126 : decode cX2_weigh 126 = .ok (.aload_n 0, 1) := by decide +kernel
theorem dX2_weigh_127 : decode cX2_weigh 127 = .ok (.iload_n 1, 1) := by decide +kernel
theorem dX2_weigh_128 : decode cX2_weigh 128 = .ok (.putfield 67, 3) := by decide +kernel
theorem dX2_weigh_131 : decode cX2_weigh 131 = .ok (.aload_n 0, 1) := by decide +kernel
theorem dX2_weigh_132 : decode cX2_weigh 132 = .ok (.iload_n 2, 1) := by decide +kernel
theorem dX2_weigh_133 : decode cX2_weigh 133 = .ok (.putfield 70, 3) := by decide +kernel
theorem dX2_weigh_136 : decode cX2_weigh 136 = .ok (.aload_n 0, 1) := by decide +kernel
theorem dX2_weigh_137 : decode cX2_weigh 137 = .ok (.getfield 9, 3) := by decide +kernel
theorem dX2_weigh_140 : decode cX2_weigh 140 = .ok (.iconst 0, 1) := by decide +kernel
theorem dX2_weigh_141 : decode cX2_weigh 141 = .ok (.aload_n 0, 1) := by decide +kernel
theorem dX2_weigh_142 : decode cX2_weigh 142 = .ok (.getfield 22, 3) := by decide +kernel
theorem dX2_weigh_145 : decode cX2_weigh 145 = .ok (.iconst 0, 1) := by decide +kernel
theorem dX2_weigh_146 : decode cX2_weigh 146 = .ok (.iconst 4, 1) := by decide +kernel
theorem dX2_weigh_147 : decode cX2_weigh 147 = .ok (.invokestatic 113, 3) := by decide +kernel
theorem dX2_weigh_150 : decode cX2_weigh 150 = .ok (.return_, 1) := by decide +kernel
theorem dX2_keepAlwaysMissed_0 : decode cX2_keepAlwaysMissed 0 = .ok (.iconst 0, 1) := by decide +kernel
theorem dX2_keepAlwaysMissed_1 : decode cX2_keepAlwaysMissed 1 = .ok (.istore_n 1, 1) := by decide +kernel
theorem dX2_keepAlwaysMissed_2 : decode cX2_keepAlwaysMissed 2 = .ok (.iload_n 1, 1) := by decide +kernel
theorem dX2_keepAlwaysMissed_3 : decode cX2_keepAlwaysMissed 3 = .ok (.iconst 3, 1) := by decide +kernel
theorem dX2_keepAlwaysMissed_4 : decode cX2_keepAlwaysMissed 4 = .ok (.if_icmp .ge 27, 3) := by decide +kernel
theorem dX2_keepAlwaysMissed_7 : decode cX2_keepAlwaysMissed 7 = .ok (.aload_n 0, 1) := by decide +kernel
theorem dX2_keepAlwaysMissed_8 : decode cX2_keepAlwaysMissed 8 = .ok (.getfield 25, 3) := by decide +kernel
theorem dX2_keepAlwaysMissed_11 : decode cX2_keepAlwaysMissed 11 = .ok (.iload_n 1, 1) := by decide +kernel
theorem dX2_keepAlwaysMissed_12 : decode cX2_keepAlwaysMissed 12 = .ok (.dup2, 1) := by decide +kernel
theorem dX2_keepAlwaysMissed_13 : decode cX2_keepAlwaysMissed 13 = .ok (.laload, 1) := by decide +kernel
theorem dX2_keepAlwaysMissed_14 : decode cX2_keepAlwaysMissed 14 = .ok (.aload_n 0, 1) := by decide +kernel
theorem dX2_keepAlwaysMissed_15 : decode cX2_keepAlwaysMissed 15 = .ok (.getfield 33, 3) := by decide +kernel
theorem dX2_keepAlwaysMissed_18 : decode cX2_keepAlwaysMissed 18 = .ok (.getfield 119, 3) := by decide +kernel
theorem dX2_keepAlwaysMissed_21 : decode cX2_keepAlwaysMissed 21 = .ok (.iload_n 1, 1) := by decide +kernel
theorem dX2_keepAlwaysMissed_22 : decode cX2_keepAlwaysMissed 22 = .ok (.laload, 1) := by decide +kernel
theorem dX2_keepAlwaysMissed_23 : decode cX2_keepAlwaysMissed 23 = .ok (.land, 1) := by decide +kernel
theorem dX2_keepAlwaysMissed_24 : decode cX2_keepAlwaysMissed 24 = .ok (.lastore, 1) := by decide +kernel
theorem dX2_keepAlwaysMissed_25 : decode cX2_keepAlwaysMissed 25 = .ok (.iinc 1 1, 3) := by decide +kernel
theorem dX2_keepAlwaysMissed_28 : decode cX2_keepAlwaysMissed 28 = .ok (.goto (-26), 3) := by decide +kernel
theorem dX2_keepAlwaysMissed_31 : decode cX2_keepAlwaysMissed 31 = .ok (.return_, 1) := by decide +kernel
theorem dX2_tryPut_0 : decode cX2_tryPut 0 = .ok (.aload_n 0, 1) := by decide +kernel
theorem dX2_tryPut_1 : decode cX2_tryPut 1 = .ok (.getfield 29, 3) := by decide +kernel
theorem dX2_tryPut_4 : decode cX2_tryPut 4 = .ok (.getfield 122, 3) := by decide +kernel
theorem dX2_tryPut_7 : decode cX2_tryPut 7 = .ok (.iconst 0, 1) := by decide +kernel
theorem dX2_tryPut_8 : decode cX2_tryPut 8 = .ok (.aload_n 0, 1) := by decide +kernel
theorem dX2_tryPut_9 : decode cX2_tryPut 9 = .ok (.getfield 9, 3) := by decide +kernel
theorem dX2_tryPut_12 : decode cX2_tryPut 12 = .ok (.iconst 0, 1) := by decide +kernel
theorem dX2_tryPut_13 : decode cX2_tryPut 13 = .ok (.iconst 4, 1) := by decide +kernel
theorem dX2_tryPut_14 : decode cX2_tryPut 14 = .ok (.invokestatic 113, 3) := by decide +kernel
theorem dX2_tryPut_17 : decode cX2_tryPut 17 = .ok (.aload_n 0, 1) := by decide +kernel
theorem dX2_tryPut_18 : decode cX2_tryPut 18 = .ok (.getfield 9, 3) := by decide +kernel
theorem dX2_tryPut_21 : decode cX2_tryPut 21 = .ok (.iload_n 1, 1) := by decide +kernel
theorem dX2_tryPut_22 : decode cX2_tryPut 22 = .ok (.iload_n 2, 1) := by decide +kernel
theorem dX2_tryPut_23 : decode cX2_tryPut 23 = .ok (.invokestatic 125, 3) := by decide +kernel
theorem dX2_tryPut_26 : decode cX2_tryPut 26 = .ok (.return_, 1) := by decide +kernel
theorem dX2_oneBetter_0 : decode cX2_oneBetter 0 = .ok (.aload_n 0, 1) := by decide +kernel
theorem dX2_oneBetter_1 : decode cX2_oneBetter 1 = .ok (.getfield 33, 3) := by decide +kernel
theorem dX2_oneBetter_4 : decode cX2_oneBetter 4 = .ok (.iconst 0, 1) := by decide +kernel
theorem dX2_oneBetter_5 : decode cX2_oneBetter 5 = .ok (.iload_n 1, 1) := by decide +kernel
theorem dX2_oneBetter_6 : decode cX2_oneBetter 6 = .ok (.aload_n 0, 1) := by decide +kernel
theorem dX2_oneBetter_7 : decode cX2_oneBetter 7 = .ok (.getfield 29, 3) := by decide +kernel
theorem dX2_oneBetter_10 : decode cX2_oneBetter 10 = .ok (.getfield 122, 3) := by decide +kernel
theorem dX2_oneBetter_13 : decode cX2_oneBetter 13 = .ok (.invokevirtual 102, 3) := by decide +kernel
theorem dX2_oneBetter_16 : decode cX2_oneBetter 16 = .ok (.istore_n 2, 1) := by decide +kernel
theorem dX2_oneBetter_17 : decode cX2_oneBetter 17 = .ok (.iconst (-1), 1) := by decide +kernel
theorem dX2_oneBetter_18 : decode cX2_oneBetter 18 = .ok (.istore_n 3, 1) := by decide +kernel
theorem dX2_oneBetter_19 : decode cX2_oneBetter 19 = .ok (.iconst 0, 1) := by decide +kernel
theorem dX2_oneBetter_20 : decode cX2_oneBetter 20 = .ok (.istore 4, 2) := by decide +kernel
theorem dX2_oneBetter_22 : decode cX2_oneBetter 22 = .ok (.iload 4, 2) := by decide +kernel
theorem dX2_oneBetter_24 : decode cX2_oneBetter 24 = .ok (.aload_n 0, 1) := by decide +kernel
theorem dX2_oneBetter_25 : decode cX2_oneBetter 25 = .ok (.getfield 29, 3) := by decide +kernel
theorem dX2_oneBetter_28 : decode cX2_oneBetter 28 = .ok (.getfield 60, 3) := by decide +kernel
theorem dX2_oneBetter_31 : decode cX2_oneBetter 31 = .ok (.if_icmp .ge 100, 3) := by decide +kernel
theorem dX2_oneBetter_34 : decode cX2_oneBetter 34 = .ok (.iconst (-1), 1) := by decide +kernel
theorem dX2_oneBetter_35 : decode cX2_oneBetter 35 = .ok (.istore 5, 2) := by decide +kernel
theorem dX2_oneBetter_37 : decode cX2_oneBetter 37 = .ok (.iload 5, 2) := by decide +kernel
theorem dX2_oneBetter_39 : decode cX2_oneBetter 39 = .ok (.aload_n 0, 1) := by decide +kernel
theorem dX2_oneBetter_40 : decode cX2_oneBetter 40 = .ok (.getfield 29, 3) := by decide +kernel
theorem dX2_oneBetter_43 : decode cX2_oneBetter 43 = .ok (.getfield 63, 3) := by decide +kernel
theorem dX2_oneBetter_46 : decode cX2_oneBetter 46 = .ok (.if_icmp .ge 79, 3) := by decide +kernel
theorem dX2_oneBetter_49 : decode cX2_oneBetter 49 = .ok (.aload_n 0, 1) := by decide +kernel
theorem dX2_oneBetter_50 : decode cX2_oneBetter 50 = .ok (.iload 4, 2) := by decide +kernel
theorem dX2_oneBetter_52 : decode cX2_oneBetter 52 = .ok (.iload 5, 2) := by decide +kernel
theorem dX2_oneBetter_54 : decode cX2_oneBetter 54 = .ok (.invokevirtual 129, 3) := by decide +kernel
theorem dX2_oneBetter_57 : decode cX2_oneBetter 57 = .ok (.aload_n 0, 1) := by decide +kernel
theorem dX2_oneBetter_58 : decode cX2_oneBetter 58 = .ok (.getfield 29, 3) := by decide +kernel
theorem dX2_oneBetter_61 : decode cX2_oneBetter 61 = .ok (.getfield 89, 3) := by decide +kernel
theorem dX2_oneBetter_64 : decode cX2_oneBetter 64 = .ok (.aload_n 0, 1) := by decide +kernel
theorem dX2_oneBetter_65 : decode cX2_oneBetter 65 = .ok (.getfield 9, 3) := by decide +kernel
theorem dX2_oneBetter_68 : decode cX2_oneBetter 68 = .ok (.aload_n 0, 1) := by decide +kernel
theorem dX2_oneBetter_69 : decode cX2_oneBetter 69 = .ok (.getfield 29, 3) := by decide +kernel
theorem dX2_oneBetter_72 : decode cX2_oneBetter 72 = .ok (.getfield 93, 3) := by decide +kernel
theorem dX2_oneBetter_75 : decode cX2_oneBetter 75 = .ok (.invokevirtual 96, 3) := by decide +kernel
theorem dX2_oneBetter_78 : decode cX2_oneBetter 78 = .ok (.ifCond .ne 6, 3) := by decide +kernel
theorem dX2_oneBetter_81 : decode cX2_oneBetter 81 = .ok (.goto 38, 3) := by decide +kernel
theorem dX2_oneBetter_84 : decode cX2_oneBetter 84 = .ok (.aload_n 0, 1) := by decide +kernel
theorem dX2_oneBetter_85 : decode cX2_oneBetter 85 = .ok (.getfield 33, 3) := by decide +kernel
theorem dX2_oneBetter_88 : decode cX2_oneBetter 88 = .ok (.iconst 0, 1) := by decide +kernel
theorem dX2_oneBetter_89 : decode cX2_oneBetter 89 = .ok (.iload_n 1, 1) := by decide +kernel
theorem dX2_oneBetter_90 : decode cX2_oneBetter 90 = .ok (.aload_n 0, 1) := by decide +kernel
theorem dX2_oneBetter_91 : decode cX2_oneBetter 91 = .ok (.getfield 9, 3) := by decide +kernel
theorem dX2_oneBetter_94 : decode cX2_oneBetter 94 = .ok (.invokevirtual 102, 3) := by decide +kernel
theorem dX2_oneBetter_97 : decode cX2_oneBetter 97 = .ok (.istore 6, 2) := by decide +kernel
theorem dX2_oneBetter_99 : decode cX2_oneBetter 99 = .ok (.iload 6, 2) := by decide +kernel
theorem dX2_oneBetter_101 : decode cX2_oneBetter 101 = .ok (.iload_n 2, 1) := by decide +kernel
theorem dX2_oneBetter_102 : decode cX2_oneBetter 102 = .ok (.if_icmp .ge 17, 3) := by decide +kernel
theorem dX2_oneBetter_105 : decode cX2_oneBetter 105 = .ok (.iload 6, 2) := by decide +kernel
theorem dX2_oneBetter_107 : decode cX2_oneBetter 107 = .ok (.istore_n 2, 1) := by decide +kernel
theorem dX2_oneBetter_108 : decode cX2_oneBetter 108 = .ok (.bipush 10, 2) := by decide +kernel
theorem dX2_oneBetter_110 : decode cX2_oneBetter 110 = .ok (.iload 4, 2) := by decide +kernel
theorem dX2_oneBetter_112 : decode cX2_oneBetter 112 = .ok (.imul, 1) := by decide +kernel
theorem dX2_oneBetter_113 : decode cX2_oneBetter 113 = .ok (.iload 5, 2) := by decide +kernel
theorem dX2_oneBetter_115 : decode cX2_oneBetter 115 = .ok (.iadd, 1) := by decide +kernel
theorem dX2_oneBetter_116 : decode cX2_oneBetter 116 = .ok (.iconst 1, 1) := by decide +kernel
theorem dX2_oneBetter_117 : decode cX2_oneBetter 117 = .ok (.iadd, 1) := by decide +kernel
theorem dX2_oneBetter_118 : decode cX2_oneBetter 118 = .ok (.istore_n 3, 1) := by decide +kernel
theorem dX2_oneBetter_119 : decode cX2_oneBetter 119 = .ok (.iinc 5 1, 3) := by decide +kernel
theorem dX2_oneBetter_122 : decode cX2_oneBetter 122 = .ok (.goto (-85), 3) := by decide +kernel
theorem dX2_oneBetter_125 : decode cX2_oneBetter 125 = .ok (.iinc 4 1, 3) := by decide +kernel
theorem dX2_oneBetter_128 : decode cX2_oneBetter 128 = .ok (.goto (-106), 3) := by decide +kernel
theorem dX2_oneBetter_131 : decode cX2_oneBetter 131 = .ok (.iload_n 3, 1) := by decide +kernel
theorem dX2_oneBetter_132 : decode cX2_oneBetter 132 = .ok (.ireturn, 1) := by decide +kernel
theorem dX2_missesWithout_0 : decode cX2_missesWithout 0 = .ok (.aload_n 0, 1) := by decide +kernel
theorem dX2_missesWithout_1 : decode cX2_missesWithout 1 = .ok (.iload_n 1, 1) := by decide +kernel
theorem dX2_missesWithout_2 : decode cX2_missesWithout 2 = .ok (.iconst (-1), 1) := by decide +kernel
theorem dX2_missesWithout_3 : decode cX2_missesWithout 3 = .ok (.invokevirtual 129, 3) := by decide +kernel
theorem dX2_missesWithout_6 : decode cX2_missesWithout 6 = .ok (.aload_n 0, 1) := by decide +kernel
theorem dX2_missesWithout_7 : decode cX2_missesWithout 7 = .ok (.getfield 33, 3) := by decide +kernel
theorem dX2_missesWithout_10 : decode cX2_missesWithout 10 = .ok (.iconst 0, 1) := by decide +kernel
theorem dX2_missesWithout_11 : decode cX2_missesWithout 11 = .ok (.iload_n 2, 1) := by decide +kernel
theorem dX2_missesWithout_12 : decode cX2_missesWithout 12 = .ok (.aload_n 0, 1) := by decide +kernel
theorem dX2_missesWithout_13 : decode cX2_missesWithout 13 = .ok (.getfield 9, 3) := by decide +kernel
theorem dX2_missesWithout_16 : decode cX2_missesWithout 16 = .ok (.invokevirtual 102, 3) := by decide +kernel
theorem dX2_missesWithout_19 : decode cX2_missesWithout 19 = .ok (.ireturn, 1) := by decide +kernel
theorem dX2_useless_0 : decode cX2_useless 0 = .ok (.aload_n 0, 1) := by decide +kernel
theorem dX2_useless_1 : decode cX2_useless 1 = .ok (.getfield 33, 3) := by decide +kernel
theorem dX2_useless_4 : decode cX2_useless 4 = .ok (.iconst 0, 1) := by decide +kernel
theorem dX2_useless_5 : decode cX2_useless 5 = .ok (.aload_n 0, 1) := by decide +kernel
theorem dX2_useless_6 : decode cX2_useless 6 = .ok (.getfield 29, 3) := by decide +kernel
theorem dX2_useless_9 : decode cX2_useless 9 = .ok (.getfield 122, 3) := by decide +kernel
theorem dX2_useless_12 : decode cX2_useless 12 = .ok (.iconst 0, 1) := by decide +kernel
theorem dX2_useless_13 : decode cX2_useless 13 = .ok (.invokevirtual 133, 3) := by decide +kernel
theorem dX2_useless_16 : decode cX2_useless 16 = .ok (.aload_n 0, 1) := by decide +kernel
theorem dX2_useless_17 : decode cX2_useless 17 = .ok (.getfield 33, 3) := by decide +kernel
theorem dX2_useless_20 : decode cX2_useless 20 = .ok (.invokevirtual 137, 3) := by decide +kernel
theorem dX2_useless_23 : decode cX2_useless 23 = .ok (.iconst 0, 1) := by decide +kernel
theorem dX2_useless_24 : decode cX2_useless 24 = .ok (.istore_n 1, 1) := by decide +kernel
theorem dX2_useless_25 : decode cX2_useless 25 = .ok (.iconst 0, 1) := by decide +kernel
theorem dX2_useless_26 : decode cX2_useless 26 = .ok (.istore_n 2, 1) := by decide +kernel
theorem dX2_useless_27 : decode cX2_useless 27 = .ok (.iload_n 2, 1) := by decide +kernel
theorem dX2_useless_28 : decode cX2_useless 28 = .ok (.iconst 4, 1) := by decide +kernel
theorem dX2_useless_29 : decode cX2_useless 29 = .ok (.if_icmp .ge 62, 3) := by decide +kernel
theorem dX2_useless_32 : decode cX2_useless 32 = .ok (.aload_n 0, 1) := by decide +kernel
theorem dX2_useless_33 : decode cX2_useless 33 = .ok (.getfield 29, 3) := by decide +kernel
theorem dX2_useless_36 : decode cX2_useless 36 = .ok (.getfield 122, 3) := by decide +kernel
theorem dX2_useless_39 : decode cX2_useless 39 = .ok (.iload_n 2, 1) := by decide +kernel
theorem dX2_useless_40 : decode cX2_useless 40 = .ok (.iaload, 1) := by decide +kernel
theorem dX2_useless_41 : decode cX2_useless 41 = .ok (.istore_n 3, 1) := by decide +kernel
theorem dX2_useless_42 : decode cX2_useless 42 = .ok (.iload_n 3, 1) := by decide +kernel
theorem dX2_useless_43 : decode cX2_useless 43 = .ok (.iconst (-1), 1) := by decide +kernel
theorem dX2_useless_44 : decode cX2_useless 44 = .ok (.if_icmp .ne 6, 3) := by decide +kernel
theorem dX2_useless_47 : decode cX2_useless 47 = .ok (.goto 38, 3) := by decide +kernel
theorem dX2_useless_50 : decode cX2_useless 50 = .ok (.aload_n 0, 1) := by decide +kernel
theorem dX2_useless_51 : decode cX2_useless 51 = .ok (.iload_n 2, 1) := by decide +kernel
theorem dX2_useless_52 : decode cX2_useless 52 = .ok (.iconst (-1), 1) := by decide +kernel
theorem dX2_useless_53 : decode cX2_useless 53 = .ok (.invokevirtual 129, 3) := by decide +kernel
theorem dX2_useless_56 : decode cX2_useless 56 = .ok (.aload_n 0, 1) := by decide +kernel
theorem dX2_useless_57 : decode cX2_useless 57 = .ok (.getfield 33, 3) := by decide +kernel
theorem dX2_useless_60 : decode cX2_useless 60 = .ok (.iconst 0, 1) := by decide +kernel
theorem dX2_useless_61 : decode cX2_useless 61 = .ok (.aload_n 0, 1) := by decide +kernel
theorem dX2_useless_62 : decode cX2_useless 62 = .ok (.getfield 9, 3) := by decide +kernel
theorem dX2_useless_65 : decode cX2_useless 65 = .ok (.iconst 0, 1) := by decide +kernel
theorem dX2_useless_66 : decode cX2_useless 66 = .ok (.invokevirtual 133, 3) := by decide +kernel
theorem dX2_useless_69 : decode cX2_useless 69 = .ok (.aload_n 0, 1) := by decide +kernel
theorem dX2_useless_70 : decode cX2_useless 70 = .ok (.getfield 33, 3) := by decide +kernel
theorem dX2_useless_73 : decode cX2_useless 73 = .ok (.invokevirtual 140, 3) := by decide +kernel
theorem dX2_useless_76 : decode cX2_useless 76 = .ok (.ifCond .ne 9, 3) := by decide +kernel
theorem dX2_useless_79 : decode cX2_useless 79 = .ok (.iload_n 1, 1) := by decide +kernel
theorem dX2_useless_80 : decode cX2_useless 80 = .ok (.iconst 1, 1) := by decide +kernel
theorem dX2_useless_81 : decode cX2_useless 81 = .ok (.iload_n 3, 1) := by decide +kernel
theorem dX2_useless_82 : decode cX2_useless 82 = .ok (.ishl, 1) := by decide +kernel
theorem dX2_useless_83 : decode cX2_useless 83 = .ok (.ior, 1) := by decide +kernel
theorem dX2_useless_84 : decode cX2_useless 84 = .ok (.istore_n 1, 1) := by decide +kernel
theorem dX2_useless_85 : decode cX2_useless 85 = .ok (.iinc 2 1, 3) := by decide +kernel
theorem dX2_useless_88 : decode cX2_useless 88 = .ok (.goto (-61), 3) := by decide +kernel
theorem dX2_useless_91 : decode cX2_useless 91 = .ok (.iload_n 1, 1) := by decide +kernel
theorem dX2_useless_92 : decode cX2_useless 92 = .ok (.ireturn, 1) := by decide +kernel
theorem dX3_init_0 : decode cX3_init 0 = .ok (.aload_n 0, 1) := by decide +kernel
theorem dX3_init_1 : decode cX3_init 1 = .ok (.invokespecial 3, 3) := by decide +kernel
theorem dX3_init_4 : decode cX3_init 4 = .ok (.aload_n 0, 1) := by decide +kernel
theorem dX3_init_5 : decode cX3_init 5 = .ok (.sipush 432, 3) := by decide +kernel
theorem dX3_init_8 : decode cX3_init 8 = .ok (.newarray .long, 2) := by decide +kernel
theorem dX3_init_10 : decode cX3_init 10 = .ok (.putfield 9, 3) := by decide +kernel
theorem dX3_init_13 : decode cX3_init 13 = .ok (.aload_n 0, 1) := by decide +kernel
theorem dX3_init_14 : decode cX3_init 14 = .ok (.sipush 432, 3) := by decide +kernel
theorem dX3_init_17 : decode cX3_init 17 = .ok (.newarray .long, 2) := by decide +kernel
theorem dX3_init_19 : decode cX3_init 19 = .ok (.putfield 15, 3) := by decide +kernel
theorem dX3_init_22 : decode cX3_init 22 = .ok (.aload_n 0, 1) := by decide +kernel
theorem dX3_init_23 : decode cX3_init 23 = .ok (.bipush 15, 2) := by decide +kernel
theorem dX3_init_25 : decode cX3_init 25 = .ok (.newarray .int, 2) := by decide +kernel
theorem dX3_init_27 : decode cX3_init 27 = .ok (.putfield 18, 3) := by decide +kernel
theorem dX3_init_30 : decode cX3_init 30 = .ok (.aload_n 0, 1) := by decide +kernel
theorem dX3_init_31 : decode cX3_init 31 = .ok (.bipush 15, 2) := by decide +kernel
theorem dX3_init_33 : decode cX3_init 33 = .ok (.newarray .int, 2) := by decide +kernel
theorem dX3_init_35 : decode cX3_init 35 = .ok (.putfield 22, 3) := by decide +kernel
theorem dX3_init_38 : decode cX3_init 38 = .ok (.aload_n 0, 1) := by decide +kernel
theorem dX3_init_39 : decode cX3_init 39 = .ok (.iconst 3, 1) := by decide +kernel
theorem dX3_init_40 : decode cX3_init 40 = .ok (.newarray .long, 2) := by decide +kernel
theorem dX3_init_42 : decode cX3_init 42 = .ok (.putfield 25, 3) := by decide +kernel
theorem dX3_init_45 : decode cX3_init 45 = .ok (.aload_n 0, 1) := by decide +kernel
theorem dX3_init_46 : decode cX3_init 46 = .ok (.iconst 3, 1) := by decide +kernel
theorem dX3_init_47 : decode cX3_init 47 = .ok (.newarray .long, 2) := by decide +kernel
theorem dX3_init_49 : decode cX3_init 49 = .ok (.putfield 28, 3) := by decide +kernel
theorem dX3_init_52 : decode cX3_init 52 = .ok (.aload_n 0, 1) := by decide +kernel
theorem dX3_init_53 : decode cX3_init 53 = .ok (.iconst 3, 1) := by decide +kernel
theorem dX3_init_54 : decode cX3_init 54 = .ok (.newarray .long, 2) := by decide +kernel
theorem dX3_init_56 : decode cX3_init 56 = .ok (.putfield 31, 3) := by decide +kernel
theorem dX3_init_59 : decode cX3_init 59 = .ok (.aload_n 0, 1) := by decide +kernel
theorem dX3_init_60 : decode cX3_init 60 = .ok (.iconst 3, 1) := by decide +kernel
theorem dX3_init_61 : decode cX3_init 61 = .ok (.newarray .long, 2) := by decide +kernel
theorem dX3_init_63 : decode cX3_init 63 = .ok (.putfield 34, 3) := by decide +kernel
theorem dX3_init_66 : decode cX3_init 66 = .ok (.aload_n 0, 1) := by decide +kernel
theorem dX3_init_67 : decode cX3_init 67 = .ok (.iconst 3, 1) := by decide +kernel
theorem dX3_init_68 : decode cX3_init 68 = .ok (.newarray .long, 2) := by decide +kernel
theorem dX3_init_70 : decode cX3_init 70 = .ok (.putfield 37, 3) := by decide +kernel
theorem dX3_init_73 : decode cX3_init 73 = .ok (.aload_n 0, 1) := by decide +kernel
theorem dX3_init_74 : decode cX3_init 74 = .ok (.aload_n 1, 1) := by decide +kernel
theorem dX3_init_75 : decode cX3_init 75 = .ok (.putfield 40, 3) := by decide +kernel
theorem dX3_init_78 : decode cX3_init 78 = .ok (.return_, 1) := by decide +kernel
theorem dX3_look_0 : decode cX3_look 0 = .ok (.iconst 0, 1) := by decide +kernel
theorem dX3_look_1 : decode cX3_look 1 = .ok (.istore 4, 2) := by decide +kernel
theorem dX3_look_3 : decode cX3_look 3 = .ok (.iload 4, 2) := by decide +kernel
theorem dX3_look_5 : decode cX3_look 5 = .ok (.aload_n 0, 1) := by decide +kernel
theorem dX3_look_6 : decode cX3_look 6 = .ok (.getfield 40, 3) := by decide +kernel
theorem dX3_look_9 : decode cX3_look 9 = .ok (.getfield 44, 3) := by decide +kernel
theorem dX3_look_12 : decode cX3_look 12 = .ok (.if_icmp .ge 71, 3) := by decide +kernel
theorem dX3_look_15 : decode cX3_look 15 = .ok (.iconst 0, 1) := by decide +kernel
theorem dX3_look_16 : decode cX3_look 16 = .ok (.istore 5, 2) := by decide +kernel
theorem dX3_look_18 : decode cX3_look 18 = .ok (.iload 5, 2) := by decide +kernel
theorem dX3_look_20 : decode cX3_look 20 = .ok (.aload_n 0, 1) := by decide +kernel
theorem dX3_look_21 : decode cX3_look 21 = .ok (.getfield 40, 3) := by decide +kernel
theorem dX3_look_24 : decode cX3_look 24 = .ok (.getfield 50, 3) := by decide +kernel
theorem dX3_look_27 : decode cX3_look 27 = .ok (.if_icmp .ge 50, 3) := by decide +kernel
theorem dX3_look_30 : decode cX3_look 30 = .ok (.aload_n 0, 1) := by decide +kernel
theorem dX3_look_31 : decode cX3_look 31 = .ok (.getfield 40, 3) := by decide +kernel
theorem dX3_look_34 : decode cX3_look 34 = .ok (.iload 5, 2) := by decide +kernel
theorem dX3_look_36 : decode cX3_look 36 = .ok (.iload_n 2, 1) := by decide +kernel
theorem dX3_look_37 : decode cX3_look 37 = .ok (.invokevirtual 53, 3) := by decide +kernel
theorem dX3_look_40 : decode cX3_look 40 = .ok (.ifCond .eq 16, 3) := by decide +kernel
theorem dX3_look_43 : decode cX3_look 43 = .ok (.aload_n 0, 1) := by decide +kernel
theorem dX3_look_44 : decode cX3_look 44 = .ok (.getfield 40, 3) := by decide +kernel
theorem dX3_look_47 : decode cX3_look 47 = .ok (.getfield 57, 3) := by decide +kernel
theorem dX3_look_50 : decode cX3_look 50 = .ok (.iload 5, 2) := by decide +kernel
theorem dX3_look_52 : decode cX3_look 52 = .ok (.iaload, 1) := by decide +kernel
theorem dX3_look_53 : decode cX3_look 53 = .ok (.goto 4, 3) := by decide +kernel
theorem dX3_look_56 : decode cX3_look 56 = .ok (.iconst 0, 1) := by decide +kernel
theorem dX3_look_57 : decode cX3_look 57 = .ok (.istore 6, 2) := by decide +kernel
theorem dX3_look_59 : decode cX3_look 59 = .ok (.aload_n 0, 1) := by decide +kernel
theorem dX3_look_60 : decode cX3_look 60 = .ok (.iload_n 1, 1) := by decide +kernel
theorem dX3_look_61 : decode cX3_look 61 = .ok (.iload 4, 2) := by decide +kernel
theorem dX3_look_63 : decode cX3_look 63 = .ok (.iload 5, 2) := by decide +kernel
theorem dX3_look_65 : decode cX3_look 65 = .ok (.iload_n 3, 1) := by decide +kernel
theorem dX3_look_66 : decode cX3_look 66 = .ok (.iload 6, 2) := by decide +kernel
theorem dX3_look_68 : decode cX3_look 68 = .ok (.invokevirtual 60, 3) := by decide +kernel
theorem dX3_look_71 : decode cX3_look 71 = .ok (.iinc 5 1, 3) := by decide +kernel
theorem dX3_look_74 : decode cX3_look 74 = .ok (.goto (-56), 3) := by decide +kernel
theorem dX3_look_77 : decode cX3_look 77 = .ok (.iinc 4 1, 3) := by decide +kernel
theorem dX3_look_80 : decode cX3_look 80 = .ok (.goto (-77), 3) := by decide +kernel
theorem dX3_look_83 : decode cX3_look 83 = .ok (.return_, 1) := by decide +kernel
theorem dX3_place_0 : decode cX3_place 0 = .ok (.iload_n 0, 1) := by decide +kernel
theorem dX3_place_1 : decode cX3_place 1 = .ok (.iconst 4, 1) := by decide +kernel
theorem dX3_place_2 : decode cX3_place 2 = .ok (.imul, 1) := by decide +kernel
theorem dX3_place_3 : decode cX3_place 3 = .ok (.iload_n 1, 1) := by decide +kernel
theorem dX3_place_4 : decode cX3_place 4 = .ok (.iadd, 1) := by decide +kernel
theorem dX3_place_5 : decode cX3_place 5 = .ok (.bipush 6, 2) := by decide +kernel
theorem dX3_place_7 : decode cX3_place 7 = .ok (.imul, 1) := by decide +kernel
theorem dX3_place_8 : decode cX3_place 8 = .ok (.iload_n 2, 1) := by decide +kernel
theorem dX3_place_9 : decode cX3_place 9 = .ok (.iadd, 1) := by decide +kernel
theorem dX3_place_10 : decode cX3_place 10 = .ok (.iconst 3, 1) := by decide +kernel
theorem dX3_place_11 : decode cX3_place 11 = .ok (.imul, 1) := by decide +kernel
theorem dX3_place_12 : decode cX3_place 12 = .ok (.ireturn, 1) := by decide +kernel
theorem dX3_cast_0 : decode cX3_cast 0 = .ok (.iload_n 1, 1) := by decide +kernel
theorem dX3_cast_1 : decode cX3_cast 1 = .ok (.iload_n 2, 1) := by decide +kernel
theorem dX3_cast_2 : decode cX3_cast 2 = .ok (.iload_n 3, 1) := by decide +kernel
theorem dX3_cast_3 : decode cX3_cast 3 = .ok (.invokestatic 64, 3) := by decide +kernel
theorem dX3_cast_6 : decode cX3_cast 6 = .ok (.istore 6, 2) := by decide +kernel
theorem dX3_cast_8 : decode cX3_cast 8 = .ok (.iconst 0, 1) := by decide +kernel
theorem dX3_cast_9 : decode cX3_cast 9 = .ok (.istore 7, 2) := by decide +kernel
theorem dX3_cast_11 : decode cX3_cast 11 = .ok (.iload 7, 2) := by decide +kernel
theorem dX3_cast_13 : decode cX3_cast 13 = .ok (.iconst 3, 1) := by decide +kernel
theorem dX3_cast_14 : decode cX3_cast 14 = .ok (.if_icmp .ge 31, 3) := by decide +kernel
theorem dX3_cast_17 : decode cX3_cast 17 = .ok (.aload_n 0, 1) := by decide +kernel
theorem dX3_cast_18 : decode cX3_cast 18 = .ok (.getfield 9, 3) := by decide +kernel
theorem dX3_cast_21 : decode cX3_cast 21 = .ok (.iload 6, 2) := by decide +kernel
theorem dX3_cast_23 : decode cX3_cast 23 = .ok (.iload 7, 2) := by decide +kernel
theorem dX3_cast_25 : decode cX3_cast 25 = .ok (.iadd, 1) := by decide +kernel
theorem dX3_cast_26 : decode cX3_cast 26 = .ok (.lconst 0, 1) := by decide +kernel
theorem dX3_cast_27 : decode cX3_cast 27 = .ok (.lastore, 1) := by decide +kernel
theorem dX3_cast_28 : decode cX3_cast 28 = .ok (.aload_n 0, 1) := by decide +kernel
theorem dX3_cast_29 : decode cX3_cast 29 = .ok (.getfield 15, 3) := by decide +kernel
theorem dX3_cast_32 : decode cX3_cast 32 = .ok (.iload 6, 2) := by decide +kernel
theorem dX3_cast_34 : decode cX3_cast 34 = .ok (.iload 7, 2) := by decide +kernel
theorem dX3_cast_36 : decode cX3_cast 36 = .ok (.iadd, 1) := by decide +kernel
theorem dX3_cast_37 : decode cX3_cast 37 = .ok (.lconst 0, 1) := by decide +kernel
theorem dX3_cast_38 : decode cX3_cast 38 = .ok (.lastore, 1) := by decide +kernel
theorem dX3_cast_39 : decode cX3_cast 39 = .ok (.iinc 7 1, 3) := by decide +kernel
theorem dX3_cast_42 : decode cX3_cast 42 = .ok (.goto (-31), 3) := by decide +kernel
theorem dX3_cast_45 : decode cX3_cast 45 = .ok (.iload 5, 2) := by decide +kernel
theorem dX3_cast_47 : decode cX3_cast 47 = .ok (.ifCond .ne 4, 3) := by decide +kernel
theorem dX3_cast_50 : decode cX3_cast 50 = .ok (.return_, 1) := by decide +kernel
theorem dX3_cast_51 : decode cX3_cast 51 = .ok (.aload_n 0, 1) := by decide +kernel
theorem dX3_cast_52 : decode cX3_cast 52 = .ok (.getfield 40, 3) := by decide +kernel
theorem dX3_cast_55 : decode cX3_cast 55 = .ok (.getfield 68, 3) := by decide +kernel
theorem dX3_cast_58 : decode cX3_cast 58 = .ok (.iload_n 2, 1) := by decide +kernel
theorem dX3_cast_59 : decode cX3_cast 59 = .ok (.iaload, 1) := by decide +kernel
theorem dX3_cast_60 : decode cX3_cast 60 = .ok (.iconst 1, 1) := by decide +kernel
theorem dX3_cast_61 : decode cX3_cast 61 = .ok (.isub, 1) := by decide +kernel
theorem dX3_cast_62 : decode cX3_cast 62 = .ok (.istore 7, 2) := by decide +kernel
theorem dX3_cast_64 : decode cX3_cast 64 = .ok (.aload_n 0, 1) := by decide +kernel
theorem dX3_cast_65 : decode cX3_cast 65 = .ok (.iload 5, 2) := by decide +kernel
theorem dX3_cast_67 : decode cX3_cast 67 = .ok (.iload 7, 2) := by decide +kernel
theorem dX3_cast_69 : decode cX3_cast 69 = .ok (.iconst 1, 1) := by decide +kernel
theorem dX3_cast_70 : decode cX3_cast 70 = .ok (.iadd, 1) := by decide +kernel
theorem dX3_cast_71 : decode cX3_cast 71 = .ok (.invokevirtual 71, 3) := by decide +kernel
theorem dX3_cast_74 : decode cX3_cast 74 = .ok (.iconst 0, 1) := by decide +kernel
theorem dX3_cast_75 : decode cX3_cast 75 = .ok (.istore 8, 2) := by decide +kernel
theorem dX3_cast_77 : decode cX3_cast 77 = .ok (.iload 8, 2) := by decide +kernel
theorem dX3_cast_79 : decode cX3_cast 79 = .ok (.aload_n 0, 1) := by decide +kernel
theorem dX3_cast_80 : decode cX3_cast 80 = .ok (.getfield 40, 3) := by decide +kernel
theorem dX3_cast_83 : decode cX3_cast 83 = .ok (.getfield 75, 3) := by decide +kernel
theorem dX3_cast_86 : decode cX3_cast 86 = .ok (.iload 7, 2) := by decide +kernel
theorem dX3_cast_88 : decode cX3_cast 88 = .ok (.imul, 1) := by decide +kernel
theorem dX3_cast_89 : decode cX3_cast 89 = .ok (.if_icmp .ge 13, 3) := by decide +kernel
theorem dX3_cast_92 : decode cX3_cast 92 = .ok (.aload_n 0, 1) := by decide +kernel
theorem dX3_cast_93 : decode cX3_cast 93 = .ok (.invokevirtual 78, 3) := by decide +kernel
theorem dX3_cast_96 : decode cX3_cast 96 = .ok (.iinc 8 1, 3) := by decide +kernel
theorem dX3_cast_99 : decode cX3_cast 99 = .ok (.goto (-22), 3) := by decide +kernel
theorem dX3_cast_102 : decode cX3_cast 102 = .ok (.aload_n 0, 1) := by decide +kernel
theorem dX3_cast_103 : decode cX3_cast 103 = .ok (.getfield 40, 3) := by decide +kernel
theorem dX3_cast_106 : decode cX3_cast 106 = .ok (.getfield 81, 3) := by decide +kernel
theorem dX3_cast_109 : decode cX3_cast 109 = .ok (.iload_n 2, 1) := by decide +kernel
theorem dX3_cast_110 : decode cX3_cast 110 = .ok (.iaload, 1) := by decide +kernel
theorem dX3_cast_111 : decode cX3_cast 111 = .ok (.iload 4, 2) := by decide +kernel
theorem dX3_cast_113 : decode cX3_cast 113 = .ok (.iload 7, 2) := by decide +kernel
theorem dX3_cast_115 : decode cX3_cast 115 = .ok (.imul, 1) := by decide +kernel
theorem dX3_cast_116 : decode cX3_cast 116 = .ok (.iadd, 1) := by decide +kernel
theorem dX3_cast_117 : decode cX3_cast 117 = .ok (.istore 8, 2) := by decide +kernel
theorem dX3_cast_119 : decode cX3_cast 119 = .ok (.aload_n 0, 1) := by decide +kernel
theorem dX3_cast_120 : decode cX3_cast 120 = .ok (.getfield 40, 3) := by decide +kernel
theorem dX3_cast_123 : decode cX3_cast 123 = .ok (.getfield 84, 3) := by decide +kernel
theorem dX3_cast_126 : decode cX3_cast 126 = .ok (.iload_n 2, 1) := by decide +kernel
theorem dX3_cast_127 : decode cX3_cast 127 = .ok (.iaload, 1) := by decide +kernel
theorem dX3_cast_128 : decode cX3_cast 128 = .ok (.istore 9, 2) := by decide +kernel
theorem dX3_cast_130 : decode cX3_cast 130 = .ok (.iconst 0, 1) := by decide +kernel
theorem dX3_cast_131 : decode cX3_cast 131 = .ok (.istore 10, 2) := by decide +kernel
theorem dX3_cast_133 : decode cX3_cast 133 = .ok (.iload 10, 2) := by decide +kernel
theorem dX3_cast_135 : decode cX3_cast 135 = .ok (.bipush 15, 2) := by decide +kernel
theorem dX3_cast_137 : decode cX3_cast 137 = .ok (.if_icmp .ge 114, 3) := by decide +kernel
theorem dX3_cast_140 : decode cX3_cast 140 = .ok (.iload 9, 2) := by decide +kernel
theorem dX3_cast_142 : decode cX3_cast 142 = .ok (.iload 10, 2) := by decide +kernel
theorem dX3_cast_144 : decode cX3_cast 144 = .ok (.iadd, 1) := by decide +kernel
theorem dX3_cast_145 : decode cX3_cast 145 = .ok (.istore 11, 2) := by decide +kernel
theorem dX3_cast_147 : decode cX3_cast 147 = .ok (.iload 11, 2) := by decide +kernel
theorem dX3_cast_149 : decode cX3_cast 149 = .ok (.ifCond .lt 96, 3) := by decide +kernel
theorem dX3_cast_152 : decode cX3_cast 152 = .ok (.iload 11, 2) := by decide +kernel
theorem dX3_cast_154 : decode cX3_cast 154 = .ok (.bipush 12, 2) := by decide +kernel
theorem dX3_cast_156 : decode cX3_cast 156 = .ok (.if_icmp .ge 89, 3) := by decide +kernel
theorem dX3_cast_159 : decode cX3_cast 159 = .ok (.bipush 12, 2) := by decide +kernel
theorem dX3_cast_161 : decode cX3_cast 161 = .ok (.iload 11, 2) := by decide +kernel
theorem dX3_cast_163 : decode cX3_cast 163 = .ok (.iconst 3, 1) := by decide +kernel
theorem dX3_cast_164 : decode cX3_cast 164 = .ok (.iand, 1) := by decide +kernel
theorem dX3_cast_165 : decode cX3_cast 165 = .ok (.imul, 1) := by decide +kernel
theorem dX3_cast_166 : decode cX3_cast 166 = .ok (.istore 12, 2) := by decide +kernel
theorem dX3_cast_168 : decode cX3_cast 168 = .ok (.aload_n 0, 1) := by decide +kernel
theorem dX3_cast_169 : decode cX3_cast 169 = .ok (.getfield 22, 3) := by decide +kernel
theorem dX3_cast_172 : decode cX3_cast 172 = .ok (.iload 10, 2) := by decide +kernel
theorem dX3_cast_174 : decode cX3_cast 174 = .ok (.iaload, 1) := by decide +kernel
theorem dX3_cast_175 : decode cX3_cast 175 = .ok (.iload 8, 2) := by decide +kernel
theorem dX3_cast_177 : decode cX3_cast 177 = .ok (.invokestatic 87, 3) := by decide +kernel
theorem dX3_cast_180 : decode cX3_cast 180 = .ok (.i2l, 1) := by decide +kernel
theorem dX3_cast_181 : decode cX3_cast 181 = .ok (.iload 12, 2) := by decide +kernel
theorem dX3_cast_183 : decode cX3_cast 183 = .ok (.lshl, 1) := by decide +kernel
theorem dX3_cast_184 : decode cX3_cast 184 = .ok (.lstore 13, 2) := by decide +kernel
theorem dX3_cast_186 : decode cX3_cast 186 = .ok (.aload_n 0, 1) := by decide +kernel
theorem dX3_cast_187 : decode cX3_cast 187 = .ok (.getfield 18, 3) := by decide +kernel
theorem dX3_cast_190 : decode cX3_cast 190 = .ok (.iload 10, 2) := by decide +kernel
theorem dX3_cast_192 : decode cX3_cast 192 = .ok (.iaload, 1) := by decide +kernel
theorem dX3_cast_193 : decode cX3_cast 193 = .ok (.iload 8, 2) := by decide +kernel
theorem dX3_cast_195 : decode cX3_cast 195 = .ok (.invokestatic 87, 3) := by decide +kernel
theorem dX3_cast_198 : decode cX3_cast 198 = .ok (.i2l, 1) := by decide +kernel
theorem dX3_cast_199 : decode cX3_cast 199 = .ok (.iload 12, 2) := by decide +kernel
theorem dX3_cast_201 : decode cX3_cast 201 = .ok (.lshl, 1) := by decide +kernel
theorem dX3_cast_202 : decode cX3_cast 202 = .ok (.lstore 15, 2) := by decide +kernel
theorem dX3_cast_204 : decode cX3_cast 204 = .ok (.aload_n 0, 1) := by decide +kernel
theorem dX3_cast_205 : decode cX3_cast 205 = .ok (.getfield 9, 3) := by decide +kernel
theorem dX3_cast_208 : decode cX3_cast 208 = .ok (.iload 6, 2) := by decide +kernel
theorem dX3_cast_210 : decode cX3_cast 210 = .ok (.iload 11, 2) := by decide +kernel
theorem dX3_cast_212 : decode cX3_cast 212 = .ok (.iconst 2, 1) := by decide +kernel
theorem dX3_cast_213 : decode cX3_cast 213 = .ok (.ishr, 1) := by decide +kernel
theorem dX3_cast_214 : decode cX3_cast 214 = .ok (.iadd, 1) := by decide +kernel
theorem dX3_cast_215 : decode cX3_cast 215 = .ok (.dup2, 1) := by decide +kernel
theorem dX3_cast_216 : decode cX3_cast 216 = .ok (.laload, 1) := by decide +kernel
theorem dX3_cast_217 : decode cX3_cast 217 = .ok (.lload 13, 2) := by decide +kernel
theorem dX3_cast_219 : decode cX3_cast 219 = .ok (.lor, 1) := by decide +kernel
theorem dX3_cast_220 : decode cX3_cast 220 = .ok (.lastore, 1) := by decide +kernel
theorem dX3_cast_221 : decode cX3_cast 221 = .ok (.aload_n 0, 1) := by decide +kernel
theorem dX3_cast_222 : decode cX3_cast 222 = .ok (.getfield 15, 3) := by decide +kernel
theorem dX3_cast_225 : decode cX3_cast 225 = .ok (.iload 6, 2) := by decide +kernel
theorem dX3_cast_227 : decode cX3_cast 227 = .ok (.iload 11, 2) := by decide +kernel
theorem dX3_cast_229 : decode cX3_cast 229 = .ok (.iconst 2, 1) := by decide +kernel
theorem dX3_cast_230 : decode cX3_cast 230 = .ok (.ishr, 1) := by decide +kernel
theorem dX3_cast_231 : decode cX3_cast 231 = .ok (.iadd, 1) := by decide +kernel
theorem dX3_cast_232 : decode cX3_cast 232 = .ok (.dup2, 1) := by decide +kernel
theorem dX3_cast_233 : decode cX3_cast 233 = .ok (.laload, 1) := by decide +kernel
theorem dX3_cast_234 : decode cX3_cast 234 = .ok (.lload 15, 2) := by decide +kernel
theorem dX3_cast_236 : decode cX3_cast 236 = .ok (.lload 13, 2) := by decide +kernel
theorem dX3_cast_238 : decode cX3_cast 238 = .ok (.ldc2_w 91, 3) := by decide +kernel
theorem dX3_cast_241 : decode cX3_cast 241 = .ok (.lxor, 1) := by decide +kernel
theorem dX3_cast_242 : decode cX3_cast 242 = .ok (.land, 1) := by decide +kernel
theorem dX3_cast_243 : decode cX3_cast 243 = .ok (.lor, 1) := by decide +kernel
theorem dX3_cast_244 : decode cX3_cast 244 = .ok (.lastore, 1) := by decide +kernel
theorem dX3_cast_245 : decode cX3_cast 245 = .ok (.iinc 10 1, 3) := by decide +kernel
theorem dX3_cast_248 : decode cX3_cast 248 = .ok (.goto (-115), 3) := by decide +kernel
theorem dX3_cast_251 : decode cX3_cast 251 = .ok (.return_, 1) := by decide +kernel
theorem dX3_onScreen_0 : decode cX3_onScreen 0 = .ok (.iload_n 1, 1) := by decide +kernel
theorem dX3_onScreen_1 : decode cX3_onScreen 1 = .ok (.ifCond .lt 9, 3) := by decide +kernel
theorem dX3_onScreen_4 : decode cX3_onScreen 4 = .ok (.iload_n 0, 1) := by decide +kernel
theorem dX3_onScreen_5 : decode cX3_onScreen 5 = .ok (.iload_n 1, 1) := by decide +kernel
theorem dX3_onScreen_6 : decode cX3_onScreen 6 = .ok (.ishl, 1) := by decide +kernel
theorem dX3_onScreen_7 : decode cX3_onScreen 7 = .ok (.goto 7, 3) := by decide +kernel
theorem dX3_onScreen_10 : decode cX3_onScreen 10 = .ok (.iload_n 0, 1) := by decide +kernel
theorem dX3_onScreen_11 : decode cX3_onScreen 11 = .ok (.iload_n 1, 1) := by decide +kernel
theorem dX3_onScreen_12 : decode cX3_onScreen 12 = .ok (.ineg, 1) := by decide +kernel
theorem dX3_onScreen_13 : decode cX3_onScreen 13 = .ok (.ishr, 1) := by decide +kernel
theorem dX3_onScreen_14 : decode cX3_onScreen 14 = .ok (.sipush 4095, 3) := by decide +kernel
theorem dX3_onScreen_17 : decode cX3_onScreen 17 = .ok (.iand, 1) := by decide +kernel
theorem dX3_onScreen_18 : decode cX3_onScreen 18 = .ok (.ireturn, 1) := by decide +kernel
theorem dX3_grow_0 : decode cX3_grow 0 = .ok (.iconst 0, 1) := by decide +kernel
theorem dX3_grow_1 : decode cX3_grow 1 = .ok (.istore_n 3, 1) := by decide +kernel
theorem dX3_grow_2 : decode cX3_grow 2 = .ok (.iconst 0, 1) := by decide +kernel
theorem dX3_grow_3 : decode cX3_grow 3 = .ok (.istore 4, 2) := by decide +kernel
theorem dX3_grow_5 : decode cX3_grow 5 = .ok (.iload 4, 2) := by decide +kernel
theorem dX3_grow_7 : decode cX3_grow 7 = .ok (.iconst 5, 1) := by decide +kernel
theorem dX3_grow_8 : decode cX3_grow 8 = .ok (.if_icmp .ge 96, 3) := by decide +kernel
theorem dX3_grow_11 : decode cX3_grow 11 = .ok (.iconst 0, 1) := by decide +kernel
theorem dX3_grow_12 : decode cX3_grow 12 = .ok (.istore 5, 2) := by decide +kernel
theorem dX3_grow_14 : decode cX3_grow 14 = .ok (.iconst 0, 1) := by decide +kernel
theorem dX3_grow_15 : decode cX3_grow 15 = .ok (.istore 6, 2) := by decide +kernel
theorem dX3_grow_17 : decode cX3_grow 17 = .ok (.iload 6, 2) := by decide +kernel
theorem dX3_grow_19 : decode cX3_grow 19 = .ok (.iconst 5, 1) := by decide +kernel
theorem dX3_grow_20 : decode cX3_grow 20 = .ok (.if_icmp .ge 38, 3) := by decide +kernel
theorem dX3_grow_23 : decode cX3_grow 23 = .ok (.iload_n 1, 1) := by decide +kernel
theorem dX3_grow_24 : decode cX3_grow 24 = .ok (.iconst 5, 1) := by decide +kernel
theorem dX3_grow_25 : decode cX3_grow 25 = .ok (.iload 4, 2) := by decide +kernel
theorem dX3_grow_27 : decode cX3_grow 27 = .ok (.imul, 1) := by decide +kernel
theorem dX3_grow_28 : decode cX3_grow 28 = .ok (.iload 6, 2) := by decide +kernel
theorem dX3_grow_30 : decode cX3_grow 30 = .ok (.iadd, 1) := by decide +kernel
theorem dX3_grow_31 : decode cX3_grow 31 = .ok (.ishr, 1) := by decide +kernel
theorem dX3_grow_32 : decode cX3_grow 32 = .ok (.iconst 1, 1) := by decide +kernel
theorem dX3_grow_33 : decode cX3_grow 33 = .ok (.iand, 1) := by decide +kernel
theorem dX3_grow_34 : decode cX3_grow 34 = .ok (.ifCond .eq 18, 3) := by decide +kernel
theorem dX3_grow_37 : decode cX3_grow 37 = .ok (.iload 5, 2) := by decide +kernel
theorem dX3_grow_39 : decode cX3_grow 39 = .ok (.iconst 1, 1) := by decide +kernel
theorem dX3_grow_40 : decode cX3_grow 40 = .ok (.iload_n 2, 1) := by decide +kernel
theorem dX3_grow_41 : decode cX3_grow 41 = .ok (.ishl, 1) := by decide +kernel
theorem dX3_grow_42 : decode cX3_grow 42 = .ok (.iconst 1, 1) := by decide +kernel
theorem dX3_grow_43 : decode cX3_grow 43 = .ok (.isub, 1) := by decide +kernel
theorem dX3_grow_44 : decode cX3_grow 44 = .ok (.iload_n 2, 1) := by decide +kernel
theorem dX3_grow_45 : decode cX3_grow 45 = .ok (.iload 6, 2) := by decide +kernel
theorem dX3_grow_47 : decode cX3_grow 47 = .ok (.imul, 1) := by decide +kernel
theorem dX3_grow_48 : decode cX3_grow 48 = .ok (.ishl, 1) := by decide +kernel
theorem dX3_grow_49 : decode cX3_grow 49 = .ok (.ior, 1) := by decide +kernel
theorem dX3_grow_50 : decode cX3_grow 50 = .ok (.istore 5, 2) := by decide +kernel
theorem dX3_grow_52 : decode cX3_grow 52 = .ok (.iinc 6 1, 3) := by decide +kernel
theorem dX3_grow_55 : decode cX3_grow 55 = .ok (.goto (-38), 3) := by decide +kernel
theorem dX3_grow_58 : decode cX3_grow 58 = .ok (.iconst 0, 1) := by decide +kernel
theorem dX3_grow_59 : decode cX3_grow 59 = .ok (.istore 6, 2) := by decide +kernel
theorem dX3_grow_61 : decode cX3_grow 61 = .ok (.iload 6, 2) := by decide +kernel
theorem dX3_grow_63 : decode cX3_grow 63 = .ok (.iload_n 2, 1) := by decide +kernel
theorem dX3_grow_64 : decode cX3_grow 64 = .ok (.if_icmp .ge 34, 3) := by decide +kernel
theorem dX3_grow_67 : decode cX3_grow 67 = .ok (.iload_n 3, 1) := by decide +kernel
theorem dX3_grow_68 : decode cX3_grow 68 = .ok (.bipush 15, 2) := by decide +kernel
theorem dX3_grow_70 : decode cX3_grow 70 = .ok (.if_icmp .ge 28, 3) := by decide +kernel
theorem dX3_grow_73 : decode cX3_grow 73 = .ok (.aload_n 0, 1) := by decide +kernel
theorem dX3_grow_74 : decode cX3_grow 74 = .ok (.getfield 18, 3) := by decide +kernel
theorem dX3_grow_77 : decode cX3_grow 77 = .ok (.iload_n 3, 1) := by decide +kernel
theorem dX3_grow_78 : decode cX3_grow 78 = .ok (.iload 5, 2) := by decide +kernel
theorem dX3_grow_80 : decode cX3_grow 80 = .ok (.iastore, 1) := by decide +kernel
theorem dX3_grow_81 : decode cX3_grow 81 = .ok (.aload_n 0, 1) := by decide +kernel
theorem dX3_grow_82 : decode cX3_grow 82 = .ok (.getfield 22, 3) := by decide +kernel
theorem dX3_grow_85 : decode cX3_grow 85 = .ok (.iload_n 3, 1) := by decide +kernel
theorem dX3_grow_86 : decode cX3_grow 86 = .ok (.iload 5, 2) := by decide +kernel
theorem dX3_grow_88 : decode cX3_grow 88 = .ok (.iastore, 1) := by decide +kernel
theorem dX3_grow_89 : decode cX3_grow 89 = .ok (.iinc 3 1, 3) := by decide +kernel
theorem dX3_grow_92 : decode cX3_grow 92 = .ok (.iinc 6 1, 3) := by decide +kernel
theorem dX3_grow_95 : decode cX3_grow 95 = .ok (.goto (-34), 3) := by decide +kernel
theorem dX3_grow_98 : decode cX3_grow 98 = .ok (.iinc 4 1, 3) := by decide +kernel
theorem dX3_grow_101 : decode cX3_grow 101 = .ok (.goto (-96), 3) := by decide +kernel
theorem dX3_grow_104 : decode cX3_grow 104 = .ok (.iload_n 3, 1) := by decide +kernel
theorem dX3_grow_105 : decode cX3_grow 105 = .ok (.istore 4, 2) := by decide +kernel
theorem dX3_grow_107 : decode cX3_grow 107 = .ok (.iload 4, 2) := by decide +kernel
theorem dX3_grow_109 : decode cX3_grow 109 = .ok (.bipush 15, 2) := by decide +kernel
theorem dX3_grow_111 : decode cX3_grow 111 = .ok (.if_icmp .ge 25, 3) := by decide +kernel
theorem dX3_grow_114 : decode cX3_grow 114 = .ok (.aload_n 0, 1) := by decide +kernel
theorem dX3_grow_115 : decode cX3_grow 115 = .ok (.getfield 18, 3) := by decide +kernel
theorem dX3_grow_118 : decode cX3_grow 118 = .ok (.iload 4, 2) := by decide +kernel
theorem dX3_grow_120 : decode cX3_grow 120 = .ok (.iconst 0, 1) := by decide +kernel
theorem dX3_grow_121 : decode cX3_grow 121 = .ok (.iastore, 1) := by decide +kernel
theorem dX3_grow_122 : decode cX3_grow 122 = .ok (.aload_n 0, 1) := by decide +kernel
theorem dX3_grow_123 : decode cX3_grow 123 = .ok (.getfield 22, 3) := by decide +kernel
theorem dX3_grow_126 : decode cX3_grow 126 = .ok (.iload 4, 2) := by decide +kernel
theorem dX3_grow_128 : decode cX3_grow 128 = .ok (.iconst 0, 1) := by decide +kernel
theorem dX3_grow_129 : decode cX3_grow 129 = .ok (.iastore, 1) := by decide +kernel
theorem dX3_grow_130 : decode cX3_grow 130 = .ok (.iinc 4 1, 3) := by decide +kernel
theorem dX3_grow_133 : decode cX3_grow 133 = .ok (.goto (-26), 3) := by decide +kernel
theorem dX3_grow_136 : decode cX3_grow 136 = .ok (.return_, 1) := by decide +kernel
theorem dX3_shrinkOnce_0 : decode cX3_shrinkOnce 0 = .ok (.iconst 0, 1) := by decide +kernel
theorem dX3_shrinkOnce_1 : decode cX3_shrinkOnce 1 = .ok (.istore_n 1, 1) := by decide +kernel
theorem dX3_shrinkOnce_2 : decode cX3_shrinkOnce 2 = .ok (.iconst 0, 1) := by decide +kernel
theorem dX3_shrinkOnce_3 : decode cX3_shrinkOnce 3 = .ok (.istore_n 2, 1) := by decide +kernel
theorem dX3_shrinkOnce_4 : decode cX3_shrinkOnce 4 = .ok (.iload_n 2, 1) := by decide +kernel
theorem dX3_shrinkOnce_5 : decode cX3_shrinkOnce 5 = .ok (.bipush 15, 2) := by decide +kernel
theorem dX3_shrinkOnce_7 : decode cX3_shrinkOnce 7 = .ok (.if_icmp .ge 60, 3) := by decide +kernel
theorem dX3_shrinkOnce_10 : decode cX3_shrinkOnce 10 = .ok (.aload_n 0, 1) := by decide +kernel
theorem dX3_shrinkOnce_11 : decode cX3_shrinkOnce 11 = .ok (.getfield 22, 3) := by decide +kernel
theorem dX3_shrinkOnce_14 : decode cX3_shrinkOnce 14 = .ok (.iload_n 2, 1) := by decide +kernel
theorem dX3_shrinkOnce_15 : decode cX3_shrinkOnce 15 = .ok (.iaload, 1) := by decide +kernel
theorem dX3_shrinkOnce_16 : decode cX3_shrinkOnce 16 = .ok (.istore_n 3, 1) := by decide +kernel
theorem dX3_shrinkOnce_17 : decode cX3_shrinkOnce 17 = .ok (.iload_n 2, 1) := by decide +kernel
theorem dX3_shrinkOnce_18 : decode cX3_shrinkOnce 18 = .ok (.iconst 1, 1) := by decide +kernel
theorem dX3_shrinkOnce_19 : decode cX3_shrinkOnce 19 = .ok (.iadd, 1) := by decide +kernel
theorem dX3_shrinkOnce_20 : decode cX3_shrinkOnce 20 = .ok (.bipush 15, 2) := by decide +kernel
theorem dX3_shrinkOnce_22 : decode cX3_shrinkOnce 22 = .ok (.if_icmp .ge 14, 3) := by decide +kernel
theorem dX3_shrinkOnce_25 : decode cX3_shrinkOnce 25 = .ok (.aload_n 0, 1) := by decide +kernel
theorem dX3_shrinkOnce_26 : decode cX3_shrinkOnce 26 = .ok (.getfield 22, 3) := by decide +kernel
theorem dX3_shrinkOnce_29 : decode cX3_shrinkOnce 29 = .ok (.iload_n 2, 1) := by decide +kernel
theorem dX3_shrinkOnce_30 : decode cX3_shrinkOnce 30 = .ok (.iconst 1, 1) := by decide +kernel
theorem dX3_shrinkOnce_31 : decode cX3_shrinkOnce 31 = .ok (.iadd, 1) := by decide +kernel
theorem dX3_shrinkOnce_32 : decode cX3_shrinkOnce 32 = .ok (.iaload, 1) := by decide +kernel
theorem dX3_shrinkOnce_33 : decode cX3_shrinkOnce 33 = .ok (.goto 4, 3) := by decide +kernel
theorem dX3_shrinkOnce_36 : decode cX3_shrinkOnce 36 = .ok (.iconst 0, 1) := by decide +kernel
theorem dX3_shrinkOnce_37 : decode cX3_shrinkOnce 37 = .ok (.istore 4, 2) := by decide +kernel
theorem dX3_shrinkOnce_39 : decode cX3_shrinkOnce 39 = .ok (.aload_n 0, 1) := by decide +kernel
theorem dX3_shrinkOnce_40 : decode cX3_shrinkOnce 40 = .ok (.getfield 22, 3) := by decide +kernel
theorem dX3_shrinkOnce_43 : decode cX3_shrinkOnce 43 = .ok (.iload_n 2, 1) := by decide +kernel
theorem dX3_shrinkOnce_44 : decode cX3_shrinkOnce 44 = .ok (.iload_n 3, 1) := by decide +kernel
theorem dX3_shrinkOnce_45 : decode cX3_shrinkOnce 45 = .ok (.iload_n 3, 1) := by decide +kernel
theorem dX3_shrinkOnce_46 : decode cX3_shrinkOnce 46 = .ok (.iconst 1, 1) := by decide +kernel
theorem dX3_shrinkOnce_47 : decode cX3_shrinkOnce 47 = .ok (.ishl, 1) := by decide +kernel
theorem dX3_shrinkOnce_48 : decode cX3_shrinkOnce 48 = .ok (.iand, 1) := by decide +kernel
theorem dX3_shrinkOnce_49 : decode cX3_shrinkOnce 49 = .ok (.iload_n 3, 1) := by decide +kernel
theorem dX3_shrinkOnce_50 : decode cX3_shrinkOnce 50 = .ok (.iconst 1, 1) := by decide +kernel
theorem dX3_shrinkOnce_51 : decode cX3_shrinkOnce 51 = .ok (.ishr, 1) := by decide +kernel
theorem dX3_shrinkOnce_52 : decode cX3_shrinkOnce 52 = .ok (.iand, 1) := by decide +kernel
theorem dX3_shrinkOnce_53 : decode cX3_shrinkOnce 53 = .ok (.iload_n 1, 1) := by decide +kernel
theorem dX3_shrinkOnce_54 : decode cX3_shrinkOnce 54 = .ok (.iand, 1) := by decide +kernel
theorem dX3_shrinkOnce_55 : decode cX3_shrinkOnce 55 = .ok (.iload 4, 2) := by decide +kernel
theorem dX3_shrinkOnce_57 : decode cX3_shrinkOnce 57 = .ok (.iand, 1) := by decide +kernel
theorem dX3_shrinkOnce_58 : decode cX3_shrinkOnce 58 = .ok (.iastore, 1) := by decide +kernel
theorem dX3_shrinkOnce_59 : decode cX3_shrinkOnce 59 = .ok (.iload_n 3, 1) := by decide +kernel
theorem dX3_shrinkOnce_60 : decode cX3_shrinkOnce 60 = .ok (.istore_n 1, 1) := by decide +kernel
theorem dX3_shrinkOnce_61 : decode cX3_shrinkOnce 61 = .ok (.iinc 2 1, 3) := by decide +kernel
theorem dX3_shrinkOnce_64 : decode cX3_shrinkOnce 64 = .ok (.goto (-60), 3) := by decide +kernel
theorem dX3_shrinkOnce_67 : decode cX3_shrinkOnce 67 = .ok (.return_, 1) := by decide +kernel
theorem dX3_shine_0 : decode cX3_shine 0 = .ok (.iconst 0, 1) := by decide +kernel
theorem dX3_shine_1 : decode cX3_shine 1 = .ok (.istore 4, 2) := by decide +kernel
theorem dX3_shine_3 : decode cX3_shine 3 = .ok (.iload 4, 2) := by decide +kernel
theorem dX3_shine_5 : decode cX3_shine 5 = .ok (.iconst 3, 1) := by decide +kernel
theorem dX3_shine_6 : decode cX3_shine 6 = .ok (.if_icmp .ge 25, 3) := by decide +kernel
theorem dX3_shine_9 : decode cX3_shine 9 = .ok (.aload_n 0, 1) := by decide +kernel
theorem dX3_shine_10 : decode cX3_shine 10 = .ok (.getfield 25, 3) := by decide +kernel
theorem dX3_shine_13 : decode cX3_shine 13 = .ok (.iload 4, 2) := by decide +kernel
theorem dX3_shine_15 : decode cX3_shine 15 = .ok (.lconst 0, 1) := by decide +kernel
theorem dX3_shine_16 : decode cX3_shine 16 = .ok (.lastore, 1) := by decide +kernel
theorem dX3_shine_17 : decode cX3_shine 17 = .ok (.aload_n 0, 1) := by decide +kernel
theorem dX3_shine_18 : decode cX3_shine 18 = .ok (.getfield 28, 3) := by decide +kernel
theorem dX3_shine_21 : decode cX3_shine 21 = .ok (.iload 4, 2) := by decide +kernel
theorem dX3_shine_23 : decode cX3_shine 23 = .ok (.lconst 0, 1) := by decide +kernel
theorem dX3_shine_24 : decode cX3_shine 24 = .ok (.lastore, 1) := by decide +kernel
theorem dX3_shine_25 : decode cX3_shine 25 = .ok (.iinc 4 1, 3) := by decide +kernel
theorem dX3_shine_28 : decode cX3_shine 28 = .ok (.goto (-25), 3) := by decide +kernel
theorem dX3_shine_31 : decode cX3_shine 31 = .ok (.iconst 0, 1) := by decide +kernel
theorem dX3_shine_32 : decode cX3_shine 32 = .ok (.istore 4, 2) := by decide +kernel
theorem dX3_shine_34 : decode cX3_shine 34 = .ok (.iload 4, 2) := by decide +kernel
theorem dX3_shine_36 : decode cX3_shine 36 = .ok (.iconst 4, 1) := by decide +kernel
theorem dX3_shine_37 : decode cX3_shine 37 = .ok (.if_icmp .ge 106, 3) := by decide +kernel
theorem dX3_shine_40 : decode cX3_shine 40 = .ok (.aload_n 2, 1) := by decide +kernel
theorem dX3_shine_41 : decode cX3_shine 41 = .ok (.iload_n 3, 1) := by decide +kernel
theorem dX3_shine_42 : decode cX3_shine 42 = .ok (.iload 4, 2) := by decide +kernel
theorem dX3_shine_44 : decode cX3_shine 44 = .ok (.iadd, 1) := by decide +kernel
theorem dX3_shine_45 : decode cX3_shine 45 = .ok (.iaload, 1) := by decide +kernel
theorem dX3_shine_46 : decode cX3_shine 46 = .ok (.istore 5, 2) := by decide +kernel
theorem dX3_shine_48 : decode cX3_shine 48 = .ok (.iload 5, 2) := by decide +kernel
theorem dX3_shine_50 : decode cX3_shine 50 = .ok (.iconst (-1), 1) := by decide +kernel
theorem dX3_shine_51 : decode cX3_shine 51 = .ok (.if_icmp .ne 6, 3) := by decide +kernel
theorem dX3_shine_54 : decode cX3_shine 54 = .ok (.goto 83, 3) := by decide +kernel
theorem dX3_shine_57 : decode cX3_shine 57 = .ok (.iload_n 1, 1) := by decide +kernel
theorem dX3_shine_58 : decode cX3_shine 58 = .ok (.iload 4, 2) := by decide +kernel
theorem dX3_shine_60 : decode cX3_shine 60 = .ok (.iload 5, 2) := by decide +kernel
theorem dX3_shine_62 : decode cX3_shine 62 = .ok (.invokestatic 64, 3) := by decide +kernel
theorem dX3_shine_65 : decode cX3_shine 65 = .ok (.istore 6, 2) := by decide +kernel
theorem dX3_shine_67 : decode cX3_shine 67 = .ok (.iconst 0, 1) := by decide +kernel
theorem dX3_shine_68 : decode cX3_shine 68 = .ok (.istore 7, 2) := by decide +kernel
theorem dX3_shine_70 : decode cX3_shine 70 = .ok (.iload 7, 2) := by decide +kernel
theorem dX3_shine_72 : decode cX3_shine 72 = .ok (.iconst 3, 1) := by decide +kernel
theorem dX3_shine_73 : decode cX3_shine 73 = .ok (.if_icmp .ge 64, 3) := by decide +kernel
theorem dX3_shine_76 : decode cX3_shine 76 = .ok (.aload_n 0, 1) := by decide +kernel
theorem dX3_shine_77 : decode cX3_shine 77 = .ok (.getfield 15, 3) := by decide +kernel
theorem dX3_shine_80 : decode cX3_shine 80 = .ok (.iload 6, 2) := by decide +kernel
theorem dX3_shine_82 : decode cX3_shine 82 = .ok (.iload 7, 2) := by decide +kernel
theorem dX3_shine_84 : decode cX3_shine 84 = .ok (.iadd, 1) := by decide +kernel
theorem dX3_shine_85 : decode cX3_shine 85 = .ok (.laload, 1) := by decide +kernel
theorem dX3_shine_86 : decode cX3_shine 86 = .ok (.lstore 8, 2) := by decide +kernel
theorem dX3_shine_88 : decode cX3_shine 88 = .ok (.aload_n 0, 1) := by decide +kernel
theorem dX3_shine_89 : decode cX3_shine 89 = .ok (.getfield 25, 3) := by decide +kernel
theorem dX3_shine_92 : decode cX3_shine 92 = .ok (.iload 7, 2) := by decide +kernel
theorem dX3_shine_94 : decode cX3_shine 94 = .ok (.dup2, 1) := by decide +kernel
theorem dX3_shine_95 : decode cX3_shine 95 = .ok (.laload, 1) := by decide +kernel
theorem dX3_shine_96 : decode cX3_shine 96 = .ok (.aload_n 0, 1) := by decide +kernel
theorem dX3_shine_97 : decode cX3_shine 97 = .ok (.getfield 9, 3) := by decide +kernel
theorem dX3_shine_100 : decode cX3_shine 100 = .ok (.iload 6, 2) := by decide +kernel
theorem dX3_shine_102 : decode cX3_shine 102 = .ok (.iload 7, 2) := by decide +kernel
theorem dX3_shine_104 : decode cX3_shine 104 = .ok (.iadd, 1) := by decide +kernel
theorem dX3_shine_105 : decode cX3_shine 105 = .ok (.laload, 1) := by decide +kernel
theorem dX3_shine_106 : decode cX3_shine 106 = .ok (.aload_n 0, 1) := by decide +kernel
theorem dX3_shine_107 : decode cX3_shine 107 = .ok (.getfield 28, 3) := by decide +kernel
theorem dX3_shine_110 : decode cX3_shine 110 = .ok (.iload 7, 2) := by decide +kernel
theorem dX3_shine_112 : decode cX3_shine 112 = .ok (.laload, 1) := by decide +kernel
theorem dX3_shine_113 : decode cX3_shine 113 = .ok (.lload 8, 2) := by decide +kernel
theorem dX3_shine_115 : decode cX3_shine 115 = .ok (.land, 1) := by decide +kernel
theorem dX3_shine_116 : decode cX3_shine 116 = .ok (.lor, 1) := by decide +kernel
theorem dX3_shine_117 : decode cX3_shine 117 = .ok (.lor, 1) := by decide +kernel
theorem dX3_shine_118 : decode cX3_shine 118 = .ok (.lastore, 1) := by decide +kernel
theorem dX3_shine_119 : decode cX3_shine 119 = .ok (.aload_n 0, 1) := by decide +kernel
theorem dX3_shine_120 : decode cX3_shine 120 = .ok (.getfield 28, 3) := by decide +kernel
theorem dX3_shine_123 : decode cX3_shine 123 = .ok (.iload 7, 2) := by decide +kernel
theorem dX3_shine_125 : decode cX3_shine 125 = .ok (.dup2, 1) := by decide +kernel
theorem dX3_shine_126 : decode cX3_shine 126 = .ok (.laload, 1) := by decide +kernel
theorem dX3_shine_127 : decode cX3_shine 127 = .ok (.lload 8, 2) := by decide +kernel
theorem dX3_shine_129 : decode cX3_shine 129 = .ok (.lor, 1) := by decide +kernel
theorem dX3_shine_130 : decode cX3_shine 130 = .ok (.lastore, 1) := by decide +kernel
theorem dX3_shine_131 : decode cX3_shine 131 = .ok (.iinc 7 1, 3) := by decide +kernel
theorem dX3_shine_134 : decode cX3_shine 134 = .ok (.goto (-64), 3) := by decide +kernel
theorem dX3_shine_137 : decode cX3_shine 137 = .ok (.iinc 4 1, 3) := by decide +kernel
theorem dX3_shine_140 : decode cX3_shine 140 = .ok (.goto (-106), 3) := by decide +kernel
theorem dX3_shine_143 : decode cX3_shine 143 = .ok (.iconst 0, 1) := by decide +kernel
theorem dX3_shine_144 : decode cX3_shine 144 = .ok (.istore 4, 2) := by decide +kernel
theorem dX3_shine_146 : decode cX3_shine 146 = .ok (.iload 4, 2) := by decide +kernel
theorem dX3_shine_148 : decode cX3_shine 148 = .ok (.iconst 3, 1) := by decide +kernel
theorem dX3_shine_149 : decode cX3_shine 149 = .ok (.if_icmp .ge 30, 3) := by decide +kernel
theorem dX3_shine_152 : decode cX3_shine 152 = .ok (.aload_n 0, 1) := by decide +kernel
theorem dX3_shine_153 : decode cX3_shine 153 = .ok (.getfield 28, 3) := by decide +kernel
theorem dX3_shine_156 : decode cX3_shine 156 = .ok (.iload 4, 2) := by decide +kernel
theorem dX3_shine_158 : decode cX3_shine 158 = .ok (.dup2, 1) := by decide +kernel
theorem dX3_shine_159 : decode cX3_shine 159 = .ok (.laload, 1) := by decide +kernel
theorem dX3_shine_160 : decode cX3_shine 160 = .ok (.aload_n 0, 1) := by decide +kernel
theorem dX3_shine_161 : decode cX3_shine 161 = .ok (.getfield 25, 3) := by decide +kernel
theorem dX3_shine_164 : decode cX3_shine 164 = .ok (.iload 4, 2) := by decide +kernel
theorem dX3_shine_166 : decode cX3_shine 166 = .ok (.laload, 1) := by decide +kernel
theorem dX3_shine_167 : decode cX3_shine 167 = .ok (.ldc2_w 91, 3) := by decide +kernel
theorem dX3_shine_170 : decode cX3_shine 170 = .ok (.lxor, 1) := by decide +kernel
theorem dX3_shine_171 : decode cX3_shine 171 = .ok (.land, 1) := by decide +kernel
theorem dX3_shine_172 : decode cX3_shine 172 = .ok (.lastore, 1) := by decide +kernel
theorem dX3_shine_173 : decode cX3_shine 173 = .ok (.iinc 4 1, 3) := by decide +kernel
theorem dX3_shine_176 : decode cX3_shine 176 = .ok (.goto (-30), 3) := by decide +kernel
theorem dX3_shine_179 : decode cX3_shine 179 = .ok (.return_, 1) := by decide +kernel
theorem dX3_shadeOf_0 : decode cX3_shadeOf 0 = .ok (.iload_n 1, 1) := by decide +kernel
theorem dX3_shadeOf_1 : decode cX3_shadeOf 1 = .ok (.bipush 48, 2) := by decide +kernel
theorem dX3_shadeOf_3 : decode cX3_shadeOf 3 = .ok (.idiv, 1) := by decide +kernel
theorem dX3_shadeOf_4 : decode cX3_shadeOf 4 = .ok (.istore_n 2, 1) := by decide +kernel
theorem dX3_shadeOf_5 : decode cX3_shadeOf 5 = .ok (.iload_n 1, 1) := by decide +kernel
theorem dX3_shadeOf_6 : decode cX3_shadeOf 6 = .ok (.bipush 48, 2) := by decide +kernel
theorem dX3_shadeOf_8 : decode cX3_shadeOf 8 = .ok (.irem, 1) := by decide +kernel
theorem dX3_shadeOf_9 : decode cX3_shadeOf 9 = .ok (.istore_n 3, 1) := by decide +kernel
theorem dX3_shadeOf_10 : decode cX3_shadeOf 10 = .ok (.aload_n 0, 1) := by decide +kernel
theorem dX3_shadeOf_11 : decode cX3_shadeOf 11 = .ok (.getfield 25, 3) := by decide +kernel
theorem dX3_shadeOf_14 : decode cX3_shadeOf 14 = .ok (.iload_n 2, 1) := by decide +kernel
theorem dX3_shadeOf_15 : decode cX3_shadeOf 15 = .ok (.laload, 1) := by decide +kernel
theorem dX3_shadeOf_16 : decode cX3_shadeOf 16 = .ok (.iload_n 3, 1) := by decide +kernel
theorem dX3_shadeOf_17 : decode cX3_shadeOf 17 = .ok (.lshr, 1) := by decide +kernel
theorem dX3_shadeOf_18 : decode cX3_shadeOf 18 = .ok (.lconst 1, 1) := by decide +kernel
theorem dX3_shadeOf_19 : decode cX3_shadeOf 19 = .ok (.land, 1) := by decide +kernel
theorem dX3_shadeOf_20 : decode cX3_shadeOf 20 = .ok (.lconst 0, 1) := by decide +kernel
theorem dX3_shadeOf_21 : decode cX3_shadeOf 21 = .ok (.lcmp, 1) := by decide +kernel
theorem dX3_shadeOf_22 : decode cX3_shadeOf 22 = .ok (.ifCond .eq 5, 3) := by decide +kernel
theorem dX3_shadeOf_25 : decode cX3_shadeOf 25 = .ok (.iconst 2, 1) := by decide +kernel
theorem dX3_shadeOf_26 : decode cX3_shadeOf 26 = .ok (.ireturn, 1) := by decide +kernel
theorem dX3_shadeOf_27 : decode cX3_shadeOf 27 = .ok (.aload_n 0, 1) := by decide +kernel
theorem dX3_shadeOf_28 : decode cX3_shadeOf 28 = .ok (.getfield 28, 3) := by decide +kernel
theorem dX3_shadeOf_31 : decode cX3_shadeOf 31 = .ok (.iload_n 2, 1) := by decide +kernel
theorem dX3_shadeOf_32 : decode cX3_shadeOf 32 = .ok (.laload, 1) := by decide +kernel
theorem dX3_shadeOf_33 : decode cX3_shadeOf 33 = .ok (.iload_n 3, 1) := by decide +kernel
theorem dX3_shadeOf_34 : decode cX3_shadeOf 34 = .ok (.lshr, 1) := by decide +kernel
theorem dX3_shadeOf_35 : decode cX3_shadeOf 35 = .ok (.lconst 1, 1) := by decide +kernel
theorem dX3_shadeOf_36 : decode cX3_shadeOf 36 = .ok (.land, 1) := by decide +kernel
theorem dX3_shadeOf_37 : decode cX3_shadeOf 37 = .ok (.lconst 0, 1) := by decide +kernel
theorem dX3_shadeOf_38 : decode cX3_shadeOf 38 = .ok (.lcmp, 1) := by decide +kernel
theorem dX3_shadeOf_39 : decode cX3_shadeOf 39 = .ok (.ifCond .eq 7, 3) := by decide +kernel
theorem dX3_shadeOf_42 : decode cX3_shadeOf 42 = .ok (.iconst 1, 1) := by decide +kernel
theorem dX3_shadeOf_43 : decode cX3_shadeOf 43 = .ok (.goto 4, 3) := by decide +kernel
theorem dX3_shadeOf_46 : decode cX3_shadeOf 46 = .ok (.iconst 0, 1) := by decide +kernel
theorem dX3_shadeOf_47 : decode cX3_shadeOf 47 = .ok (.ireturn, 1) := by decide +kernel
theorem dX3_spotsOf_0 : decode cX3_spotsOf 0 = .ok (.iconst 0, 1) := by decide +kernel
theorem dX3_spotsOf_1 : decode cX3_spotsOf 1 = .ok (.istore_n 2, 1) := by decide +kernel
theorem dX3_spotsOf_2 : decode cX3_spotsOf 2 = .ok (.iconst 0, 1) := by decide +kernel
theorem dX3_spotsOf_3 : decode cX3_spotsOf 3 = .ok (.istore_n 3, 1) := by decide +kernel
theorem dX3_spotsOf_4 : decode cX3_spotsOf 4 = .ok (.iconst 0, 1) := by decide +kernel
theorem dX3_spotsOf_5 : decode cX3_spotsOf 5 = .ok (.istore 4, 2) := by decide +kernel
theorem dX3_spotsOf_7 : decode cX3_spotsOf 7 = .ok (.iload 4, 2) := by decide +kernel
theorem dX3_spotsOf_9 : decode cX3_spotsOf 9 = .ok (.iconst 3, 1) := by decide +kernel
theorem dX3_spotsOf_10 : decode cX3_spotsOf 10 = .ok (.if_icmp .ge 35, 3) := by decide +kernel
theorem dX3_spotsOf_13 : decode cX3_spotsOf 13 = .ok (.iload_n 2, 1) := by decide +kernel
theorem dX3_spotsOf_14 : decode cX3_spotsOf 14 = .ok (.aload_n 0, 1) := by decide +kernel
theorem dX3_spotsOf_15 : decode cX3_spotsOf 15 = .ok (.getfield 25, 3) := by decide +kernel
theorem dX3_spotsOf_18 : decode cX3_spotsOf 18 = .ok (.iload 4, 2) := by decide +kernel
theorem dX3_spotsOf_20 : decode cX3_spotsOf 20 = .ok (.laload, 1) := by decide +kernel
theorem dX3_spotsOf_21 : decode cX3_spotsOf 21 = .ok (.invokestatic 93, 3) := by decide +kernel
theorem dX3_spotsOf_24 : decode cX3_spotsOf 24 = .ok (.iadd, 1) := by decide +kernel
theorem dX3_spotsOf_25 : decode cX3_spotsOf 25 = .ok (.istore_n 2, 1) := by decide +kernel
theorem dX3_spotsOf_26 : decode cX3_spotsOf 26 = .ok (.iload_n 3, 1) := by decide +kernel
theorem dX3_spotsOf_27 : decode cX3_spotsOf 27 = .ok (.aload_n 0, 1) := by decide +kernel
theorem dX3_spotsOf_28 : decode cX3_spotsOf 28 = .ok (.getfield 28, 3) := by decide +kernel
theorem dX3_spotsOf_31 : decode cX3_spotsOf 31 = .ok (.iload 4, 2) := by decide +kernel
theorem dX3_spotsOf_33 : decode cX3_spotsOf 33 = .ok (.laload, 1) := by decide +kernel
theorem dX3_spotsOf_34 : decode cX3_spotsOf 34 = .ok (.invokestatic 93, 3) := by decide +kernel
theorem dX3_spotsOf_37 : decode cX3_spotsOf 37 = .ok (.iadd, 1) := by decide +kernel
theorem dX3_spotsOf_38 : decode cX3_spotsOf 38 = .ok (.istore_n 3, 1) := by decide +kernel
theorem dX3_spotsOf_39 : decode cX3_spotsOf 39 = .ok (.iinc 4 1, 3) := by decide +kernel
theorem dX3_spotsOf_42 : decode cX3_spotsOf 42 = .ok (.goto (-35), 3) := by decide +kernel
theorem dX3_spotsOf_45 : decode cX3_spotsOf 45 = .ok (.iload_n 1, 1) := by decide +kernel
theorem dX3_spotsOf_46 : decode cX3_spotsOf 46 = .ok (.iconst 2, 1) := by decide +kernel
theorem dX3_spotsOf_47 : decode cX3_spotsOf 47 = .ok (.if_icmp .ne 5, 3) := by decide +kernel
theorem dX3_spotsOf_50 : decode cX3_spotsOf 50 = .ok (.iload_n 2, 1) := by decide +kernel
theorem dX3_spotsOf_51 : decode cX3_spotsOf 51 = .ok (.ireturn, 1) := by decide +kernel
theorem dX3_spotsOf_52 : decode cX3_spotsOf 52 = .ok (.iload_n 1, 1) := by decide +kernel
theorem dX3_spotsOf_53 : decode cX3_spotsOf 53 = .ok (.iconst 1, 1) := by decide +kernel
theorem dX3_spotsOf_54 : decode cX3_spotsOf 54 = .ok (.if_icmp .ne 7, 3) := by decide +kernel
theorem dX3_spotsOf_57 : decode cX3_spotsOf 57 = .ok (.iload_n 3, 1) := by decide +kernel
theorem dX3_spotsOf_58 : decode cX3_spotsOf 58 = .ok (.goto 10, 3) := by decide +kernel
theorem dX3_spotsOf_61 : decode cX3_spotsOf 61 = .ok (.sipush 144, 3) := by decide +kernel
theorem dX3_spotsOf_64 : decode cX3_spotsOf 64 = .ok (.iload_n 2, 1) := by decide +kernel
theorem dX3_spotsOf_65 : decode cX3_spotsOf 65 = .ok (.isub, 1) := by decide +kernel
theorem dX3_spotsOf_66 : decode cX3_spotsOf 66 = .ok (.iload_n 3, 1) := by decide +kernel
theorem dX3_spotsOf_67 : decode cX3_spotsOf 67 = .ok (.isub, 1) := by decide +kernel
theorem dX3_spotsOf_68 : decode cX3_spotsOf 68 = .ok (.ireturn, 1) := by decide +kernel
theorem dX3_remember_0 : decode cX3_remember 0 = .ok (.iconst 0, 1) := by decide +kernel
theorem dX3_remember_1 : decode cX3_remember 1 = .ok (.istore_n 1, 1) := by decide +kernel
theorem dX3_remember_2 : decode cX3_remember 2 = .ok (.iload_n 1, 1) := by decide +kernel
theorem dX3_remember_3 : decode cX3_remember 3 = .ok (.iconst 3, 1) := by decide +kernel
theorem dX3_remember_4 : decode cX3_remember 4 = .ok (.if_icmp .ge 33, 3) := by decide +kernel
theorem dX3_remember_7 : decode cX3_remember 7 = .ok (.aload_n 0, 1) := by decide +kernel
theorem dX3_remember_8 : decode cX3_remember 8 = .ok (.getfield 31, 3) := by decide +kernel
theorem dX3_remember_11 : decode cX3_remember 11 = .ok (.iload_n 1, 1) := by decide +kernel
theorem dX3_remember_12 : decode cX3_remember 12 = .ok (.aload_n 0, 1) := by decide +kernel
theorem dX3_remember_13 : decode cX3_remember 13 = .ok (.getfield 25, 3) := by decide +kernel
theorem dX3_remember_16 : decode cX3_remember 16 = .ok (.iload_n 1, 1) := by decide +kernel
theorem dX3_remember_17 : decode cX3_remember 17 = .ok (.laload, 1) := by decide +kernel
theorem dX3_remember_18 : decode cX3_remember 18 = .ok (.lastore, 1) := by decide +kernel
theorem dX3_remember_19 : decode cX3_remember 19 = .ok (.aload_n 0, 1) := by decide +kernel
theorem dX3_remember_20 : decode cX3_remember 20 = .ok (.getfield 34, 3) := by decide +kernel
theorem dX3_remember_23 : decode cX3_remember 23 = .ok (.iload_n 1, 1) := by decide +kernel
theorem dX3_remember_24 : decode cX3_remember 24 = .ok (.aload_n 0, 1) := by decide +kernel
theorem dX3_remember_25 : decode cX3_remember 25 = .ok (.getfield 28, 3) := by decide +kernel
theorem dX3_remember_28 : decode cX3_remember 28 = .ok (.iload_n 1, 1) := by decide +kernel
theorem dX3_remember_29 : decode cX3_remember 29 = .ok (.laload, 1) := by decide +kernel
theorem dX3_remember_30 : decode cX3_remember 30 = .ok (.lastore, 1) := by decide +kernel
theorem dX3_remember_31 : decode cX3_remember 31 = .ok (.iinc 1 1, 3) := by decide +kernel
theorem dX3_remember_34 : decode cX3_remember 34 = .ok (.goto (-32), 3) := by decide +kernel
theorem dX3_remember_37 : decode cX3_remember 37 = .ok (.return_, 1) := by decide +kernel
theorem dX3_othersThanRemembered_0 : decode cX3_othersThanRemembered 0 = .ok (.iconst 0, 1) := by decide +kernel
theorem dX3_othersThanRemembered_1 : decode cX3_othersThanRemembered 1 = .ok (.istore_n 1, 1) := by decide +kernel
theorem dX3_othersThanRemembered_2 : decode cX3_othersThanRemembered 2 = .ok (.iconst 0, 1) := by decide +kernel
theorem dX3_othersThanRemembered_3 : decode cX3_othersThanRemembered 3 = .ok (.istore_n 2, 1) := by decide +kernel
theorem dX3_othersThanRemembered_4 : decode cX3_othersThanRemembered 4 = .ok (.iload_n 2, 1) := by decide +kernel
theorem dX3_othersThanRemembered_5 : decode cX3_othersThanRemembered 5 = .ok (.iconst 3, 1) := by decide +kernel
theorem dX3_othersThanRemembered_6 : decode cX3_othersThanRemembered 6 = .ok (.if_icmp .ge 42, 3) := by decide +kernel
theorem dX3_othersThanRemembered_9 : decode cX3_othersThanRemembered 9 = .ok (.iload_n 1, 1) := by decide +kernel
theorem dX3_othersThanRemembered_10 : decode cX3_othersThanRemembered 10 = .ok (.aload_n 0, 1) := by decide +kernel
theorem dX3_othersThanRemembered_11 : decode cX3_othersThanRemembered 11 = .ok (.getfield 31, 3) := by decide +kernel
theorem dX3_othersThanRemembered_14 : decode cX3_othersThanRemembered 14 = .ok (.iload_n 2, 1) := by decide +kernel
theorem dX3_othersThanRemembered_15 : decode cX3_othersThanRemembered 15 = .ok (.laload, 1) := by decide +kernel
theorem dX3_othersThanRemembered_16 : decode cX3_othersThanRemembered 16 = .ok (.aload_n 0, 1) := by decide +kernel
theorem dX3_othersThanRemembered_17 : decode cX3_othersThanRemembered 17 = .ok (.getfield 25, 3) := by decide +kernel
theorem dX3_othersThanRemembered_20 : decode cX3_othersThanRemembered 20 = .ok (.iload_n 2, 1) := by decide +kernel
theorem dX3_othersThanRemembered_21 : decode cX3_othersThanRemembered 21 = .ok (.laload, 1) := by decide +kernel
theorem dX3_othersThanRemembered_22 : decode cX3_othersThanRemembered 22 = .ok (.lxor, 1) := by decide +kernel
theorem dX3_othersThanRemembered_23 : decode cX3_othersThanRemembered 23 = .ok (.aload_n 0, 1) := by decide +kernel
theorem dX3_othersThanRemembered_24 : decode cX3_othersThanRemembered 24 = .ok (.getfield 34, 3) := by decide +kernel
theorem dX3_othersThanRemembered_27 : decode cX3_othersThanRemembered 27 = .ok (.iload_n 2, 1) := by decide +kernel
theorem dX3_othersThanRemembered_28 : decode cX3_othersThanRemembered 28 = .ok (.laload, 1) := by decide +kernel
theorem dX3_othersThanRemembered_29 : decode cX3_othersThanRemembered 29 = .ok (.aload_n 0, 1) := by decide +kernel
theorem dX3_othersThanRemembered_30 : decode cX3_othersThanRemembered 30 = .ok (.getfield 28, 3) := by decide +kernel
theorem dX3_othersThanRemembered_33 : decode cX3_othersThanRemembered 33 = .ok (.iload_n 2, 1) := by decide +kernel
theorem dX3_othersThanRemembered_34 : decode cX3_othersThanRemembered 34 = .ok (.laload, 1) := by decide +kernel
theorem dX3_othersThanRemembered_35 : decode cX3_othersThanRemembered 35 = .ok (.lxor, 1) := by decide +kernel
theorem dX3_othersThanRemembered_36 : decode cX3_othersThanRemembered 36 = .ok (.lor, 1) := by decide +kernel
theorem dX3_othersThanRemembered_37 : decode cX3_othersThanRemembered 37 = .ok (.invokestatic 93, 3) := by decide +kernel
theorem dX3_othersThanRemembered_40 : decode cX3_othersThanRemembered 40 = .ok (.iadd, 1) := by decide +kernel
theorem dX3_othersThanRemembered_41 : decode cX3_othersThanRemembered 41 = .ok (.istore_n 1, 1) := by decide +kernel
theorem dX3_othersThanRemembered_42 : decode cX3_othersThanRemembered 42 = .ok (.iinc 2 1, 3) := by decide +kernel
theorem dX3_othersThanRemembered_45 : decode cX3_othersThanRemembered 45 = .ok (.goto (-41), 3) := by decide +kernel
theorem dX3_othersThanRemembered_48 : decode cX3_othersThanRemembered 48 = .ok (.iload_n 1, 1) := by decide +kernel
theorem dX3_othersThanRemembered_49 : decode cX3_othersThanRemembered 49 = .ok (.ireturn, 1) := by decide +kernel
theorem dX3_misses_0 : decode cX3_misses 0 = .ok (.aload_n 0, 1) := by decide +kernel
theorem dX3_misses_1 : decode cX3_misses 1 = .ok (.iload_n 1, 1) := by decide +kernel
theorem dX3_misses_2 : decode cX3_misses 2 = .ok (.aload_n 3, 1) := by decide +kernel
theorem dX3_misses_3 : decode cX3_misses 3 = .ok (.iconst 0, 1) := by decide +kernel
theorem dX3_misses_4 : decode cX3_misses 4 = .ok (.invokevirtual 99, 3) := by decide +kernel
theorem dX3_misses_7 : decode cX3_misses 7 = .ok (.iload_n 2, 1) := by decide +kernel
theorem dX3_misses_8 : decode cX3_misses 8 = .ok (.iconst 3, 1) := by decide +kernel
theorem dX3_misses_9 : decode cX3_misses 9 = .ok (.imul, 1) := by decide +kernel
theorem dX3_misses_10 : decode cX3_misses 10 = .ok (.iconst 3, 1) := by decide +kernel
theorem dX3_misses_11 : decode cX3_misses 11 = .ok (.imul, 1) := by decide +kernel
theorem dX3_misses_12 : decode cX3_misses 12 = .ok (.istore 4, 2) := by decide +kernel
theorem dX3_misses_14 : decode cX3_misses 14 = .ok (.iconst 0, 1) := by decide +kernel
theorem dX3_misses_15 : decode cX3_misses 15 = .ok (.istore 5, 2) := by decide +kernel
theorem dX3_misses_17 : decode cX3_misses 17 = .ok (.iconst 0, 1) := by decide +kernel
theorem dX3_misses_18 : decode cX3_misses 18 = .ok (.istore 6, 2) := by decide +kernel
theorem dX3_misses_20 : decode cX3_misses 20 = .ok (.iload 6, 2) := by decide +kernel
theorem dX3_misses_22 : decode cX3_misses 22 = .ok (.iconst 3, 1) := by decide +kernel
theorem dX3_misses_23 : decode cX3_misses 23 = .ok (.if_icmp .ge 129, 3) := by decide +kernel
theorem dX3_misses_26 : decode cX3_misses 26 = .ok (.aload_n 0, 1) := by decide +kernel
theorem dX3_misses_27 : decode cX3_misses 27 = .ok (.getfield 40, 3) := by decide +kernel
theorem dX3_misses_30 : decode cX3_misses 30 = .ok (.getfield 103, 3) := by decide +kernel
theorem dX3_misses_33 : decode cX3_misses 33 = .ok (.iload 4, 2) := by decide +kernel
theorem dX3_misses_35 : decode cX3_misses 35 = .ok (.iload 6, 2) := by decide +kernel
theorem dX3_misses_37 : decode cX3_misses 37 = .ok (.iadd, 1) := by decide +kernel
theorem dX3_misses_38 : decode cX3_misses 38 = .ok (.laload, 1) := by decide +kernel
theorem dX3_misses_39 : decode cX3_misses 39 = .ok (.lstore 7, 2) := by decide +kernel
theorem dX3_misses_41 : decode cX3_misses 41 = .ok (.aload_n 0, 1) := by decide +kernel
theorem dX3_misses_42 : decode cX3_misses 42 = .ok (.getfield 40, 3) := by decide +kernel
theorem dX3_misses_45 : decode cX3_misses 45 = .ok (.getfield 103, 3) := by decide +kernel
theorem dX3_misses_48 : decode cX3_misses 48 = .ok (.iload 4, 2) := by decide +kernel
theorem dX3_misses_50 : decode cX3_misses 50 = .ok (.iconst 3, 1) := by decide +kernel
theorem dX3_misses_51 : decode cX3_misses 51 = .ok (.iadd, 1) := by decide +kernel
theorem dX3_misses_52 : decode cX3_misses 52 = .ok (.iload 6, 2) := by decide +kernel
theorem dX3_misses_54 : decode cX3_misses 54 = .ok (.iadd, 1) := by decide +kernel
theorem dX3_misses_55 : decode cX3_misses 55 = .ok (.laload, 1) := by decide +kernel
theorem dX3_misses_56 : decode cX3_misses 56 = .ok (.lstore 9, 2) := by decide +kernel
theorem dX3_misses_58 : decode cX3_misses 58 = .ok (.aload_n 0, 1) := by decide +kernel
theorem dX3_misses_59 : decode cX3_misses 59 = .ok (.getfield 40, 3) := by decide +kernel
theorem dX3_misses_62 : decode cX3_misses 62 = .ok (.getfield 103, 3) := by decide +kernel
theorem dX3_misses_65 : decode cX3_misses 65 = .ok (.iload 4, 2) := by decide +kernel
theorem dX3_misses_67 : decode cX3_misses 67 = .ok (.bipush 6, 2) := by decide +kernel
theorem dX3_misses_69 : decode cX3_misses 69 = .ok (.iadd, 1) := by decide +kernel
theorem dX3_misses_70 : decode cX3_misses 70 = .ok (.iload 6, 2) := by decide +kernel
theorem dX3_misses_72 : decode cX3_misses 72 = .ok (.iadd, 1) := by decide +kernel
theorem dX3_misses_73 : decode cX3_misses 73 = .ok (.laload, 1) := by decide +kernel
theorem dX3_misses_74 : decode cX3_misses 74 = .ok (.lstore 11, 2) := by decide +kernel
theorem dX3_misses_76 : decode cX3_misses 76 = .ok (.aload_n 0, 1) := by decide +kernel
theorem dX3_misses_77 : decode cX3_misses 77 = .ok (.getfield 37, 3) := by decide +kernel
theorem dX3_misses_80 : decode cX3_misses 80 = .ok (.iload 6, 2) := by decide +kernel
theorem dX3_misses_82 : decode cX3_misses 82 = .ok (.lload 7, 2) := by decide +kernel
theorem dX3_misses_84 : decode cX3_misses 84 = .ok (.aload_n 0, 1) := by decide +kernel
theorem dX3_misses_85 : decode cX3_misses 85 = .ok (.getfield 28, 3) := by decide +kernel
theorem dX3_misses_88 : decode cX3_misses 88 = .ok (.iload 6, 2) := by decide +kernel
theorem dX3_misses_90 : decode cX3_misses 90 = .ok (.laload, 1) := by decide +kernel
theorem dX3_misses_91 : decode cX3_misses 91 = .ok (.aload_n 0, 1) := by decide +kernel
theorem dX3_misses_92 : decode cX3_misses 92 = .ok (.getfield 25, 3) := by decide +kernel
theorem dX3_misses_95 : decode cX3_misses 95 = .ok (.iload 6, 2) := by decide +kernel
theorem dX3_misses_97 : decode cX3_misses 97 = .ok (.laload, 1) := by decide +kernel
theorem dX3_misses_98 : decode cX3_misses 98 = .ok (.lor, 1) := by decide +kernel
theorem dX3_misses_99 : decode cX3_misses 99 = .ok (.land, 1) := by decide +kernel
theorem dX3_misses_100 : decode cX3_misses 100 = .ok (.lload 9, 2) := by decide +kernel
theorem dX3_misses_102 : decode cX3_misses 102 = .ok (.aload_n 0, 1) := by decide +kernel
theorem dX3_misses_103 : decode cX3_misses 103 = .ok (.getfield 28, 3) := by decide +kernel
theorem dX3_misses_106 : decode cX3_misses 106 = .ok (.iload 6, 2) := by decide +kernel
theorem dX3_misses_108 : decode cX3_misses 108 = .ok (.laload, 1) := by decide +kernel
theorem dX3_misses_109 : decode cX3_misses 109 = .ok (.ldc2_w 91, 3) := by decide +kernel
theorem dX3_misses_112 : decode cX3_misses 112 = .ok (.lxor, 1) := by decide +kernel
theorem dX3_misses_113 : decode cX3_misses 113 = .ok (.land, 1) := by decide +kernel
theorem dX3_misses_114 : decode cX3_misses 114 = .ok (.lor, 1) := by decide +kernel
theorem dX3_misses_115 : decode cX3_misses 115 = .ok (.lload 11, 2) := by decide +kernel
theorem dX3_misses_117 : decode cX3_misses 117 = .ok (.aload_n 0, 1) := by decide +kernel
theorem dX3_misses_118 : decode cX3_misses 118 = .ok (.getfield 25, 3) := by decide +kernel
theorem dX3_misses_121 : decode cX3_misses 121 = .ok (.iload 6, 2) := by decide +kernel
theorem dX3_misses_123 : decode cX3_misses 123 = .ok (.laload, 1) := by decide +kernel
theorem dX3_misses_124 : decode cX3_misses 124 = .ok (.ldc2_w 91, 3) := by decide +kernel
theorem dX3_misses_127 : decode cX3_misses 127 = .ok (.lxor, 1) := by decide +kernel
theorem dX3_misses_128 : decode cX3_misses 128 = .ok (.land, 1) := by decide +kernel
theorem dX3_misses_129 : decode cX3_misses 129 = .ok (.lor, 1) := by decide +kernel
theorem dX3_misses_130 : decode cX3_misses 130 = .ok (.lastore, 1) := by decide +kernel
theorem dX3_misses_131 : decode cX3_misses 131 = .ok (.iload 5, 2) := by decide +kernel
theorem dX3_misses_133 : decode cX3_misses 133 = .ok (.aload_n 0, 1) := by decide +kernel
theorem dX3_misses_134 : decode cX3_misses 134 = .ok (.getfield 37, 3) := by decide +kernel
theorem dX3_misses_137 : decode cX3_misses 137 = .ok (.iload 6, 2) := by decide +kernel
theorem dX3_misses_139 : decode cX3_misses 139 = .ok (.laload, 1) := by decide +kernel
theorem dX3_misses_140 : decode cX3_misses 140 = .ok (.invokestatic 93, 3) := by decide +kernel
theorem dX3_misses_143 : decode cX3_misses 143 = .ok (.iadd, 1) := by decide +kernel
theorem dX3_misses_144 : decode cX3_misses 144 = .ok (.istore 5, 2) := by decide +kernel
theorem dX3_misses_146 : decode cX3_misses 146 = .ok (.iinc 6 1, 3) := by decide +kernel
theorem dX3_misses_149 : decode cX3_misses 149 = .ok (.goto (-129), 3) := by decide +kernel
theorem dX3_misses_152 : decode cX3_misses 152 = .ok (.iload 5, 2) := by decide +kernel
theorem dX3_misses_154 : decode cX3_misses 154 = .ok (.ireturn, 1) := by decide +kernel
theorem dX3_missAt_0 : decode cX3_missAt 0 = .ok (.iload_n 1, 1) := by decide +kernel
theorem dX3_missAt_1 : decode cX3_missAt 1 = .ok (.istore_n 2, 1) := by decide +kernel
theorem dX3_missAt_2 : decode cX3_missAt 2 = .ok (.iconst 0, 1) := by decide +kernel
theorem dX3_missAt_3 : decode cX3_missAt 3 = .ok (.istore_n 3, 1) := by decide +kernel
theorem dX3_missAt_4 : decode cX3_missAt 4 = .ok (.iload_n 3, 1) := by decide +kernel
theorem dX3_missAt_5 : decode cX3_missAt 5 = .ok (.sipush 144, 3) := by decide +kernel
theorem dX3_missAt_8 : decode cX3_missAt 8 = .ok (.if_icmp .ge 39, 3) := by decide +kernel
theorem dX3_missAt_11 : decode cX3_missAt 11 = .ok (.aload_n 0, 1) := by decide +kernel
theorem dX3_missAt_12 : decode cX3_missAt 12 = .ok (.getfield 37, 3) := by decide +kernel
theorem dX3_missAt_15 : decode cX3_missAt 15 = .ok (.iload_n 3, 1) := by decide +kernel
theorem dX3_missAt_16 : decode cX3_missAt 16 = .ok (.bipush 48, 2) := by decide +kernel
theorem dX3_missAt_18 : decode cX3_missAt 18 = .ok (.idiv, 1) := by decide +kernel
theorem dX3_missAt_19 : decode cX3_missAt 19 = .ok (.laload, 1) := by decide +kernel
theorem dX3_missAt_20 : decode cX3_missAt 20 = .ok (.iload_n 3, 1) := by decide +kernel
theorem dX3_missAt_21 : decode cX3_missAt 21 = .ok (.bipush 48, 2) := by decide +kernel
theorem dX3_missAt_23 : decode cX3_missAt 23 = .ok (.irem, 1) := by decide +kernel
theorem dX3_missAt_24 : decode cX3_missAt 24 = .ok (.lshr, 1) := by decide +kernel
theorem dX3_missAt_25 : decode cX3_missAt 25 = .ok (.lconst 1, 1) := by decide +kernel
theorem dX3_missAt_26 : decode cX3_missAt 26 = .ok (.land, 1) := by decide +kernel
theorem dX3_missAt_27 : decode cX3_missAt 27 = .ok (.lconst 0, 1) := by decide +kernel
theorem dX3_missAt_28 : decode cX3_missAt 28 = .ok (.lcmp, 1) := by decide +kernel
theorem dX3_missAt_29 : decode cX3_missAt 29 = .ok (.ifCond .eq 12, 3) := by decide +kernel
theorem dX3_missAt_32 : decode cX3_missAt 32 = .ok (.iload_n 2, 1) := by decide +kernel
theorem dX3_missAt_33 : decode cX3_missAt 33 = .ok (.ifCond .ne 5, 3) := by decide +kernel
theorem dX3_missAt_36 : decode cX3_missAt 36 = .ok (.iload_n 3, 1) := by decide +kernel
theorem dX3_missAt_37 : decode cX3_missAt 37 = .ok (.ireturn, 1) := by decide +kernel
theorem dX3_missAt_38 : decode cX3_missAt 38 = .ok (.iinc 2 (-1), 3) := by decide +kernel
theorem dX3_missAt_41 : decode cX3_missAt 41 = .ok (.iinc 3 1, 3) := by decide +kernel
theorem dX3_missAt_44 : decode cX3_missAt 44 = .ok (.goto (-40), 3) := by decide +kernel
theorem dX3_missAt_47 : decode cX3_missAt 47 = .ok (.iconst (-1), 1) := by decide +kernel
theorem dX3_missAt_48 : decode cX3_missAt 48 = .ok (.ireturn, 1) := by decide +kernel
theorem dX4_init_0 : decode cX4_init 0 = .ok (.aload_n 0, 1) := by decide +kernel
theorem dX4_init_1 : decode cX4_init 1 = .ok (.invokespecial 3, 3) := by decide +kernel
theorem dX4_init_4 : decode cX4_init 4 = .ok (.aload_n 0, 1) := by decide +kernel
theorem dX4_init_5 : decode cX4_init 5 = .ok (.iconst 0, 1) := by decide +kernel
theorem dX4_init_6 : decode cX4_init 6 = .ok (.putfield 9, 3) := by decide +kernel
theorem dX4_init_9 : decode cX4_init 9 = .ok (.aload_n 0, 1) := by decide +kernel
theorem dX4_init_10 : decode cX4_init 10 = .ok (.bipush 6, 2) := by decide +kernel
theorem dX4_init_12 : decode cX4_init 12 = .ok (.newarray .int, 2) := by decide +kernel
theorem dX4_init_14 : decode cX4_init 14 = .ok (.putfield 15, 3) := by decide +kernel
theorem dX4_init_17 : decode cX4_init 17 = .ok (.aload_n 0, 1) := by decide +kernel
theorem dX4_init_18 : decode cX4_init 18 = .ok (.bipush 6, 2) := by decide +kernel
theorem dX4_init_20 : decode cX4_init 20 = .ok (.newarray .int, 2) := by decide +kernel
theorem dX4_init_22 : decode cX4_init 22 = .ok (.putfield 19, 3) := by decide +kernel
theorem dX4_init_25 : decode cX4_init 25 = .ok (.aload_n 0, 1) := by decide +kernel
theorem dX4_init_26 : decode cX4_init 26 = .ok (.bipush 6, 2) := by decide +kernel
theorem dX4_init_28 : decode cX4_init 28 = .ok (.newarray .int, 2) := by decide +kernel
theorem dX4_init_30 : decode cX4_init 30 = .ok (.putfield 22, 3) := by decide +kernel
theorem dX4_init_33 : decode cX4_init 33 = .ok (.aload_n 0, 1) := by decide +kernel
theorem dX4_init_34 : decode cX4_init 34 = .ok (.bipush 6, 2) := by decide +kernel
theorem dX4_init_36 : decode cX4_init 36 = .ok (.newarray .int, 2) := by decide +kernel
theorem dX4_init_38 : decode cX4_init 38 = .ok (.putfield 25, 3) := by decide +kernel
theorem dX4_init_41 : decode cX4_init 41 = .ok (.aload_n 0, 1) := by decide +kernel
theorem dX4_init_42 : decode cX4_init 42 = .ok (.iconst 0, 1) := by decide +kernel
theorem dX4_init_43 : decode cX4_init 43 = .ok (.putfield 28, 3) := by decide +kernel
theorem dX4_init_46 : decode cX4_init 46 = .ok (.aload_n 0, 1) := by decide +kernel
theorem dX4_init_47 : decode cX4_init 47 = .ok (.iconst 4, 1) := by decide +kernel
theorem dX4_init_48 : decode cX4_init 48 = .ok (.newarray .int, 2) := by decide +kernel
theorem dX4_init_50 : decode cX4_init 50 = .ok (.putfield 31, 3) := by decide +kernel
theorem dX4_init_53 : decode cX4_init 53 = .ok (.aload_n 0, 1) := by decide +kernel
theorem dX4_init_54 : decode cX4_init 54 = .ok (.iconst 4, 1) := by decide +kernel
theorem dX4_init_55 : decode cX4_init 55 = .ok (.newarray .int, 2) := by decide +kernel
theorem dX4_init_57 : decode cX4_init 57 = .ok (.putfield 34, 3) := by decide +kernel
theorem dX4_init_60 : decode cX4_init 60 = .ok (.aload_n 0, 1) := by decide +kernel
theorem dX4_init_61 : decode cX4_init 61 = .ok (.iconst 4, 1) := by decide +kernel
theorem dX4_init_62 : decode cX4_init 62 = .ok (.newarray .int, 2) := by decide +kernel
theorem dX4_init_64 : decode cX4_init 64 = .ok (.putfield 37, 3) := by decide +kernel
theorem dX4_init_67 : decode cX4_init 67 = .ok (.aload_n 0, 1) := by decide +kernel
theorem dX4_init_68 : decode cX4_init 68 = .ok (.iconst 4, 1) := by decide +kernel
theorem dX4_init_69 : decode cX4_init 69 = .ok (.newarray .int, 2) := by decide +kernel
theorem dX4_init_71 : decode cX4_init 71 = .ok (.putfield 40, 3) := by decide +kernel
theorem dX4_init_74 : decode cX4_init 74 = .ok (.aload_n 0, 1) := by decide +kernel
theorem dX4_init_75 : decode cX4_init 75 = .ok (.iconst 0, 1) := by decide +kernel
theorem dX4_init_76 : decode cX4_init 76 = .ok (.putfield 43, 3) := by decide +kernel
theorem dX4_init_79 : decode cX4_init 79 = .ok (.aload_n 0, 1) := by decide +kernel
theorem dX4_init_80 : decode cX4_init 80 = .ok (.bipush 54, 2) := by decide +kernel
theorem dX4_init_82 : decode cX4_init 82 = .ok (.newarray .long, 2) := by decide +kernel
theorem dX4_init_84 : decode cX4_init 84 = .ok (.putfield 46, 3) := by decide +kernel
theorem dX4_init_87 : decode cX4_init 87 = .ok (.aload_n 0, 1) := by decide +kernel
theorem dX4_init_88 : decode cX4_init 88 = .ok (.new 50, 3) := by decide +kernel
theorem dX4_init_91 : decode cX4_init 91 = .ok (.dup, 1) := by decide +kernel
theorem dX4_init_92 : decode cX4_init 92 = .ok (.invokespecial 52, 3) := by decide +kernel
theorem dX4_init_95 : decode cX4_init 95 = .ok (.putfield 53, 3) := by decide +kernel
theorem dX4_init_98 : decode cX4_init 98 = .ok (.aload_n 0, 1) := by decide +kernel
theorem dX4_init_99 : decode cX4_init 99 = .ok (.iconst 0, 1) := by decide +kernel
theorem dX4_init_100 : decode cX4_init 100 = .ok (.putfield 57, 3) := by decide +kernel
theorem dX4_init_103 : decode cX4_init 103 = .ok (.aload_n 0, 1) := by decide +kernel
theorem dX4_init_104 : decode cX4_init 104 = .ok (.bipush 48, 2) := by decide +kernel
theorem dX4_init_106 : decode cX4_init 106 = .ok (.newarray .int, 2) := by decide +kernel
theorem dX4_init_108 : decode cX4_init 108 = .ok (.putfield 60, 3) := by decide +kernel
theorem dX4_init_111 : decode cX4_init 111 = .ok (.aload_n 0, 1) := by decide +kernel
theorem dX4_init_112 : decode cX4_init 112 = .ok (.iconst 0, 1) := by decide +kernel
theorem dX4_init_113 : decode cX4_init 113 = .ok (.putfield 63, 3) := by decide +kernel
theorem dX4_init_116 : decode cX4_init 116 = .ok (.aload_n 0, 1) := by decide +kernel
theorem dX4_init_117 : decode cX4_init 117 = .ok (.bipush 18, 2) := by decide +kernel
theorem dX4_init_119 : decode cX4_init 119 = .ok (.newarray .int, 2) := by decide +kernel
theorem dX4_init_121 : decode cX4_init 121 = .ok (.putfield 66, 3) := by decide +kernel
theorem dX4_init_124 : decode cX4_init 124 = .ok (.aload_n 0, 1) := by decide +kernel
theorem dX4_init_125 : decode cX4_init 125 = .ok (.iconst 0, 1) := by decide +kernel
theorem dX4_init_126 : decode cX4_init 126 = .ok (.putfield 69, 3) := by decide +kernel
theorem dX4_init_129 : decode cX4_init 129 = .ok (.aload_n 0, 1) := by decide +kernel
theorem dX4_init_130 : decode cX4_init 130 = .ok (.iconst 2, 1) := by decide +kernel
theorem dX4_init_131 : decode cX4_init 131 = .ok (.putfield 72, 3) := by decide +kernel
theorem dX4_init_134 : decode cX4_init 134 = .ok (.iconst 0, 1) := by decide +kernel
theorem dX4_init_135 : decode cX4_init 135 = .ok (.istore_n 1, 1) := by decide +kernel
theorem dX4_init_136 : decode cX4_init 136 = .ok (.iload_n 1, 1) := by decide +kernel
theorem dX4_init_137 : decode cX4_init 137 = .ok (.iconst 4, 1) := by decide +kernel
theorem dX4_init_138 : decode cX4_init 138 = .ok (.if_icmp .ge 16, 3) := by decide +kernel
theorem dX4_init_141 : decode cX4_init 141 = .ok (.aload_n 0, 1) := by decide +kernel
theorem dX4_init_142 : decode cX4_init 142 = .ok (.getfield 40, 3) := by decide +kernel
theorem dX4_init_145 : decode cX4_init 145 = .ok (.iload_n 1, 1) := by decide +kernel
theorem dX4_init_146 : decode cX4_init 146 = .ok (.iconst (-1), 1) := by decide +kernel
theorem dX4_init_147 : decode cX4_init 147 = .ok (.iastore, 1) := by decide +kernel
theorem dX4_init_148 : decode cX4_init 148 = .ok (.iinc 1 1, 3) := by decide +kernel
theorem dX4_init_151 : decode cX4_init 151 = .ok (.goto (-15), 3) := by decide +kernel
theorem dX4_init_154 : decode cX4_init 154 = .ok (.return_, 1) := by decide +kernel
theorem dX4_copy_0 : decode cX4_copy 0 = .ok (.aload_n 0, 1) := by decide +kernel
theorem dX4_copy_1 : decode cX4_copy 1 = .ok (.aload_n 1, 1) := by decide +kernel
theorem dX4_copy_2 : decode cX4_copy 2 = .ok (.getfield 9, 3) := by decide +kernel
theorem dX4_copy_5 : decode cX4_copy 5 = .ok (.putfield 9, 3) := by decide +kernel
theorem dX4_copy_8 : decode cX4_copy 8 = .ok (.aload_n 0, 1) := by decide +kernel
theorem dX4_copy_9 : decode cX4_copy 9 = .ok (.aload_n 1, 1) := by decide +kernel
theorem dX4_copy_10 : decode cX4_copy 10 = .ok (.getfield 28, 3) := by decide +kernel
theorem dX4_copy_13 : decode cX4_copy 13 = .ok (.putfield 28, 3) := by decide +kernel
theorem dX4_copy_16 : decode cX4_copy 16 = .ok (.aload_n 0, 1) := by decide +kernel
theorem dX4_copy_17 : decode cX4_copy 17 = .ok (.aload_n 1, 1) := by decide +kernel
theorem dX4_copy_18 : decode cX4_copy 18 = .ok (.getfield 43, 3) := by decide +kernel
theorem dX4_copy_21 : decode cX4_copy 21 = .ok (.putfield 43, 3) := by decide +kernel
theorem dX4_copy_24 : decode cX4_copy 24 = .ok (.aload_n 0, 1) := by decide +kernel
theorem dX4_copy_25 : decode cX4_copy 25 = .ok (.aload_n 1, 1) := by decide +kernel
theorem dX4_copy_26 : decode cX4_copy 26 = .ok (.getfield 57, 3) := by decide +kernel
theorem dX4_copy_29 : decode cX4_copy 29 = .ok (.putfield 57, 3) := by decide +kernel
theorem dX4_copy_32 : decode cX4_copy 32 = .ok (.aload_n 0, 1) := by decide +kernel
theorem dX4_copy_33 : decode cX4_copy 33 = .ok (.aload_n 1, 1) := by decide +kernel
theorem dX4_copy_34 : decode cX4_copy 34 = .ok (.getfield 63, 3) := by decide +kernel
theorem dX4_copy_37 : decode cX4_copy 37 = .ok (.putfield 63, 3) := by decide +kernel
theorem dX4_copy_40 : decode cX4_copy 40 = .ok (.aload_n 0, 1) := by decide +kernel
theorem dX4_copy_41 : decode cX4_copy 41 = .ok (.aload_n 1, 1) := by decide +kernel
theorem dX4_copy_42 : decode cX4_copy 42 = .ok (.getfield 69, 3) := by decide +kernel
theorem dX4_copy_45 : decode cX4_copy 45 = .ok (.putfield 69, 3) := by decide +kernel
theorem dX4_copy_48 : decode cX4_copy 48 = .ok (.aload_n 0, 1) := by decide +kernel
theorem dX4_copy_49 : decode cX4_copy 49 = .ok (.aload_n 1, 1) := by decide +kernel
theorem dX4_copy_50 : decode cX4_copy 50 = .ok (.getfield 72, 3) := by decide +kernel
theorem dX4_copy_53 : decode cX4_copy 53 = .ok (.putfield 72, 3) := by decide +kernel
theorem dX4_copy_56 : decode cX4_copy 56 = .ok (.aload_n 1, 1) := by decide +kernel
theorem dX4_copy_57 : decode cX4_copy 57 = .ok (.getfield 15, 3) := by decide +kernel
theorem dX4_copy_60 : decode cX4_copy 60 = .ok (.iconst 0, 1) := by decide +kernel
theorem dX4_copy_61 : decode cX4_copy 61 = .ok (.aload_n 0, 1) := by decide +kernel
theorem dX4_copy_62 : decode cX4_copy 62 = .ok (.getfield 15, 3) := by decide +kernel
theorem dX4_copy_65 : decode cX4_copy 65 = .ok (.iconst 0, 1) := by decide +kernel
theorem dX4_copy_66 : decode cX4_copy 66 = .ok (.bipush 6, 2) := by decide +kernel
theorem dX4_copy_68 : decode cX4_copy 68 = .ok (.invokestatic 75, 3) := by decide +kernel
theorem dX4_copy_71 : decode cX4_copy 71 = .ok (.aload_n 1, 1) := by decide +kernel
theorem dX4_copy_72 : decode cX4_copy 72 = .ok (.getfield 19, 3) := by decide +kernel
theorem dX4_copy_75 : decode cX4_copy 75 = .ok (.iconst 0, 1) := by decide +kernel
theorem dX4_copy_76 : decode cX4_copy 76 = .ok (.aload_n 0, 1) := by decide +kernel
theorem dX4_copy_77 : decode cX4_copy 77 = .ok (.getfield 19, 3) := by decide +kernel
theorem dX4_copy_80 : decode cX4_copy 80 = .ok (.iconst 0, 1) := by decide +kernel
theorem dX4_copy_81 : decode cX4_copy 81 = .ok (.bipush 6, 2) := by decide +kernel
theorem dX4_copy_83 : decode cX4_copy 83 = .ok (.invokestatic 75, 3) := by decide +kernel
theorem dX4_copy_86 : decode cX4_copy 86 = .ok (.aload_n 1, 1) := by decide +kernel
theorem dX4_copy_87 : decode cX4_copy 87 = .ok (.getfield 22, 3) := by decide +kernel
theorem dX4_copy_90 : decode cX4_copy 90 = .ok (.iconst 0, 1) := by decide +kernel
theorem dX4_copy_91 : decode cX4_copy 91 = .ok (.aload_n 0, 1) := by decide +kernel
theorem dX4_copy_92 : decode cX4_copy 92 = .ok (.getfield 22, 3) := by decide +kernel
theorem dX4_copy_95 : decode cX4_copy 95 = .ok (.iconst 0, 1) := by decide +kernel
theorem dX4_copy_96 : decode cX4_copy 96 = .ok (.bipush 6, 2) := by decide +kernel
theorem dX4_copy_98 : decode cX4_copy 98 = .ok (.invokestatic 75, 3) := by decide +kernel
theorem dX4_copy_101 : decode cX4_copy 101 = .ok (.aload_n 1, 1) := by decide +kernel
theorem dX4_copy_102 : decode cX4_copy 102 = .ok (.getfield 25, 3) := by decide +kernel
theorem dX4_copy_105 : decode cX4_copy 105 = .ok (.iconst 0, 1) := by decide +kernel
theorem dX4_copy_106 : decode cX4_copy 106 = .ok (.aload_n 0, 1) := by decide +kernel
theorem dX4_copy_107 : decode cX4_copy 107 = .ok (.getfield 25, 3) := by decide +kernel
theorem dX4_copy_110 : decode cX4_copy 110 = .ok (.iconst 0, 1) := by decide +kernel
theorem dX4_copy_111 : decode cX4_copy 111 = .ok (.bipush 6, 2) := by decide +kernel
theorem dX4_copy_113 : decode cX4_copy 113 = .ok (.invokestatic 75, 3) := by decide +kernel
theorem dX4_copy_116 : decode cX4_copy 116 = .ok (.aload_n 1, 1) := by decide +kernel
theorem dX4_copy_117 : decode cX4_copy 117 = .ok (.getfield 31, 3) := by decide +kernel
theorem dX4_copy_120 : decode cX4_copy 120 = .ok (.iconst 0, 1) := by decide +kernel
theorem dX4_copy_121 : decode cX4_copy 121 = .ok (.aload_n 0, 1) := by decide +kernel
theorem dX4_copy_122 : decode cX4_copy 122 = .ok (.getfield 31, 3) := by decide +kernel
theorem dX4_copy_125 : decode cX4_copy 125 = .ok (.iconst 0, 1) := by decide +kernel
theorem dX4_copy_126 : decode cX4_copy 126 = .ok (.iconst 4, 1) := by decide +kernel
theorem dX4_copy_127 : decode cX4_copy 127 = .ok (.invokestatic 75, 3) := by decide +kernel
theorem dX4_copy_130 : decode cX4_copy 130 = .ok (.aload_n 1, 1) := by decide +kernel
theorem dX4_copy_131 : decode cX4_copy 131 = .ok (.getfield 34, 3) := by decide +kernel
theorem dX4_copy_134 : decode cX4_copy 134 = .ok (.iconst 0, 1) := by decide +kernel
theorem dX4_copy_135 : decode cX4_copy 135 = .ok (.aload_n 0, 1) := by decide +kernel
theorem dX4_copy_136 : decode cX4_copy 136 = .ok (.getfield 34, 3) := by decide +kernel
theorem dX4_copy_139 : decode cX4_copy 139 = .ok (.iconst 0, 1) := by decide +kernel
theorem dX4_copy_140 : decode cX4_copy 140 = .ok (.iconst 4, 1) := by decide +kernel
theorem dX4_copy_141 : decode cX4_copy 141 = .ok (.invokestatic 75, 3) := by decide +kernel
theorem dX4_copy_144 : decode cX4_copy 144 = .ok (.aload_n 1, 1) := by decide +kernel
theorem dX4_copy_145 : decode cX4_copy 145 = .ok (.getfield 37, 3) := by decide +kernel
theorem dX4_copy_148 : decode cX4_copy 148 = .ok (.iconst 0, 1) := by decide +kernel
theorem dX4_copy_149 : decode cX4_copy 149 = .ok (.aload_n 0, 1) := by decide +kernel
theorem dX4_copy_150 : decode cX4_copy 150 = .ok (.getfield 37, 3) := by decide +kernel
theorem dX4_copy_153 : decode cX4_copy 153 = .ok (.iconst 0, 1) := by decide +kernel
theorem dX4_copy_154 : decode cX4_copy 154 = .ok (.iconst 4, 1) := by decide +kernel
theorem dX4_copy_155 : decode cX4_copy 155 = .ok (.invokestatic 75, 3) := by decide +kernel
theorem dX4_copy_158 : decode cX4_copy 158 = .ok (.aload_n 1, 1) := by decide +kernel
theorem dX4_copy_159 : decode cX4_copy 159 = .ok (.getfield 40, 3) := by decide +kernel
theorem dX4_copy_162 : decode cX4_copy 162 = .ok (.iconst 0, 1) := by decide +kernel
theorem dX4_copy_163 : decode cX4_copy 163 = .ok (.aload_n 0, 1) := by decide +kernel
theorem dX4_copy_164 : decode cX4_copy 164 = .ok (.getfield 40, 3) := by decide +kernel
theorem dX4_copy_167 : decode cX4_copy 167 = .ok (.iconst 0, 1) := by decide +kernel
theorem dX4_copy_168 : decode cX4_copy 168 = .ok (.iconst 4, 1) := by decide +kernel
theorem dX4_copy_169 : decode cX4_copy 169 = .ok (.invokestatic 75, 3) := by decide +kernel
theorem dX4_copy_172 : decode cX4_copy 172 = .ok (.aload_n 1, 1) := by decide +kernel
theorem dX4_copy_173 : decode cX4_copy 173 = .ok (.getfield 46, 3) := by decide +kernel
theorem dX4_copy_176 : decode cX4_copy 176 = .ok (.iconst 0, 1) := by decide +kernel
theorem dX4_copy_177 : decode cX4_copy 177 = .ok (.aload_n 0, 1) := by decide +kernel
theorem dX4_copy_178 : decode cX4_copy 178 = .ok (.getfield 46, 3) := by decide +kernel
theorem dX4_copy_181 : decode cX4_copy 181 = .ok (.iconst 0, 1) := by decide +kernel
theorem dX4_copy_182 : decode cX4_copy 182 = .ok (.bipush 54, 2) := by decide +kernel
theorem dX4_copy_184 : decode cX4_copy 184 = .ok (.invokestatic 75, 3) := by decide +kernel
theorem dX4_copy_187 : decode cX4_copy 187 = .ok (.aload_n 1, 1) := by decide +kernel
theorem dX4_copy_188 : decode cX4_copy 188 = .ok (.getfield 60, 3) := by decide +kernel
theorem dX4_copy_191 : decode cX4_copy 191 = .ok (.iconst 0, 1) := by decide +kernel
theorem dX4_copy_192 : decode cX4_copy 192 = .ok (.aload_n 0, 1) := by decide +kernel
theorem dX4_copy_193 : decode cX4_copy 193 = .ok (.getfield 60, 3) := by decide +kernel
theorem dX4_copy_196 : decode cX4_copy 196 = .ok (.iconst 0, 1) := by decide +kernel
theorem dX4_copy_197 : decode cX4_copy 197 = .ok (.bipush 48, 2) := by decide +kernel
theorem dX4_copy_199 : decode cX4_copy 199 = .ok (.invokestatic 75, 3) := by decide +kernel
theorem dX4_copy_202 : decode cX4_copy 202 = .ok (.aload_n 1, 1) := by decide +kernel
theorem dX4_copy_203 : decode cX4_copy 203 = .ok (.getfield 66, 3) := by decide +kernel
theorem dX4_copy_206 : decode cX4_copy 206 = .ok (.iconst 0, 1) := by decide +kernel
theorem dX4_copy_207 : decode cX4_copy 207 = .ok (.aload_n 0, 1) := by decide +kernel
theorem dX4_copy_208 : decode cX4_copy 208 = .ok (.getfield 66, 3) := by decide +kernel
theorem dX4_copy_211 : decode cX4_copy 211 = .ok (.iconst 0, 1) := by decide +kernel
theorem dX4_copy_212 : decode cX4_copy 212 = .ok (.bipush 18, 2) := by decide +kernel
theorem dX4_copy_214 : decode cX4_copy 214 = .ok (.invokestatic 75, 3) := by decide +kernel
theorem dX4_copy_217 : decode cX4_copy 217 = .ok (.aload_n 0, 1) := by decide +kernel
theorem dX4_copy_218 : decode cX4_copy 218 = .ok (.getfield 53, 3) := by decide +kernel
theorem dX4_copy_221 : decode cX4_copy 221 = .ok (.aload_n 1, 1) := by decide +kernel
theorem dX4_copy_222 : decode cX4_copy 222 = .ok (.getfield 53, 3) := by decide +kernel
theorem dX4_copy_225 : decode cX4_copy 225 = .ok (.invokevirtual 81, 3) := by decide +kernel
theorem dX4_copy_228 : decode cX4_copy 228 = .ok (.return_, 1) := by decide +kernel
theorem dX4_addSheet_0 : decode cX4_addSheet 0 = .ok (.aload_n 0, 1) := by decide +kernel
theorem dX4_addSheet_1 : decode cX4_addSheet 1 = .ok (.getfield 15, 3) := by decide +kernel
theorem dX4_addSheet_4 : decode cX4_addSheet 4 = .ok (.aload_n 0, 1) := by decide +kernel
theorem dX4_addSheet_5 : decode cX4_addSheet 5 = .ok (.getfield 9, 3) := by decide +kernel
theorem dX4_addSheet_8 : decode cX4_addSheet 8 = .ok (.iload_n 2, 1) := by decide +kernel
theorem dX4_addSheet_9 : decode cX4_addSheet 9 = .ok (.iastore, 1) := by decide +kernel
theorem dX4_addSheet_10 : decode cX4_addSheet 10 = .ok (.aload_n 0, 1) := by decide +kernel
theorem dX4_addSheet_11 : decode cX4_addSheet 11 = .ok (.getfield 19, 3) := by decide +kernel
theorem dX4_addSheet_14 : decode cX4_addSheet 14 = .ok (.aload_n 0, 1) := by decide +kernel
theorem dX4_addSheet_15 : decode cX4_addSheet 15 = .ok (.getfield 9, 3) := by decide +kernel
theorem dX4_addSheet_18 : decode cX4_addSheet 18 = .ok (.iload_n 2, 1) := by decide +kernel
theorem dX4_addSheet_19 : decode cX4_addSheet 19 = .ok (.iastore, 1) := by decide +kernel
theorem dX4_addSheet_20 : decode cX4_addSheet 20 = .ok (.aload_n 0, 1) := by decide +kernel
theorem dX4_addSheet_21 : decode cX4_addSheet 21 = .ok (.getfield 22, 3) := by decide +kernel
theorem dX4_addSheet_24 : decode cX4_addSheet 24 = .ok (.aload_n 0, 1) := by decide +kernel
theorem dX4_addSheet_25 : decode cX4_addSheet 25 = .ok (.getfield 9, 3) := by decide +kernel
theorem dX4_addSheet_28 : decode cX4_addSheet 28 = .ok (.iload_n 1, 1) := by decide +kernel
theorem dX4_addSheet_29 : decode cX4_addSheet 29 = .ok (.iastore, 1) := by decide +kernel
theorem dX4_addSheet_30 : decode cX4_addSheet 30 = .ok (.aload_n 0, 1) := by decide +kernel
theorem dX4_addSheet_31 : decode cX4_addSheet 31 = .ok (.getfield 25, 3) := by decide +kernel
theorem dX4_addSheet_34 : decode cX4_addSheet 34 = .ok (.aload_n 0, 1) := by decide +kernel
theorem dX4_addSheet_35 : decode cX4_addSheet 35 = .ok (.getfield 9, 3) := by decide +kernel
theorem dX4_addSheet_38 : decode cX4_addSheet 38 = .ok (.iconst 0, 1) := by decide +kernel
theorem dX4_addSheet_39 : decode cX4_addSheet 39 = .ok (.iastore, 1) := by decide +kernel
theorem dX4_addSheet_40 : decode cX4_addSheet 40 = .ok (.aload_n 0, 1) := by decide +kernel
theorem dX4_addSheet_41 : decode cX4_addSheet 41 = .ok (.dup, 1) := by decide +kernel
theorem dX4_addSheet_42 : decode cX4_addSheet 42 = .ok (.getfield 9, 3) := by decide +kernel
theorem dX4_addSheet_45 : decode cX4_addSheet 45 = .ok (.iconst 1, 1) := by decide +kernel
theorem dX4_addSheet_46 : decode cX4_addSheet 46 = .ok (.iadd, 1) := by decide +kernel
theorem dX4_addSheet_47 : decode cX4_addSheet 47 = .ok (.putfield 9, 3) := by decide +kernel
theorem dX4_addSheet_50 : decode cX4_addSheet 50 = .ok (.aload_n 0, 1) := by decide +kernel
theorem dX4_addSheet_51 : decode cX4_addSheet 51 = .ok (.getfield 9, 3) := by decide +kernel
theorem dX4_addSheet_54 : decode cX4_addSheet 54 = .ok (.iconst 1, 1) := by decide +kernel
theorem dX4_addSheet_55 : decode cX4_addSheet 55 = .ok (.isub, 1) := by decide +kernel
theorem dX4_addSheet_56 : decode cX4_addSheet 56 = .ok (.ireturn, 1) := by decide +kernel
theorem dX4_addSlot_0 : decode cX4_addSlot 0 = .ok (.aload_n 0, 1) := by decide +kernel
theorem dX4_addSlot_1 : decode cX4_addSlot 1 = .ok (.getfield 31, 3) := by decide +kernel
theorem dX4_addSlot_4 : decode cX4_addSlot 4 = .ok (.aload_n 0, 1) := by decide +kernel
theorem dX4_addSlot_5 : decode cX4_addSlot 5 = .ok (.getfield 28, 3) := by decide +kernel
theorem dX4_addSlot_8 : decode cX4_addSlot 8 = .ok (.iload_n 1, 1) := by decide +kernel
theorem dX4_addSlot_9 : decode cX4_addSlot 9 = .ok (.iastore, 1) := by decide +kernel
theorem dX4_addSlot_10 : decode cX4_addSlot 10 = .ok (.aload_n 0, 1) := by decide +kernel
theorem dX4_addSlot_11 : decode cX4_addSlot 11 = .ok (.getfield 34, 3) := by decide +kernel
theorem dX4_addSlot_14 : decode cX4_addSlot 14 = .ok (.aload_n 0, 1) := by decide +kernel
theorem dX4_addSlot_15 : decode cX4_addSlot 15 = .ok (.getfield 28, 3) := by decide +kernel
theorem dX4_addSlot_18 : decode cX4_addSlot 18 = .ok (.iload_n 2, 1) := by decide +kernel
theorem dX4_addSlot_19 : decode cX4_addSlot 19 = .ok (.iastore, 1) := by decide +kernel
theorem dX4_addSlot_20 : decode cX4_addSlot 20 = .ok (.aload_n 0, 1) := by decide +kernel
theorem dX4_addSlot_21 : decode cX4_addSlot 21 = .ok (.getfield 37, 3) := by decide +kernel
theorem dX4_addSlot_24 : decode cX4_addSlot 24 = .ok (.aload_n 0, 1) := by decide +kernel
theorem dX4_addSlot_25 : decode cX4_addSlot 25 = .ok (.getfield 28, 3) := by decide +kernel
theorem dX4_addSlot_28 : decode cX4_addSlot 28 = .ok (.iload_n 3, 1) := by decide +kernel
theorem dX4_addSlot_29 : decode cX4_addSlot 29 = .ok (.iastore, 1) := by decide +kernel
theorem dX4_addSlot_30 : decode cX4_addSlot 30 = .ok (.aload_n 0, 1) := by decide +kernel
theorem dX4_addSlot_31 : decode cX4_addSlot 31 = .ok (.dup, 1) := by decide +kernel
theorem dX4_addSlot_32 : decode cX4_addSlot 32 = .ok (.getfield 28, 3) := by decide +kernel
theorem dX4_addSlot_35 : decode cX4_addSlot 35 = .ok (.iconst 1, 1) := by decide +kernel
theorem dX4_addSlot_36 : decode cX4_addSlot 36 = .ok (.iadd, 1) := by decide +kernel
theorem dX4_addSlot_37 : decode cX4_addSlot 37 = .ok (.putfield 28, 3) := by decide +kernel
theorem dX4_addSlot_40 : decode cX4_addSlot 40 = .ok (.aload_n 0, 1) := by decide +kernel
theorem dX4_addSlot_41 : decode cX4_addSlot 41 = .ok (.getfield 28, 3) := by decide +kernel
theorem dX4_addSlot_44 : decode cX4_addSlot 44 = .ok (.iconst 1, 1) := by decide +kernel
theorem dX4_addSlot_45 : decode cX4_addSlot 45 = .ok (.isub, 1) := by decide +kernel
theorem dX4_addSlot_46 : decode cX4_addSlot 46 = .ok (.ireturn, 1) := by decide +kernel
theorem dX4_addScene_0 : decode cX4_addScene 0 = .ok (.aload_n 0, 1) := by decide +kernel
theorem dX4_addScene_1 : decode cX4_addScene 1 = .ok (.getfield 43, 3) := by decide +kernel
theorem dX4_addScene_4 : decode cX4_addScene 4 = .ok (.iconst 3, 1) := by decide +kernel
theorem dX4_addScene_5 : decode cX4_addScene 5 = .ok (.imul, 1) := by decide +kernel
theorem dX4_addScene_6 : decode cX4_addScene 6 = .ok (.iconst 3, 1) := by decide +kernel
theorem dX4_addScene_7 : decode cX4_addScene 7 = .ok (.imul, 1) := by decide +kernel
theorem dX4_addScene_8 : decode cX4_addScene 8 = .ok (.istore_n 2, 1) := by decide +kernel
theorem dX4_addScene_9 : decode cX4_addScene 9 = .ok (.iconst 0, 1) := by decide +kernel
theorem dX4_addScene_10 : decode cX4_addScene 10 = .ok (.istore_n 3, 1) := by decide +kernel
theorem dX4_addScene_11 : decode cX4_addScene 11 = .ok (.iload_n 3, 1) := by decide +kernel
theorem dX4_addScene_12 : decode cX4_addScene 12 = .ok (.iconst 3, 1) := by decide +kernel
theorem dX4_addScene_13 : decode cX4_addScene 13 = .ok (.if_icmp .ge 43, 3) := by decide +kernel
theorem dX4_addScene_16 : decode cX4_addScene 16 = .ok (.aload_n 0, 1) := by decide +kernel
theorem dX4_addScene_17 : decode cX4_addScene 17 = .ok (.getfield 46, 3) := by decide +kernel
theorem dX4_addScene_20 : decode cX4_addScene 20 = .ok (.iload_n 2, 1) := by decide +kernel
theorem dX4_addScene_21 : decode cX4_addScene 21 = .ok (.iload_n 3, 1) := by decide +kernel
theorem dX4_addScene_22 : decode cX4_addScene 22 = .ok (.iadd, 1) := by decide +kernel
theorem dX4_addScene_23 : decode cX4_addScene 23 = .ok (.ldc2_w 85, 3) := by decide +kernel
theorem dX4_addScene_26 : decode cX4_addScene 26 = .ok (.lastore, 1) := by decide +kernel
theorem dX4_addScene_27 : decode cX4_addScene 27 = .ok (.aload_n 0, 1) := by decide +kernel
theorem dX4_addScene_28 : decode cX4_addScene 28 = .ok (.getfield 46, 3) := by decide +kernel
theorem dX4_addScene_31 : decode cX4_addScene 31 = .ok (.iload_n 2, 1) := by decide +kernel
theorem dX4_addScene_32 : decode cX4_addScene 32 = .ok (.iconst 3, 1) := by decide +kernel
theorem dX4_addScene_33 : decode cX4_addScene 33 = .ok (.iadd, 1) := by decide +kernel
theorem dX4_addScene_34 : decode cX4_addScene 34 = .ok (.iload_n 3, 1) := by decide +kernel
theorem dX4_addScene_35 : decode cX4_addScene 35 = .ok (.iadd, 1) := by decide +kernel
theorem dX4_addScene_36 : decode cX4_addScene 36 = .ok (.lconst 0, 1) := by decide +kernel
theorem dX4_addScene_37 : decode cX4_addScene 37 = .ok (.lastore, 1) := by decide +kernel
theorem dX4_addScene_38 : decode cX4_addScene 38 = .ok (.aload_n 0, 1) := by decide +kernel
theorem dX4_addScene_39 : decode cX4_addScene 39 = .ok (.getfield 46, 3) := by decide +kernel
theorem dX4_addScene_42 : decode cX4_addScene 42 = .ok (.iload_n 2, 1) := by decide +kernel
theorem dX4_addScene_43 : decode cX4_addScene 43 = .ok (.bipush 6, 2) := by decide +kernel
theorem dX4_addScene_45 : decode cX4_addScene 45 = .ok (.iadd, 1) := by decide +kernel
theorem dX4_addScene_46 : decode cX4_addScene 46 = .ok (.iload_n 3, 1) := by decide +kernel
theorem dX4_addScene_47 : decode cX4_addScene 47 = .ok (.iadd, 1) := by decide +kernel
theorem dX4_addScene_48 : decode cX4_addScene 48 = .ok (.lconst 0, 1) := by decide +kernel
theorem dX4_addScene_49 : decode cX4_addScene 49 = .ok (.lastore, 1) := by decide +kernel
theorem dX4_addScene_50 : decode cX4_addScene 50 = .ok (.iinc 3 1, 3) := by decide +kernel
theorem dX4_addScene_53 : decode cX4_addScene 53 = .ok (.goto (-42), 3) := by decide +kernel
theorem dX4_addScene_56 : decode cX4_addScene 56 = .ok (.iconst 0, 1) := by decide +kernel
theorem dX4_addScene_57 : decode cX4_addScene 57 = .ok (.istore_n 3, 1) := by decide +kernel
theorem dX4_addScene_58 : decode cX4_addScene 58 = .ok (.iload_n 3, 1) := by decide +kernel
theorem dX4_addScene_59 : decode cX4_addScene 59 = .ok (.aload_n 1, 1) := by decide +kernel
theorem dX4_addScene_60 : decode cX4_addScene 60 = .ok (.getfield 87, 3) := by decide +kernel
theorem dX4_addScene_63 : decode cX4_addScene 63 = .ok (.if_icmp .ge 104, 3) := by decide +kernel
theorem dX4_addScene_66 : decode cX4_addScene 66 = .ok (.iload_n 3, 1) := by decide +kernel
theorem dX4_addScene_67 : decode cX4_addScene 67 = .ok (.iconst 5, 1) := by decide +kernel
theorem dX4_addScene_68 : decode cX4_addScene 68 = .ok (.imul, 1) := by decide +kernel
theorem dX4_addScene_69 : decode cX4_addScene 69 = .ok (.istore 4, 2) := by decide +kernel
theorem dX4_addScene_71 : decode cX4_addScene 71 = .ok (.lconst 1, 1) := by decide +kernel
theorem dX4_addScene_72 : decode cX4_addScene 72 = .ok (.aload_n 1, 1) := by decide +kernel
theorem dX4_addScene_73 : decode cX4_addScene 73 = .ok (.getfield 92, 3) := by decide +kernel
theorem dX4_addScene_76 : decode cX4_addScene 76 = .ok (.iload 4, 2) := by decide +kernel
theorem dX4_addScene_78 : decode cX4_addScene 78 = .ok (.iconst 3, 1) := by decide +kernel
theorem dX4_addScene_79 : decode cX4_addScene 79 = .ok (.iadd, 1) := by decide +kernel
theorem dX4_addScene_80 : decode cX4_addScene 80 = .ok (.iaload, 1) := by decide +kernel
theorem dX4_addScene_81 : decode cX4_addScene 81 = .ok (.lshl, 1) := by decide +kernel
theorem dX4_addScene_82 : decode cX4_addScene 82 = .ok (.lconst 1, 1) := by decide +kernel
theorem dX4_addScene_83 : decode cX4_addScene 83 = .ok (.lsub, 1) := by decide +kernel
theorem dX4_addScene_84 : decode cX4_addScene 84 = .ok (.aload_n 1, 1) := by decide +kernel
theorem dX4_addScene_85 : decode cX4_addScene 85 = .ok (.getfield 92, 3) := by decide +kernel
theorem dX4_addScene_88 : decode cX4_addScene 88 = .ok (.iload 4, 2) := by decide +kernel
theorem dX4_addScene_90 : decode cX4_addScene 90 = .ok (.iconst 1, 1) := by decide +kernel
theorem dX4_addScene_91 : decode cX4_addScene 91 = .ok (.iadd, 1) := by decide +kernel
theorem dX4_addScene_92 : decode cX4_addScene 92 = .ok (.iaload, 1) := by decide +kernel
theorem dX4_addScene_93 : decode cX4_addScene 93 = .ok (.lshl, 1) := by decide +kernel
theorem dX4_addScene_94 : decode cX4_addScene 94 = .ok (.lstore 5, 2) := by decide +kernel
theorem dX4_addScene_96 : decode cX4_addScene 96 = .ok (.aload_n 1, 1) := by decide +kernel
theorem dX4_addScene_97 : decode cX4_addScene 97 = .ok (.getfield 92, 3) := by decide +kernel
theorem dX4_addScene_100 : decode cX4_addScene 100 = .ok (.iload 4, 2) := by decide +kernel
theorem dX4_addScene_102 : decode cX4_addScene 102 = .ok (.iconst 2, 1) := by decide +kernel
theorem dX4_addScene_103 : decode cX4_addScene 103 = .ok (.iadd, 1) := by decide +kernel
theorem dX4_addScene_104 : decode cX4_addScene 104 = .ok (.iaload, 1) := by decide +kernel
theorem dX4_addScene_105 : decode cX4_addScene 105 = .ok (.istore 7, 2) := by decide +kernel
theorem dX4_addScene_107 : decode cX4_addScene 107 = .ok (.iload 7, 2) := by decide +kernel
theorem dX4_addScene_109 : decode cX4_addScene 109 = .ok (.istore 8, 2) := by decide +kernel
theorem dX4_addScene_111 : decode cX4_addScene 111 = .ok (.iload 8, 2) := by decide +kernel
theorem dX4_addScene_113 : decode cX4_addScene 113 = .ok (.iload 7, 2) := by decide +kernel
theorem dX4_addScene_115 : decode cX4_addScene 115 = .ok (.aload_n 1, 1) := by decide +kernel
theorem dX4_addScene_116 : decode cX4_addScene 116 = .ok (.getfield 92, 3) := by decide +kernel
theorem dX4_addScene_119 : decode cX4_addScene 119 = .ok (.iload 4, 2) := by decide +kernel
theorem dX4_addScene_121 : decode cX4_addScene 121 = .ok (.iconst 4, 1) := by decide +kernel
theorem dX4_addScene_122 : decode cX4_addScene 122 = .ok (.iadd, 1) := by decide +kernel
theorem dX4_addScene_123 : decode cX4_addScene 123 = .ok (.iaload, 1) := by decide +kernel
theorem dX4_addScene_124 : decode cX4_addScene 124 = .ok (.iadd, 1) := by decide +kernel
theorem dX4_addScene_125 : decode cX4_addScene 125 = .ok (.if_icmp .ge 36, 3) := by decide +kernel
theorem dX4_addScene_128 : decode cX4_addScene 128 = .ok (.aload_n 0, 1) := by decide +kernel
theorem dX4_addScene_129 : decode cX4_addScene 129 = .ok (.iload_n 2, 1) := by decide +kernel
theorem dX4_addScene_130 : decode cX4_addScene 130 = .ok (.iload 8, 2) := by decide +kernel
theorem dX4_addScene_132 : decode cX4_addScene 132 = .ok (.iconst 2, 1) := by decide +kernel
theorem dX4_addScene_133 : decode cX4_addScene 133 = .ok (.ishr, 1) := by decide +kernel
theorem dX4_addScene_134 : decode cX4_addScene 134 = .ok (.iadd, 1) := by decide +kernel
theorem dX4_addScene_135 : decode cX4_addScene 135 = .ok (.aload_n 1, 1) := by decide +kernel
theorem dX4_addScene_136 : decode cX4_addScene 136 = .ok (.getfield 92, 3) := by decide +kernel
theorem dX4_addScene_139 : decode cX4_addScene 139 = .ok (.iload 4, 2) := by decide +kernel
theorem dX4_addScene_141 : decode cX4_addScene 141 = .ok (.iaload, 1) := by decide +kernel
theorem dX4_addScene_142 : decode cX4_addScene 142 = .ok (.lload 5, 2) := by decide +kernel
theorem dX4_addScene_144 : decode cX4_addScene 144 = .ok (.bipush 12, 2) := by decide +kernel
theorem dX4_addScene_146 : decode cX4_addScene 146 = .ok (.iload 8, 2) := by decide +kernel
theorem dX4_addScene_148 : decode cX4_addScene 148 = .ok (.iconst 3, 1) := by decide +kernel
theorem dX4_addScene_149 : decode cX4_addScene 149 = .ok (.iand, 1) := by decide +kernel
theorem dX4_addScene_150 : decode cX4_addScene 150 = .ok (.imul, 1) := by decide +kernel
theorem dX4_addScene_151 : decode cX4_addScene 151 = .ok (.lshl, 1) := by decide +kernel
theorem dX4_addScene_152 : decode cX4_addScene 152 = .ok (.invokevirtual 95, 3) := by decide +kernel
theorem dX4_addScene_155 : decode cX4_addScene 155 = .ok (.iinc 8 1, 3) := by decide +kernel
theorem dX4_addScene_158 : decode cX4_addScene 158 = .ok (.goto (-47), 3) := by decide +kernel
theorem dX4_addScene_161 : decode cX4_addScene 161 = .ok (.iinc 3 1, 3) := by decide +kernel
theorem dX4_addScene_164 : decode cX4_addScene 164 = .ok (.goto (-106), 3) := by decide +kernel
theorem dX4_addScene_167 : decode cX4_addScene 167 = .ok (.aload_n 0, 1) := by decide +kernel
theorem dX4_addScene_168 : decode cX4_addScene 168 = .ok (.dup, 1) := by decide +kernel
theorem dX4_addScene_169 : decode cX4_addScene 169 = .ok (.getfield 43, 3) := by decide +kernel
theorem dX4_addScene_172 : decode cX4_addScene 172 = .ok (.iconst 1, 1) := by decide +kernel
theorem dX4_addScene_173 : decode cX4_addScene 173 = .ok (.iadd, 1) := by decide +kernel
theorem dX4_addScene_174 : decode cX4_addScene 174 = .ok (.putfield 43, 3) := by decide +kernel
theorem dX4_addScene_177 : decode cX4_addScene 177 = .ok (.aload_n 0, 1) := by decide +kernel
theorem dX4_addScene_178 : decode cX4_addScene 178 = .ok (.getfield 43, 3) := by decide +kernel
theorem dX4_addScene_181 : decode cX4_addScene 181 = .ok (.iconst 1, 1) := by decide +kernel
theorem dX4_addScene_182 : decode cX4_addScene 182 = .ok (.isub, 1) := by decide +kernel
theorem dX4_addScene_183 : decode cX4_addScene 183 = .ok (.ireturn, 1) := by decide +kernel
theorem dX4_markLine_0 : decode cX4_markLine 0 = .ok (.iconst 0, 1) := by decide +kernel
theorem dX4_markLine_1 : decode cX4_markLine 1 = .ok (.istore 5, 2) := by decide +kernel
theorem dX4_markLine_3 : decode cX4_markLine 3 = .ok (.iload 5, 2) := by decide +kernel
theorem dX4_markLine_5 : decode cX4_markLine 5 = .ok (.iconst 3, 1) := by decide +kernel
theorem dX4_markLine_6 : decode cX4_markLine 6 = .ok (.if_icmp .ge 55, 3) := by decide +kernel
theorem dX4_markLine_9 : decode cX4_markLine 9 = .ok (.iload_n 1, 1) := by decide +kernel
theorem dX4_markLine_10 : decode cX4_markLine 10 = .ok (.iload 5, 2) := by decide +kernel
theorem dX4_markLine_12 : decode cX4_markLine 12 = .ok (.iconst 3, 1) := by decide +kernel
theorem dX4_markLine_13 : decode cX4_markLine 13 = .ok (.imul, 1) := by decide +kernel
theorem dX4_markLine_14 : decode cX4_markLine 14 = .ok (.iadd, 1) := by decide +kernel
theorem dX4_markLine_15 : decode cX4_markLine 15 = .ok (.istore 6, 2) := by decide +kernel
theorem dX4_markLine_17 : decode cX4_markLine 17 = .ok (.aload_n 0, 1) := by decide +kernel
theorem dX4_markLine_18 : decode cX4_markLine 18 = .ok (.getfield 46, 3) := by decide +kernel
theorem dX4_markLine_21 : decode cX4_markLine 21 = .ok (.iload 6, 2) := by decide +kernel
theorem dX4_markLine_23 : decode cX4_markLine 23 = .ok (.iload 5, 2) := by decide +kernel
theorem dX4_markLine_25 : decode cX4_markLine 25 = .ok (.iload_n 2, 1) := by decide +kernel
theorem dX4_markLine_26 : decode cX4_markLine 26 = .ok (.if_icmp .ne 15, 3) := by decide +kernel
theorem dX4_markLine_29 : decode cX4_markLine 29 = .ok (.aload_n 0, 1) := by decide +kernel
theorem dX4_markLine_30 : decode cX4_markLine 30 = .ok (.getfield 46, 3) := by decide +kernel
theorem dX4_markLine_33 : decode cX4_markLine 33 = .ok (.iload 6, 2) := by decide +kernel
theorem dX4_markLine_35 : decode cX4_markLine 35 = .ok (.laload, 1) := by decide +kernel
theorem dX4_markLine_36 : decode cX4_markLine 36 = .ok (.lload_n 3, 1) := by decide +kernel
theorem dX4_markLine_37 : decode cX4_markLine 37 = .ok (.lor, 1) := by decide +kernel
theorem dX4_markLine_38 : decode cX4_markLine 38 = .ok (.goto 16, 3) := by decide +kernel
theorem dX4_markLine_41 : decode cX4_markLine 41 = .ok (.aload_n 0, 1) := by decide +kernel
theorem dX4_markLine_42 : decode cX4_markLine 42 = .ok (.getfield 46, 3) := by decide +kernel
theorem dX4_markLine_45 : decode cX4_markLine 45 = .ok (.iload 6, 2) := by decide +kernel
theorem dX4_markLine_47 : decode cX4_markLine 47 = .ok (.laload, 1) := by decide +kernel
theorem dX4_markLine_48 : decode cX4_markLine 48 = .ok (.lload_n 3, 1) := by decide +kernel
theorem dX4_markLine_49 : decode cX4_markLine 49 = .ok (.ldc2_w 99, 3) := by decide +kernel
theorem dX4_markLine_52 : decode cX4_markLine 52 = .ok (.lxor, 1) := by decide +kernel
theorem dX4_markLine_53 : decode cX4_markLine 53 = .ok (.land, 1) := by decide +kernel
theorem dX4_markLine_54 : decode cX4_markLine 54 = .ok (.lastore, 1) := by decide +kernel
theorem dX4_markLine_55 : decode cX4_markLine 55 = .ok (.iinc 5 1, 3) := by decide +kernel
theorem dX4_markLine_58 : decode cX4_markLine 58 = .ok (.goto (-55), 3) := by decide +kernel
theorem dX4_markLine_61 : decode cX4_markLine 61 = .ok (.return_, 1) := by decide +kernel
theorem dX4_wish_0 : decode cX4_wish 0 = .ok (.iload_n 1, 1) := by decide +kernel
theorem dX4_wish_1 : decode cX4_wish 1 = .ok (.iconst 3, 1) := by decide +kernel
theorem dX4_wish_2 : decode cX4_wish 2 = .ok (.imul, 1) := by decide +kernel
theorem dX4_wish_3 : decode cX4_wish 3 = .ok (.iconst 3, 1) := by decide +kernel
theorem dX4_wish_4 : decode cX4_wish 4 = .ok (.imul, 1) := by decide +kernel
theorem dX4_wish_5 : decode cX4_wish 5 = .ok (.iload_n 2, 1) := by decide +kernel
theorem dX4_wish_6 : decode cX4_wish 6 = .ok (.bipush 48, 2) := by decide +kernel
theorem dX4_wish_8 : decode cX4_wish 8 = .ok (.idiv, 1) := by decide +kernel
theorem dX4_wish_9 : decode cX4_wish 9 = .ok (.iadd, 1) := by decide +kernel
theorem dX4_wish_10 : decode cX4_wish 10 = .ok (.istore_n 3, 1) := by decide +kernel
theorem dX4_wish_11 : decode cX4_wish 11 = .ok (.iconst 0, 1) := by decide +kernel
theorem dX4_wish_12 : decode cX4_wish 12 = .ok (.istore 4, 2) := by decide +kernel
theorem dX4_wish_14 : decode cX4_wish 14 = .ok (.iload 4, 2) := by decide +kernel
theorem dX4_wish_16 : decode cX4_wish 16 = .ok (.iconst 3, 1) := by decide +kernel
theorem dX4_wish_17 : decode cX4_wish 17 = .ok (.if_icmp .ge 35, 3) := by decide +kernel
theorem dX4_wish_20 : decode cX4_wish 20 = .ok (.aload_n 0, 1) := by decide +kernel
theorem dX4_wish_21 : decode cX4_wish 21 = .ok (.getfield 46, 3) := by decide +kernel
theorem dX4_wish_24 : decode cX4_wish 24 = .ok (.iload_n 3, 1) := by decide +kernel
theorem dX4_wish_25 : decode cX4_wish 25 = .ok (.iload 4, 2) := by decide +kernel
theorem dX4_wish_27 : decode cX4_wish 27 = .ok (.iconst 3, 1) := by decide +kernel
theorem dX4_wish_28 : decode cX4_wish 28 = .ok (.imul, 1) := by decide +kernel
theorem dX4_wish_29 : decode cX4_wish 29 = .ok (.iadd, 1) := by decide +kernel
theorem dX4_wish_30 : decode cX4_wish 30 = .ok (.laload, 1) := by decide +kernel
theorem dX4_wish_31 : decode cX4_wish 31 = .ok (.iload_n 2, 1) := by decide +kernel
theorem dX4_wish_32 : decode cX4_wish 32 = .ok (.bipush 48, 2) := by decide +kernel
theorem dX4_wish_34 : decode cX4_wish 34 = .ok (.irem, 1) := by decide +kernel
theorem dX4_wish_35 : decode cX4_wish 35 = .ok (.lshr, 1) := by decide +kernel
theorem dX4_wish_36 : decode cX4_wish 36 = .ok (.lconst 1, 1) := by decide +kernel
theorem dX4_wish_37 : decode cX4_wish 37 = .ok (.land, 1) := by decide +kernel
theorem dX4_wish_38 : decode cX4_wish 38 = .ok (.lconst 0, 1) := by decide +kernel
theorem dX4_wish_39 : decode cX4_wish 39 = .ok (.lcmp, 1) := by decide +kernel
theorem dX4_wish_40 : decode cX4_wish 40 = .ok (.ifCond .eq 6, 3) := by decide +kernel
theorem dX4_wish_43 : decode cX4_wish 43 = .ok (.iload 4, 2) := by decide +kernel
theorem dX4_wish_45 : decode cX4_wish 45 = .ok (.ireturn, 1) := by decide +kernel
theorem dX4_wish_46 : decode cX4_wish 46 = .ok (.iinc 4 1, 3) := by decide +kernel
theorem dX4_wish_49 : decode cX4_wish 49 = .ok (.goto (-35), 3) := by decide +kernel
theorem dX4_wish_52 : decode cX4_wish 52 = .ok (.iconst 3, 1) := by decide +kernel
theorem dX4_wish_53 : decode cX4_wish 53 = .ok (.ireturn, 1) := by decide +kernel
theorem dX4_addFrame_0 : decode cX4_addFrame 0 = .ok (.aload_n 0, 1) := by decide +kernel
theorem dX4_addFrame_1 : decode cX4_addFrame 1 = .ok (.getfield 40, 3) := by decide +kernel
theorem dX4_addFrame_4 : decode cX4_addFrame 4 = .ok (.iconst 0, 1) := by decide +kernel
theorem dX4_addFrame_5 : decode cX4_addFrame 5 = .ok (.aload_n 0, 1) := by decide +kernel
theorem dX4_addFrame_6 : decode cX4_addFrame 6 = .ok (.getfield 60, 3) := by decide +kernel
theorem dX4_addFrame_9 : decode cX4_addFrame 9 = .ok (.aload_n 0, 1) := by decide +kernel
theorem dX4_addFrame_10 : decode cX4_addFrame 10 = .ok (.getfield 57, 3) := by decide +kernel
theorem dX4_addFrame_13 : decode cX4_addFrame 13 = .ok (.iconst 4, 1) := by decide +kernel
theorem dX4_addFrame_14 : decode cX4_addFrame 14 = .ok (.imul, 1) := by decide +kernel
theorem dX4_addFrame_15 : decode cX4_addFrame 15 = .ok (.iconst 4, 1) := by decide +kernel
theorem dX4_addFrame_16 : decode cX4_addFrame 16 = .ok (.invokestatic 75, 3) := by decide +kernel
theorem dX4_addFrame_19 : decode cX4_addFrame 19 = .ok (.aload_n 0, 1) := by decide +kernel
theorem dX4_addFrame_20 : decode cX4_addFrame 20 = .ok (.dup, 1) := by decide +kernel
theorem dX4_addFrame_21 : decode cX4_addFrame 21 = .ok (.getfield 57, 3) := by decide +kernel
theorem dX4_addFrame_24 : decode cX4_addFrame 24 = .ok (.iconst 1, 1) := by decide +kernel
theorem dX4_addFrame_25 : decode cX4_addFrame 25 = .ok (.iadd, 1) := by decide +kernel
theorem dX4_addFrame_26 : decode cX4_addFrame 26 = .ok (.putfield 57, 3) := by decide +kernel
theorem dX4_addFrame_29 : decode cX4_addFrame 29 = .ok (.aload_n 0, 1) := by decide +kernel
theorem dX4_addFrame_30 : decode cX4_addFrame 30 = .ok (.getfield 57, 3) := by decide +kernel
theorem dX4_addFrame_33 : decode cX4_addFrame 33 = .ok (.iconst 1, 1) := by decide +kernel
theorem dX4_addFrame_34 : decode cX4_addFrame 34 = .ok (.isub, 1) := by decide +kernel
theorem dX4_addFrame_35 : decode cX4_addFrame 35 = .ok (.ireturn, 1) := by decide +kernel
theorem dX4_addSeen_0 : decode cX4_addSeen 0 = .ok (.aload_n 0, 1) := by decide +kernel
theorem dX4_addSeen_1 : decode cX4_addSeen 1 = .ok (.getfield 66, 3) := by decide +kernel
theorem dX4_addSeen_4 : decode cX4_addSeen 4 = .ok (.aload_n 0, 1) := by decide +kernel
theorem dX4_addSeen_5 : decode cX4_addSeen 5 = .ok (.getfield 63, 3) := by decide +kernel
theorem dX4_addSeen_8 : decode cX4_addSeen 8 = .ok (.iconst 3, 1) := by decide +kernel
theorem dX4_addSeen_9 : decode cX4_addSeen 9 = .ok (.imul, 1) := by decide +kernel
theorem dX4_addSeen_10 : decode cX4_addSeen 10 = .ok (.iload_n 1, 1) := by decide +kernel
theorem dX4_addSeen_11 : decode cX4_addSeen 11 = .ok (.iastore, 1) := by decide +kernel
theorem dX4_addSeen_12 : decode cX4_addSeen 12 = .ok (.aload_n 0, 1) := by decide +kernel
theorem dX4_addSeen_13 : decode cX4_addSeen 13 = .ok (.getfield 66, 3) := by decide +kernel
theorem dX4_addSeen_16 : decode cX4_addSeen 16 = .ok (.aload_n 0, 1) := by decide +kernel
theorem dX4_addSeen_17 : decode cX4_addSeen 17 = .ok (.getfield 63, 3) := by decide +kernel
theorem dX4_addSeen_20 : decode cX4_addSeen 20 = .ok (.iconst 3, 1) := by decide +kernel
theorem dX4_addSeen_21 : decode cX4_addSeen 21 = .ok (.imul, 1) := by decide +kernel
theorem dX4_addSeen_22 : decode cX4_addSeen 22 = .ok (.iconst 1, 1) := by decide +kernel
theorem dX4_addSeen_23 : decode cX4_addSeen 23 = .ok (.iadd, 1) := by decide +kernel
theorem dX4_addSeen_24 : decode cX4_addSeen 24 = .ok (.iload_n 2, 1) := by decide +kernel
theorem dX4_addSeen_25 : decode cX4_addSeen 25 = .ok (.iastore, 1) := by decide +kernel
theorem dX4_addSeen_26 : decode cX4_addSeen 26 = .ok (.aload_n 0, 1) := by decide +kernel
theorem dX4_addSeen_27 : decode cX4_addSeen 27 = .ok (.getfield 66, 3) := by decide +kernel
theorem dX4_addSeen_30 : decode cX4_addSeen 30 = .ok (.aload_n 0, 1) := by decide +kernel
theorem dX4_addSeen_31 : decode cX4_addSeen 31 = .ok (.getfield 63, 3) := by decide +kernel
theorem dX4_addSeen_34 : decode cX4_addSeen 34 = .ok (.iconst 3, 1) := by decide +kernel
theorem dX4_addSeen_35 : decode cX4_addSeen 35 = .ok (.imul, 1) := by decide +kernel
theorem dX4_addSeen_36 : decode cX4_addSeen 36 = .ok (.iconst 2, 1) := by decide +kernel
theorem dX4_addSeen_37 : decode cX4_addSeen 37 = .ok (.iadd, 1) := by decide +kernel
theorem dX4_addSeen_38 : decode cX4_addSeen 38 = .ok (.iload_n 3, 1) := by decide +kernel
theorem dX4_addSeen_39 : decode cX4_addSeen 39 = .ok (.iastore, 1) := by decide +kernel
theorem dX4_addSeen_40 : decode cX4_addSeen 40 = .ok (.aload_n 0, 1) := by decide +kernel
theorem dX4_addSeen_41 : decode cX4_addSeen 41 = .ok (.dup, 1) := by decide +kernel
theorem dX4_addSeen_42 : decode cX4_addSeen 42 = .ok (.getfield 63, 3) := by decide +kernel
theorem dX4_addSeen_45 : decode cX4_addSeen 45 = .ok (.iconst 1, 1) := by decide +kernel
theorem dX4_addSeen_46 : decode cX4_addSeen 46 = .ok (.iadd, 1) := by decide +kernel
theorem dX4_addSeen_47 : decode cX4_addSeen 47 = .ok (.putfield 63, 3) := by decide +kernel
theorem dX4_addSeen_50 : decode cX4_addSeen 50 = .ok (.aload_n 0, 1) := by decide +kernel
theorem dX4_addSeen_51 : decode cX4_addSeen 51 = .ok (.getfield 63, 3) := by decide +kernel
theorem dX4_addSeen_54 : decode cX4_addSeen 54 = .ok (.ireturn, 1) := by decide +kernel
theorem dX4_keepsOff_0 : decode cX4_keepsOff 0 = .ok (.aload_n 0, 1) := by decide +kernel
theorem dX4_keepsOff_1 : decode cX4_keepsOff 1 = .ok (.getfield 22, 3) := by decide +kernel
theorem dX4_keepsOff_4 : decode cX4_keepsOff 4 = .ok (.iload_n 1, 1) := by decide +kernel
theorem dX4_keepsOff_5 : decode cX4_keepsOff 5 = .ok (.iaload, 1) := by decide +kernel
theorem dX4_keepsOff_6 : decode cX4_keepsOff 6 = .ok (.iload_n 2, 1) := by decide +kernel
theorem dX4_keepsOff_7 : decode cX4_keepsOff 7 = .ok (.ishr, 1) := by decide +kernel
theorem dX4_keepsOff_8 : decode cX4_keepsOff 8 = .ok (.iconst 1, 1) := by decide +kernel
theorem dX4_keepsOff_9 : decode cX4_keepsOff 9 = .ok (.iand, 1) := by decide +kernel
theorem dX4_keepsOff_10 : decode cX4_keepsOff 10 = .ok (.ifCond .eq 7, 3) := by decide +kernel
theorem dX4_keepsOff_13 : decode cX4_keepsOff 13 = .ok (.iconst 1, 1) := by decide +kernel
theorem dX4_keepsOff_14 : decode cX4_keepsOff 14 = .ok (.goto 4, 3) := by decide +kernel
theorem dX4_keepsOff_17 : decode cX4_keepsOff 17 = .ok (.iconst 0, 1) := by decide +kernel
theorem dX4_keepsOff_18 : decode cX4_keepsOff 18 = .ok (.ireturn, 1) := by decide +kernel
theorem dX4_darkCells_0 : decode cX4_darkCells 0 = .ok (.iconst 0, 1) := by decide +kernel
theorem dX4_darkCells_1 : decode cX4_darkCells 1 = .ok (.istore_n 1, 1) := by decide +kernel
theorem dX4_darkCells_2 : decode cX4_darkCells 2 = .ok (.iconst 0, 1) := by decide +kernel
theorem dX4_darkCells_3 : decode cX4_darkCells 3 = .ok (.istore_n 2, 1) := by decide +kernel
theorem dX4_darkCells_4 : decode cX4_darkCells 4 = .ok (.iload_n 2, 1) := by decide +kernel
theorem dX4_darkCells_5 : decode cX4_darkCells 5 = .ok (.aload_n 0, 1) := by decide +kernel
theorem dX4_darkCells_6 : decode cX4_darkCells 6 = .ok (.getfield 9, 3) := by decide +kernel
theorem dX4_darkCells_9 : decode cX4_darkCells 9 = .ok (.if_icmp .ge 21, 3) := by decide +kernel
theorem dX4_darkCells_12 : decode cX4_darkCells 12 = .ok (.iload_n 1, 1) := by decide +kernel
theorem dX4_darkCells_13 : decode cX4_darkCells 13 = .ok (.aload_n 0, 1) := by decide +kernel
theorem dX4_darkCells_14 : decode cX4_darkCells 14 = .ok (.getfield 15, 3) := by decide +kernel
theorem dX4_darkCells_17 : decode cX4_darkCells 17 = .ok (.iload_n 2, 1) := by decide +kernel
theorem dX4_darkCells_18 : decode cX4_darkCells 18 = .ok (.iaload, 1) := by decide +kernel
theorem dX4_darkCells_19 : decode cX4_darkCells 19 = .ok (.invokestatic 101, 3) := by decide +kernel
theorem dX4_darkCells_22 : decode cX4_darkCells 22 = .ok (.iadd, 1) := by decide +kernel
theorem dX4_darkCells_23 : decode cX4_darkCells 23 = .ok (.istore_n 1, 1) := by decide +kernel
theorem dX4_darkCells_24 : decode cX4_darkCells 24 = .ok (.iinc 2 1, 3) := by decide +kernel
theorem dX4_darkCells_27 : decode cX4_darkCells 27 = .ok (.goto (-23), 3) := by decide +kernel
theorem dX4_darkCells_30 : decode cX4_darkCells 30 = .ok (.iload_n 1, 1) := by decide +kernel
theorem dX4_darkCells_31 : decode cX4_darkCells 31 = .ok (.ireturn, 1) := by decide +kernel
theorem dX4_playFrames_0 : decode cX4_playFrames 0 = .ok (.iconst 0, 1) := by decide +kernel
theorem dX4_playFrames_1 : decode cX4_playFrames 1 = .ok (.istore_n 1, 1) := by decide +kernel
theorem dX4_playFrames_2 : decode cX4_playFrames 2 = .ok (.iconst 0, 1) := by decide +kernel
theorem dX4_playFrames_3 : decode cX4_playFrames 3 = .ok (.istore_n 2, 1) := by decide +kernel
theorem dX4_playFrames_4 : decode cX4_playFrames 4 = .ok (.iload_n 2, 1) := by decide +kernel
theorem dX4_playFrames_5 : decode cX4_playFrames 5 = .ok (.aload_n 0, 1) := by decide +kernel
theorem dX4_playFrames_6 : decode cX4_playFrames 6 = .ok (.getfield 57, 3) := by decide +kernel
theorem dX4_playFrames_9 : decode cX4_playFrames 9 = .ok (.iconst 4, 1) := by decide +kernel
theorem dX4_playFrames_10 : decode cX4_playFrames 10 = .ok (.imul, 1) := by decide +kernel
theorem dX4_playFrames_11 : decode cX4_playFrames 11 = .ok (.if_icmp .ge 32, 3) := by decide +kernel
theorem dX4_playFrames_14 : decode cX4_playFrames 14 = .ok (.aload_n 0, 1) := by decide +kernel
theorem dX4_playFrames_15 : decode cX4_playFrames 15 = .ok (.getfield 60, 3) := by decide +kernel
theorem dX4_playFrames_18 : decode cX4_playFrames 18 = .ok (.iload_n 2, 1) := by decide +kernel
theorem dX4_playFrames_19 : decode cX4_playFrames 19 = .ok (.iaload, 1) := by decide +kernel
theorem dX4_playFrames_20 : decode cX4_playFrames 20 = .ok (.iconst (-1), 1) := by decide +kernel
theorem dX4_playFrames_21 : decode cX4_playFrames 21 = .ok (.if_icmp .eq 16, 3) := by decide +kernel
theorem dX4_playFrames_24 : decode cX4_playFrames 24 = .ok (.iload_n 1, 1) := by decide +kernel
theorem dX4_playFrames_25 : decode cX4_playFrames 25 = .ok (.aload_n 0, 1) := by decide +kernel
theorem dX4_playFrames_26 : decode cX4_playFrames 26 = .ok (.aload_n 0, 1) := by decide +kernel
theorem dX4_playFrames_27 : decode cX4_playFrames 27 = .ok (.getfield 60, 3) := by decide +kernel
theorem dX4_playFrames_30 : decode cX4_playFrames 30 = .ok (.iload_n 2, 1) := by decide +kernel
theorem dX4_playFrames_31 : decode cX4_playFrames 31 = .ok (.iaload, 1) := by decide +kernel
theorem dX4_playFrames_32 : decode cX4_playFrames 32 = .ok (.invokevirtual 107, 3) := by decide +kernel
theorem dX4_playFrames_35 : decode cX4_playFrames 35 = .ok (.iadd, 1) := by decide +kernel
theorem dX4_playFrames_36 : decode cX4_playFrames 36 = .ok (.istore_n 1, 1) := by decide +kernel
theorem dX4_playFrames_37 : decode cX4_playFrames 37 = .ok (.iinc 2 1, 3) := by decide +kernel
theorem dX4_playFrames_40 : decode cX4_playFrames 40 = .ok (.goto (-36), 3) := by decide +kernel
theorem dX4_playFrames_43 : decode cX4_playFrames 43 = .ok (.iload_n 1, 1) := by decide +kernel
theorem dX4_playFrames_44 : decode cX4_playFrames 44 = .ok (.ireturn, 1) := by decide +kernel
theorem dX4_useSheet_0 : decode cX4_useSheet 0 = .ok (.aload_n 0, 1) := by decide +kernel
theorem dX4_useSheet_1 : decode cX4_useSheet 1 = .ok (.getfield 25, 3) := by decide +kernel
theorem dX4_useSheet_4 : decode cX4_useSheet 4 = .ok (.iload_n 1, 1) := by decide +kernel
theorem dX4_useSheet_5 : decode cX4_useSheet 5 = .ok (.dup2, 1) := by decide +kernel
theorem dX4_useSheet_6 : decode cX4_useSheet 6 = .ok (.iaload, 1) := by decide +kernel
theorem dX4_useSheet_7 : decode cX4_useSheet 7 = .ok (.iconst 1, 1) := by decide +kernel
theorem dX4_useSheet_8 : decode cX4_useSheet 8 = .ok (.iadd, 1) := by decide +kernel
theorem dX4_useSheet_9 : decode cX4_useSheet 9 = .ok (.iastore, 1) := by decide +kernel
theorem dX4_useSheet_10 : decode cX4_useSheet 10 = .ok (.aload_n 0, 1) := by decide +kernel
theorem dX4_useSheet_11 : decode cX4_useSheet 11 = .ok (.getfield 25, 3) := by decide +kernel
theorem dX4_useSheet_14 : decode cX4_useSheet 14 = .ok (.iload_n 1, 1) := by decide +kernel
theorem dX4_useSheet_15 : decode cX4_useSheet 15 = .ok (.iaload, 1) := by decide +kernel
theorem dX4_useSheet_16 : decode cX4_useSheet 16 = .ok (.bipush 10, 2) := by decide +kernel
theorem dX4_useSheet_18 : decode cX4_useSheet 18 = .ok (.irem, 1) := by decide +kernel
theorem dX4_useSheet_19 : decode cX4_useSheet 19 = .ok (.ifCond .eq 5, 3) := by decide +kernel
theorem dX4_useSheet_22 : decode cX4_useSheet 22 = .ok (.iconst 0, 1) := by decide +kernel
theorem dX4_useSheet_23 : decode cX4_useSheet 23 = .ok (.ireturn, 1) := by decide +kernel
theorem dX4_useSheet_24 : decode cX4_useSheet 24 = .ok (.aload_n 0, 1) := by decide +kernel
theorem dX4_useSheet_25 : decode cX4_useSheet 25 = .ok (.getfield 15, 3) := by decide +kernel
theorem dX4_useSheet_28 : decode cX4_useSheet 28 = .ok (.iload_n 1, 1) := by decide +kernel
theorem dX4_useSheet_29 : decode cX4_useSheet 29 = .ok (.iaload, 1) := by decide +kernel
theorem dX4_useSheet_30 : decode cX4_useSheet 30 = .ok (.invokestatic 110, 3) := by decide +kernel
theorem dX4_useSheet_33 : decode cX4_useSheet 33 = .ok (.istore_n 2, 1) := by decide +kernel
theorem dX4_useSheet_34 : decode cX4_useSheet 34 = .ok (.aload_n 0, 1) := by decide +kernel
theorem dX4_useSheet_35 : decode cX4_useSheet 35 = .ok (.getfield 15, 3) := by decide +kernel
theorem dX4_useSheet_38 : decode cX4_useSheet 38 = .ok (.iload_n 1, 1) := by decide +kernel
theorem dX4_useSheet_39 : decode cX4_useSheet 39 = .ok (.dup2, 1) := by decide +kernel
theorem dX4_useSheet_40 : decode cX4_useSheet 40 = .ok (.iaload, 1) := by decide +kernel
theorem dX4_useSheet_41 : decode cX4_useSheet 41 = .ok (.iload_n 2, 1) := by decide +kernel
theorem dX4_useSheet_42 : decode cX4_useSheet 42 = .ok (.iconst (-1), 1) := by decide +kernel
theorem dX4_useSheet_43 : decode cX4_useSheet 43 = .ok (.ixor, 1) := by decide +kernel
theorem dX4_useSheet_44 : decode cX4_useSheet 44 = .ok (.iand, 1) := by decide +kernel
theorem dX4_useSheet_45 : decode cX4_useSheet 45 = .ok (.iastore, 1) := by decide +kernel
theorem dX4_useSheet_46 : decode cX4_useSheet 46 = .ok (.iload_n 2, 1) := by decide +kernel
theorem dX4_useSheet_47 : decode cX4_useSheet 47 = .ok (.ifCond .ne 7, 3) := by decide +kernel
theorem dX4_useSheet_50 : decode cX4_useSheet 50 = .ok (.iconst 0, 1) := by decide +kernel
theorem dX4_useSheet_51 : decode cX4_useSheet 51 = .ok (.goto 4, 3) := by decide +kernel
theorem dX4_useSheet_54 : decode cX4_useSheet 54 = .ok (.iconst 1, 1) := by decide +kernel
theorem dX4_useSheet_55 : decode cX4_useSheet 55 = .ok (.ireturn, 1) := by decide +kernel
theorem dX4_frameMoves_0 : decode cX4_frameMoves 0 = .ok (.aload_n 0, 1) := by decide +kernel
theorem dX4_frameMoves_1 : decode cX4_frameMoves 1 = .ok (.getfield 60, 3) := by decide +kernel
theorem dX4_frameMoves_4 : decode cX4_frameMoves 4 = .ok (.iload_n 1, 1) := by decide +kernel
theorem dX4_frameMoves_5 : decode cX4_frameMoves 5 = .ok (.iconst 4, 1) := by decide +kernel
theorem dX4_frameMoves_6 : decode cX4_frameMoves 6 = .ok (.imul, 1) := by decide +kernel
theorem dX4_frameMoves_7 : decode cX4_frameMoves 7 = .ok (.aload_n 0, 1) := by decide +kernel
theorem dX4_frameMoves_8 : decode cX4_frameMoves 8 = .ok (.getfield 60, 3) := by decide +kernel
theorem dX4_frameMoves_11 : decode cX4_frameMoves 11 = .ok (.iload_n 2, 1) := by decide +kernel
theorem dX4_frameMoves_12 : decode cX4_frameMoves 12 = .ok (.iconst 4, 1) := by decide +kernel
theorem dX4_frameMoves_13 : decode cX4_frameMoves 13 = .ok (.imul, 1) := by decide +kernel
theorem dX4_frameMoves_14 : decode cX4_frameMoves 14 = .ok (.invokestatic 115, 3) := by decide +kernel
theorem dX4_frameMoves_17 : decode cX4_frameMoves 17 = .ok (.ireturn, 1) := by decide +kernel
theorem dX4_movesBetween_0 : decode cX4_movesBetween 0 = .ok (.iconst 0, 1) := by decide +kernel
theorem dX4_movesBetween_1 : decode cX4_movesBetween 1 = .ok (.istore 4, 2) := by decide +kernel
theorem dX4_movesBetween_3 : decode cX4_movesBetween 3 = .ok (.iconst 0, 1) := by decide +kernel
theorem dX4_movesBetween_4 : decode cX4_movesBetween 4 = .ok (.istore 5, 2) := by decide +kernel
theorem dX4_movesBetween_6 : decode cX4_movesBetween 6 = .ok (.iload 5, 2) := by decide +kernel
theorem dX4_movesBetween_8 : decode cX4_movesBetween 8 = .ok (.bipush 6, 2) := by decide +kernel
theorem dX4_movesBetween_10 : decode cX4_movesBetween 10 = .ok (.if_icmp .ge 29, 3) := by decide +kernel
theorem dX4_movesBetween_13 : decode cX4_movesBetween 13 = .ok (.aload_n 0, 1) := by decide +kernel
theorem dX4_movesBetween_14 : decode cX4_movesBetween 14 = .ok (.iload_n 1, 1) := by decide +kernel
theorem dX4_movesBetween_15 : decode cX4_movesBetween 15 = .ok (.iload 5, 2) := by decide +kernel
theorem dX4_movesBetween_17 : decode cX4_movesBetween 17 = .ok (.invokestatic 119, 3) := by decide +kernel
theorem dX4_movesBetween_20 : decode cX4_movesBetween 20 = .ok (.aload_n 2, 1) := by decide +kernel
theorem dX4_movesBetween_21 : decode cX4_movesBetween 21 = .ok (.iload_n 3, 1) := by decide +kernel
theorem dX4_movesBetween_22 : decode cX4_movesBetween 22 = .ok (.iload 5, 2) := by decide +kernel
theorem dX4_movesBetween_24 : decode cX4_movesBetween 24 = .ok (.invokestatic 119, 3) := by decide +kernel
theorem dX4_movesBetween_27 : decode cX4_movesBetween 27 = .ok (.if_icmp .eq 6, 3) := by decide +kernel
theorem dX4_movesBetween_30 : decode cX4_movesBetween 30 = .ok (.iinc 4 2, 3) := by decide +kernel
theorem dX4_movesBetween_33 : decode cX4_movesBetween 33 = .ok (.iinc 5 1, 3) := by decide +kernel
theorem dX4_movesBetween_36 : decode cX4_movesBetween 36 = .ok (.goto (-30), 3) := by decide +kernel
theorem dX4_movesBetween_39 : decode cX4_movesBetween 39 = .ok (.iload 4, 2) := by decide +kernel
theorem dX4_movesBetween_41 : decode cX4_movesBetween 41 = .ok (.ireturn, 1) := by decide +kernel
theorem dX4_slotOf_0 : decode cX4_slotOf 0 = .ok (.iconst 0, 1) := by decide +kernel
theorem dX4_slotOf_1 : decode cX4_slotOf 1 = .ok (.istore_n 3, 1) := by decide +kernel
theorem dX4_slotOf_2 : decode cX4_slotOf 2 = .ok (.iload_n 3, 1) := by decide +kernel
theorem dX4_slotOf_3 : decode cX4_slotOf 3 = .ok (.iconst 4, 1) := by decide +kernel
theorem dX4_slotOf_4 : decode cX4_slotOf 4 = .ok (.if_icmp .ge 20, 3) := by decide +kernel
theorem dX4_slotOf_7 : decode cX4_slotOf 7 = .ok (.aload_n 0, 1) := by decide +kernel
theorem dX4_slotOf_8 : decode cX4_slotOf 8 = .ok (.iload_n 1, 1) := by decide +kernel
theorem dX4_slotOf_9 : decode cX4_slotOf 9 = .ok (.iload_n 3, 1) := by decide +kernel
theorem dX4_slotOf_10 : decode cX4_slotOf 10 = .ok (.iadd, 1) := by decide +kernel
theorem dX4_slotOf_11 : decode cX4_slotOf 11 = .ok (.iaload, 1) := by decide +kernel
theorem dX4_slotOf_12 : decode cX4_slotOf 12 = .ok (.iload_n 2, 1) := by decide +kernel
theorem dX4_slotOf_13 : decode cX4_slotOf 13 = .ok (.if_icmp .ne 5, 3) := by decide +kernel
theorem dX4_slotOf_16 : decode cX4_slotOf 16 = .ok (.iload_n 3, 1) := by decide +kernel
theorem dX4_slotOf_17 : decode cX4_slotOf 17 = .ok (.ireturn, 1) := by decide +kernel
theorem dX4_slotOf_18 : decode cX4_slotOf 18 = .ok (.iinc 3 1, 3) := by decide +kernel
theorem dX4_slotOf_21 : decode cX4_slotOf 21 = .ok (.goto (-19), 3) := by decide +kernel
theorem dX4_slotOf_24 : decode cX4_slotOf 24 = .ok (.iconst (-1), 1) := by decide +kernel
theorem dX4_slotOf_25 : decode cX4_slotOf 25 = .ok (.ireturn, 1) := by decide +kernel
theorem dX4_sheetsIn_0 : decode cX4_sheetsIn 0 = .ok (.iconst 0, 1) := by decide +kernel
theorem dX4_sheetsIn_1 : decode cX4_sheetsIn 1 = .ok (.istore_n 1, 1) := by decide +kernel
theorem dX4_sheetsIn_2 : decode cX4_sheetsIn 2 = .ok (.iconst 0, 1) := by decide +kernel
theorem dX4_sheetsIn_3 : decode cX4_sheetsIn 3 = .ok (.istore_n 2, 1) := by decide +kernel
theorem dX4_sheetsIn_4 : decode cX4_sheetsIn 4 = .ok (.iload_n 2, 1) := by decide +kernel
theorem dX4_sheetsIn_5 : decode cX4_sheetsIn 5 = .ok (.iconst 4, 1) := by decide +kernel
theorem dX4_sheetsIn_6 : decode cX4_sheetsIn 6 = .ok (.if_icmp .ge 19, 3) := by decide +kernel
theorem dX4_sheetsIn_9 : decode cX4_sheetsIn 9 = .ok (.aload_n 0, 1) := by decide +kernel
theorem dX4_sheetsIn_10 : decode cX4_sheetsIn 10 = .ok (.iload_n 2, 1) := by decide +kernel
theorem dX4_sheetsIn_11 : decode cX4_sheetsIn 11 = .ok (.iaload, 1) := by decide +kernel
theorem dX4_sheetsIn_12 : decode cX4_sheetsIn 12 = .ok (.iconst (-1), 1) := by decide +kernel
theorem dX4_sheetsIn_13 : decode cX4_sheetsIn 13 = .ok (.if_icmp .eq 6, 3) := by decide +kernel
theorem dX4_sheetsIn_16 : decode cX4_sheetsIn 16 = .ok (.iinc 1 1, 3) := by decide +kernel
theorem dX4_sheetsIn_19 : decode cX4_sheetsIn 19 = .ok (.iinc 2 1, 3) := by decide +kernel
theorem dX4_sheetsIn_22 : decode cX4_sheetsIn 22 = .ok (.goto (-18), 3) := by decide +kernel
theorem dX4_sheetsIn_25 : decode cX4_sheetsIn 25 = .ok (.iload_n 1, 1) := by decide +kernel
theorem dX4_sheetsIn_26 : decode cX4_sheetsIn 26 = .ok (.ireturn, 1) := by decide +kernel
theorem dX4_set_0 : decode cX4_set 0 = .ok (.iconst 0, 1) := by decide +kernel
theorem dX4_set_1 : decode cX4_set 1 = .ok (.istore_n 3, 1) := by decide +kernel
theorem dX4_set_2 : decode cX4_set 2 = .ok (.iload_n 3, 1) := by decide +kernel
theorem dX4_set_3 : decode cX4_set 3 = .ok (.iconst 4, 1) := by decide +kernel
theorem dX4_set_4 : decode cX4_set 4 = .ok (.if_icmp .ge 20, 3) := by decide +kernel
theorem dX4_set_7 : decode cX4_set 7 = .ok (.aload_n 0, 1) := by decide +kernel
theorem dX4_set_8 : decode cX4_set 8 = .ok (.iload_n 3, 1) := by decide +kernel
theorem dX4_set_9 : decode cX4_set 9 = .ok (.iaload, 1) := by decide +kernel
theorem dX4_set_10 : decode cX4_set 10 = .ok (.iload_n 2, 1) := by decide +kernel
theorem dX4_set_11 : decode cX4_set 11 = .ok (.if_icmp .ne 7, 3) := by decide +kernel
theorem dX4_set_14 : decode cX4_set 14 = .ok (.aload_n 0, 1) := by decide +kernel
theorem dX4_set_15 : decode cX4_set 15 = .ok (.iload_n 3, 1) := by decide +kernel
theorem dX4_set_16 : decode cX4_set 16 = .ok (.iconst (-1), 1) := by decide +kernel
theorem dX4_set_17 : decode cX4_set 17 = .ok (.iastore, 1) := by decide +kernel
theorem dX4_set_18 : decode cX4_set 18 = .ok (.iinc 3 1, 3) := by decide +kernel
theorem dX4_set_21 : decode cX4_set 21 = .ok (.goto (-19), 3) := by decide +kernel
theorem dX4_set_24 : decode cX4_set 24 = .ok (.aload_n 0, 1) := by decide +kernel
theorem dX4_set_25 : decode cX4_set 25 = .ok (.iload_n 1, 1) := by decide +kernel
theorem dX4_set_26 : decode cX4_set 26 = .ok (.iload_n 2, 1) := by decide +kernel
theorem dX4_set_27 : decode cX4_set 27 = .ok (.iastore, 1) := by decide +kernel
theorem dX4_set_28 : decode cX4_set 28 = .ok (.return_, 1) := by decide +kernel
theorem dX5_init_0 : decode cX5_init 0 = .ok (.aload_n 0, 1) := by decide +kernel
theorem dX5_init_1 : decode cX5_init 1 = .ok (.invokespecial 3, 3) := by decide +kernel
theorem dX5_init_4 : decode cX5_init 4 = .ok (.aload_n 0, 1) := by decide +kernel
theorem dX5_init_5 : decode cX5_init 5 = .ok (.sipush 400, 3) := by decide +kernel
theorem dX5_init_8 : decode cX5_init 8 = .ok (.newarray .int, 2) := by decide +kernel
theorem dX5_init_10 : decode cX5_init 10 = .ok (.putfield 11, 3) := by decide +kernel
theorem dX5_init_13 : decode cX5_init 13 = .ok (.aload_n 0, 1) := by decide +kernel
theorem dX5_init_14 : decode cX5_init 14 = .ok (.iconst 0, 1) := by decide +kernel
theorem dX5_init_15 : decode cX5_init 15 = .ok (.putfield 15, 3) := by decide +kernel
theorem dX5_init_18 : decode cX5_init 18 = .ok (.aload_n 0, 1) := by decide +kernel
theorem dX5_init_19 : decode cX5_init 19 = .ok (.iconst (-1), 1) := by decide +kernel
theorem dX5_init_20 : decode cX5_init 20 = .ok (.putfield 19, 3) := by decide +kernel
theorem dX5_init_23 : decode cX5_init 23 = .ok (.aload_n 0, 1) := by decide +kernel
theorem dX5_init_24 : decode cX5_init 24 = .ok (.bipush 100, 2) := by decide +kernel
theorem dX5_init_26 : decode cX5_init 26 = .ok (.newarray .int, 2) := by decide +kernel
theorem dX5_init_28 : decode cX5_init 28 = .ok (.putfield 22, 3) := by decide +kernel
theorem dX5_init_31 : decode cX5_init 31 = .ok (.aload_n 0, 1) := by decide +kernel
theorem dX5_init_32 : decode cX5_init 32 = .ok (.iconst 0, 1) := by decide +kernel
theorem dX5_init_33 : decode cX5_init 33 = .ok (.putfield 25, 3) := by decide +kernel
theorem dX5_init_36 : decode cX5_init 36 = .ok (.return_, 1) := by decide +kernel
theorem dX5_add_0 : decode cX5_add 0 = .ok (.bipush 24, 2) := by decide +kernel
theorem dX5_add_2 : decode cX5_add 2 = .ok (.istore_n 2, 1) := by decide +kernel
theorem dX5_add_3 : decode cX5_add 3 = .ok (.iload_n 2, 1) := by decide +kernel
theorem dX5_add_4 : decode cX5_add 4 = .ok (.ifCond .lt 45, 3) := by decide +kernel
theorem dX5_add_7 : decode cX5_add 7 = .ok (.aload_n 0, 1) := by decide +kernel
theorem dX5_add_8 : decode cX5_add 8 = .ok (.getfield 15, 3) := by decide +kernel
theorem dX5_add_11 : decode cX5_add 11 = .ok (.sipush 400, 3) := by decide +kernel
theorem dX5_add_14 : decode cX5_add 14 = .ok (.if_icmp .ge 35, 3) := by decide +kernel
theorem dX5_add_17 : decode cX5_add 17 = .ok (.aload_n 0, 1) := by decide +kernel
theorem dX5_add_18 : decode cX5_add 18 = .ok (.getfield 11, 3) := by decide +kernel
theorem dX5_add_21 : decode cX5_add 21 = .ok (.aload_n 0, 1) := by decide +kernel
theorem dX5_add_22 : decode cX5_add 22 = .ok (.getfield 15, 3) := by decide +kernel
theorem dX5_add_25 : decode cX5_add 25 = .ok (.iload_n 1, 1) := by decide +kernel
theorem dX5_add_26 : decode cX5_add 26 = .ok (.iload_n 2, 1) := by decide +kernel
theorem dX5_add_27 : decode cX5_add 27 = .ok (.ishr, 1) := by decide +kernel
theorem dX5_add_28 : decode cX5_add 28 = .ok (.sipush 255, 3) := by decide +kernel
theorem dX5_add_31 : decode cX5_add 31 = .ok (.iand, 1) := by decide +kernel
theorem dX5_add_32 : decode cX5_add 32 = .ok (.iastore, 1) := by decide +kernel
theorem dX5_add_33 : decode cX5_add 33 = .ok (.aload_n 0, 1) := by decide +kernel
theorem dX5_add_34 : decode cX5_add 34 = .ok (.dup, 1) := by decide +kernel
theorem dX5_add_35 : decode cX5_add 35 = .ok (.getfield 15, 3) := by decide +kernel
theorem dX5_add_38 : decode cX5_add 38 = .ok (.iconst 1, 1) := by decide +kernel
theorem dX5_add_39 : decode cX5_add 39 = .ok (.iadd, 1) := by decide +kernel
theorem dX5_add_40 : decode cX5_add 40 = .ok (.putfield 15, 3) := by decide +kernel
theorem dX5_add_43 : decode cX5_add 43 = .ok (.iinc 2 (-8), 3) := by decide +kernel
theorem dX5_add_46 : decode cX5_add 46 = .ok (.goto (-43), 3) := by decide +kernel
theorem dX5_add_49 : decode cX5_add 49 = .ok (.return_, 1) := by decide +kernel
theorem dX5_useUp_0 : decode cX5_useUp 0 = .ok (.aload_n 0, 1) := by decide +kernel
theorem dX5_useUp_1 : decode cX5_useUp 1 = .ok (.getfield 15, 3) := by decide +kernel
theorem dX5_useUp_4 : decode cX5_useUp 4 = .ok (.istore_n 1, 1) := by decide +kernel
theorem dX5_useUp_5 : decode cX5_useUp 5 = .ok (.aload_n 0, 1) := by decide +kernel
theorem dX5_useUp_6 : decode cX5_useUp 6 = .ok (.iconst 0, 1) := by decide +kernel
theorem dX5_useUp_7 : decode cX5_useUp 7 = .ok (.putfield 15, 3) := by decide +kernel
theorem dX5_useUp_10 : decode cX5_useUp 10 = .ok (.iload_n 1, 1) := by decide +kernel
theorem dX5_useUp_11 : decode cX5_useUp 11 = .ok (.ireturn, 1) := by decide +kernel
theorem dX5_open_0 : decode cX5_open 0 = .ok (.aload_n 0, 1) := by decide +kernel
theorem dX5_open_1 : decode cX5_open 1 = .ok (.iload_n 1, 1) := by decide +kernel
theorem dX5_open_2 : decode cX5_open 2 = .ok (.putfield 28, 3) := by decide +kernel
theorem dX5_open_5 : decode cX5_open 5 = .ok (.aload_n 0, 1) := by decide +kernel
theorem dX5_open_6 : decode cX5_open 6 = .ok (.iload_n 2, 1) := by decide +kernel
theorem dX5_open_7 : decode cX5_open 7 = .ok (.putfield 31, 3) := by decide +kernel
theorem dX5_open_10 : decode cX5_open 10 = .ok (.aload_n 0, 1) := by decide +kernel
theorem dX5_open_11 : decode cX5_open 11 = .ok (.iload_n 3, 1) := by decide +kernel
theorem dX5_open_12 : decode cX5_open 12 = .ok (.putfield 34, 3) := by decide +kernel
theorem dX5_open_15 : decode cX5_open 15 = .ok (.aload_n 0, 1) := by decide +kernel
theorem dX5_open_16 : decode cX5_open 16 = .ok (.iload 4, 2) := by decide +kernel
theorem dX5_open_18 : decode cX5_open 18 = .ok (.putfield 37, 3) := by decide +kernel
theorem dX5_open_21 : decode cX5_open 21 = .ok (.aload_n 0, 1) := by decide +kernel
theorem dX5_open_22 : decode cX5_open 22 = .ok (.iconst 0, 1) := by decide +kernel
theorem dX5_open_23 : decode cX5_open 23 = .ok (.putfield 40, 3) := by decide +kernel
theorem dX5_open_26 : decode cX5_open 26 = .ok (.aload_n 0, 1) := by decide +kernel
theorem dX5_open_27 : decode cX5_open 27 = .ok (.iconst 0, 1) := by decide +kernel
theorem dX5_open_28 : decode cX5_open 28 = .ok (.putfield 25, 3) := by decide +kernel
theorem dX5_open_31 : decode cX5_open 31 = .ok (.aload_n 0, 1) := by decide +kernel
theorem dX5_open_32 : decode cX5_open 32 = .ok (.iconst (-1), 1) := by decide +kernel
theorem dX5_open_33 : decode cX5_open 33 = .ok (.putfield 19, 3) := by decide +kernel
theorem dX5_open_36 : decode cX5_open 36 = .ok (.return_, 1) := by decide +kernel
theorem dX5_parse_0 : decode cX5_parse 0 = .ok (.aload_n 0, 1) := by decide +kernel
theorem dX5_parse_1 : decode cX5_parse 1 = .ok (.invokevirtual 43, 3) := by decide +kernel
theorem dX5_parse_4 : decode cX5_parse 4 = .ok (.aload_n 0, 1) := by decide +kernel
theorem dX5_parse_5 : decode cX5_parse 5 = .ok (.getfield 40, 3) := by decide +kernel
theorem dX5_parse_8 : decode cX5_parse 8 = .ok (.aload_n 0, 1) := by decide +kernel
theorem dX5_parse_9 : decode cX5_parse 9 = .ok (.getfield 31, 3) := by decide +kernel
theorem dX5_parse_12 : decode cX5_parse 12 = .ok (.if_icmp .lt 5, 3) := by decide +kernel
theorem dX5_parse_15 : decode cX5_parse 15 = .ok (.iconst 1, 1) := by decide +kernel
theorem dX5_parse_16 : decode cX5_parse 16 = .ok (.ireturn, 1) := by decide +kernel
theorem dX5_parse_17 : decode cX5_parse 17 = .ok (.iconst 0, 1) := by decide +kernel
theorem dX5_parse_18 : decode cX5_parse 18 = .ok (.istore_n 1, 1) := by decide +kernel
theorem dX5_parse_19 : decode cX5_parse 19 = .ok (.iload_n 1, 1) := by decide +kernel
theorem dX5_parse_20 : decode cX5_parse 20 = .ok (.bipush 20, 2) := by decide +kernel
theorem dX5_parse_22 : decode cX5_parse 22 = .ok (.if_icmp .ge 65, 3) := by decide +kernel
theorem dX5_parse_25 : decode cX5_parse 25 = .ok (.aload_n 0, 1) := by decide +kernel
theorem dX5_parse_26 : decode cX5_parse 26 = .ok (.invokevirtual 46, 3) := by decide +kernel
theorem dX5_parse_29 : decode cX5_parse 29 = .ok (.ifCond .ne 5, 3) := by decide +kernel
theorem dX5_parse_32 : decode cX5_parse 32 = .ok (.iconst 0, 1) := by decide +kernel
theorem dX5_parse_33 : decode cX5_parse 33 = .ok (.ireturn, 1) := by decide +kernel
theorem dX5_parse_34 : decode cX5_parse 34 = .ok (.aload_n 0, 1) := by decide +kernel
theorem dX5_parse_35 : decode cX5_parse 35 = .ok (.invokevirtual 43, 3) := by decide +kernel
theorem dX5_parse_38 : decode cX5_parse 38 = .ok (.aload_n 0, 1) := by decide +kernel
theorem dX5_parse_39 : decode cX5_parse 39 = .ok (.getfield 40, 3) := by decide +kernel
theorem dX5_parse_42 : decode cX5_parse 42 = .ok (.aload_n 0, 1) := by decide +kernel
theorem dX5_parse_43 : decode cX5_parse 43 = .ok (.getfield 31, 3) := by decide +kernel
theorem dX5_parse_46 : decode cX5_parse 46 = .ok (.if_icmp .lt 5, 3) := by decide +kernel
theorem dX5_parse_49 : decode cX5_parse 49 = .ok (.iconst 1, 1) := by decide +kernel
theorem dX5_parse_50 : decode cX5_parse 50 = .ok (.ireturn, 1) := by decide +kernel
theorem dX5_parse_51 : decode cX5_parse 51 = .ok (.aload_n 0, 1) := by decide +kernel
theorem dX5_parse_52 : decode cX5_parse 52 = .ok (.getfield 11, 3) := by decide +kernel
theorem dX5_parse_55 : decode cX5_parse 55 = .ok (.aload_n 0, 1) := by decide +kernel
theorem dX5_parse_56 : decode cX5_parse 56 = .ok (.getfield 40, 3) := by decide +kernel
theorem dX5_parse_59 : decode cX5_parse 59 = .ok (.iaload, 1) := by decide +kernel
theorem dX5_parse_60 : decode cX5_parse 60 = .ok (.bipush 59, 2) := by decide +kernel
theorem dX5_parse_62 : decode cX5_parse 62 = .ok (.if_icmp .eq 5, 3) := by decide +kernel
theorem dX5_parse_65 : decode cX5_parse 65 = .ok (.iconst 0, 1) := by decide +kernel
theorem dX5_parse_66 : decode cX5_parse 66 = .ok (.ireturn, 1) := by decide +kernel
theorem dX5_parse_67 : decode cX5_parse 67 = .ok (.aload_n 0, 1) := by decide +kernel
theorem dX5_parse_68 : decode cX5_parse 68 = .ok (.dup, 1) := by decide +kernel
theorem dX5_parse_69 : decode cX5_parse 69 = .ok (.getfield 40, 3) := by decide +kernel
theorem dX5_parse_72 : decode cX5_parse 72 = .ok (.iconst 1, 1) := by decide +kernel
theorem dX5_parse_73 : decode cX5_parse 73 = .ok (.iadd, 1) := by decide +kernel
theorem dX5_parse_74 : decode cX5_parse 74 = .ok (.putfield 40, 3) := by decide +kernel
theorem dX5_parse_77 : decode cX5_parse 77 = .ok (.aload_n 0, 1) := by decide +kernel
theorem dX5_parse_78 : decode cX5_parse 78 = .ok (.invokevirtual 43, 3) := by decide +kernel
theorem dX5_parse_81 : decode cX5_parse 81 = .ok (.iinc 1 1, 3) := by decide +kernel
theorem dX5_parse_84 : decode cX5_parse 84 = .ok (.goto (-65), 3) := by decide +kernel
theorem dX5_parse_87 : decode cX5_parse 87 = .ok (.iconst 0, 1) := by decide +kernel
theorem dX5_parse_88 : decode cX5_parse 88 = .ok (.ireturn, 1) := by decide +kernel
theorem dX5_parseCommand_0 : decode cX5_parseCommand 0 = .ok (.aload_n 0, 1) := by decide +kernel
theorem dX5_parseCommand_1 : decode cX5_parseCommand 1 = .ok (.getfield 40, 3) := by decide +kernel
theorem dX5_parseCommand_4 : decode cX5_parseCommand 4 = .ok (.istore_n 1, 1) := by decide +kernel
theorem dX5_parseCommand_5 : decode cX5_parseCommand 5 = .ok (.aload_n 0, 1) := by decide +kernel
theorem dX5_parseCommand_6 : decode cX5_parseCommand 6 = .ok (.getfield 40, 3) := by decide +kernel
theorem dX5_parseCommand_9 : decode cX5_parseCommand 9 = .ok (.istore_n 2, 1) := by decide +kernel
theorem dX5_parseCommand_10 : decode cX5_parseCommand 10 = .ok (.iload_n 2, 1) := by decide +kernel
theorem dX5_parseCommand_11 : decode cX5_parseCommand 11 = .ok (.aload_n 0, 1) := by decide +kernel
theorem dX5_parseCommand_12 : decode cX5_parseCommand 12 = .ok (.getfield 31, 3) := by decide +kernel
theorem dX5_parseCommand_15 : decode cX5_parseCommand 15 = .ok (.if_icmp .ge 41, 3) := by decide +kernel
theorem dX5_parseCommand_18 : decode cX5_parseCommand 18 = .ok (.aload_n 0, 1) := by decide +kernel
theorem dX5_parseCommand_19 : decode cX5_parseCommand 19 = .ok (.getfield 11, 3) := by decide +kernel
theorem dX5_parseCommand_22 : decode cX5_parseCommand 22 = .ok (.iload_n 2, 1) := by decide +kernel
theorem dX5_parseCommand_23 : decode cX5_parseCommand 23 = .ok (.iaload, 1) := by decide +kernel
theorem dX5_parseCommand_24 : decode cX5_parseCommand 24 = .ok (.bipush 97, 2) := by decide +kernel
theorem dX5_parseCommand_26 : decode cX5_parseCommand 26 = .ok (.if_icmp .lt 30, 3) := by decide +kernel
theorem dX5_parseCommand_29 : decode cX5_parseCommand 29 = .ok (.aload_n 0, 1) := by decide +kernel
theorem dX5_parseCommand_30 : decode cX5_parseCommand 30 = .ok (.getfield 11, 3) := by decide +kernel
theorem dX5_parseCommand_33 : decode cX5_parseCommand 33 = .ok (.iload_n 2, 1) := by decide +kernel
theorem dX5_parseCommand_34 : decode cX5_parseCommand 34 = .ok (.iaload, 1) := by decide +kernel
theorem dX5_parseCommand_35 : decode cX5_parseCommand 35 = .ok (.bipush 122, 2) := by decide +kernel
theorem dX5_parseCommand_37 : decode cX5_parseCommand 37 = .ok (.if_icmp .gt 19, 3) := by decide +kernel
theorem dX5_parseCommand_40 : decode cX5_parseCommand 40 = .ok (.aload_n 0, 1) := by decide +kernel
theorem dX5_parseCommand_41 : decode cX5_parseCommand 41 = .ok (.dup, 1) := by decide +kernel
theorem dX5_parseCommand_42 : decode cX5_parseCommand 42 = .ok (.getfield 40, 3) := by decide +kernel
theorem dX5_parseCommand_45 : decode cX5_parseCommand 45 = .ok (.iconst 1, 1) := by decide +kernel
theorem dX5_parseCommand_46 : decode cX5_parseCommand 46 = .ok (.iadd, 1) := by decide +kernel
theorem dX5_parseCommand_47 : decode cX5_parseCommand 47 = .ok (.putfield 40, 3) := by decide +kernel
theorem dX5_parseCommand_50 : decode cX5_parseCommand 50 = .ok (.iinc 2 1, 3) := by decide +kernel
theorem dX5_parseCommand_53 : decode cX5_parseCommand 53 = .ok (.goto (-43), 3) := by decide +kernel
theorem dX5_parseCommand_56 : decode cX5_parseCommand 56 = .ok (.aload_n 0, 1) := by decide +kernel
theorem dX5_parseCommand_57 : decode cX5_parseCommand 57 = .ok (.iload_n 1, 1) := by decide +kernel
theorem dX5_parseCommand_58 : decode cX5_parseCommand 58 = .ok (.invokevirtual 50, 3) := by decide +kernel
theorem dX5_parseCommand_61 : decode cX5_parseCommand 61 = .ok (.istore_n 2, 1) := by decide +kernel
theorem dX5_parseCommand_62 : decode cX5_parseCommand 62 = .ok (.iload_n 2, 1) := by decide +kernel
theorem dX5_parseCommand_63 : decode cX5_parseCommand 63 = .ok (.iconst (-1), 1) := by decide +kernel
theorem dX5_parseCommand_64 : decode cX5_parseCommand 64 = .ok (.if_icmp .ne 10, 3) := by decide +kernel
theorem dX5_parseCommand_67 : decode cX5_parseCommand 67 = .ok (.aload_n 0, 1) := by decide +kernel
theorem dX5_parseCommand_68 : decode cX5_parseCommand 68 = .ok (.iload_n 1, 1) := by decide +kernel
theorem dX5_parseCommand_69 : decode cX5_parseCommand 69 = .ok (.putfield 40, 3) := by decide +kernel
theorem dX5_parseCommand_72 : decode cX5_parseCommand 72 = .ok (.iconst 0, 1) := by decide +kernel
theorem dX5_parseCommand_73 : decode cX5_parseCommand 73 = .ok (.ireturn, 1) := by decide +kernel
theorem dX5_parseCommand_74 : decode cX5_parseCommand 74 = .ok (.aload_n 0, 1) := by decide +kernel
theorem dX5_parseCommand_75 : decode cX5_parseCommand 75 = .ok (.getfield 25, 3) := by decide +kernel
theorem dX5_parseCommand_78 : decode cX5_parseCommand 78 = .ok (.iconst 5, 1) := by decide +kernel
theorem dX5_parseCommand_79 : decode cX5_parseCommand 79 = .ok (.imul, 1) := by decide +kernel
theorem dX5_parseCommand_80 : decode cX5_parseCommand 80 = .ok (.istore_n 3, 1) := by decide +kernel
theorem dX5_parseCommand_81 : decode cX5_parseCommand 81 = .ok (.aload_n 0, 1) := by decide +kernel
theorem dX5_parseCommand_82 : decode cX5_parseCommand 82 = .ok (.getfield 22, 3) := by decide +kernel
theorem dX5_parseCommand_85 : decode cX5_parseCommand 85 = .ok (.iload_n 3, 1) := by decide +kernel
theorem dX5_parseCommand_86 : decode cX5_parseCommand 86 = .ok (.iload_n 2, 1) := by decide +kernel
theorem dX5_parseCommand_87 : decode cX5_parseCommand 87 = .ok (.iastore, 1) := by decide +kernel
theorem dX5_parseCommand_88 : decode cX5_parseCommand 88 = .ok (.aload_n 0, 1) := by decide +kernel
theorem dX5_parseCommand_89 : decode cX5_parseCommand 89 = .ok (.dup, 1) := by decide +kernel
theorem dX5_parseCommand_90 : decode cX5_parseCommand 90 = .ok (.getfield 25, 3) := by decide +kernel
theorem dX5_parseCommand_93 : decode cX5_parseCommand 93 = .ok (.iconst 1, 1) := by decide +kernel
theorem dX5_parseCommand_94 : decode cX5_parseCommand 94 = .ok (.iadd, 1) := by decide +kernel
theorem dX5_parseCommand_95 : decode cX5_parseCommand 95 = .ok (.putfield 25, 3) := by decide +kernel
theorem dX5_parseCommand_98 : decode cX5_parseCommand 98 = .ok (.aload_n 0, 1) := by decide +kernel
theorem dX5_parseCommand_99 : decode cX5_parseCommand 99 = .ok (.getfield 28, 3) := by decide +kernel
theorem dX5_parseCommand_102 : decode cX5_parseCommand 102 = .ok (.iconst 2, 1) := by decide +kernel
theorem dX5_parseCommand_103 : decode cX5_parseCommand 103 = .ok (.if_icmp .ne 10, 3) := by decide +kernel
theorem dX5_parseCommand_106 : decode cX5_parseCommand 106 = .ok (.aload_n 0, 1) := by decide +kernel
theorem dX5_parseCommand_107 : decode cX5_parseCommand 107 = .ok (.iload_n 2, 1) := by decide +kernel
theorem dX5_parseCommand_108 : decode cX5_parseCommand 108 = .ok (.iload_n 3, 1) := by decide +kernel
theorem dX5_parseCommand_109 : decode cX5_parseCommand 109 = .ok (.invokevirtual 54, 3) := by decide +kernel
theorem dX5_parseCommand_112 : decode cX5_parseCommand 112 = .ok (.ireturn, 1) := by decide +kernel
theorem dX5_parseCommand_113 : decode cX5_parseCommand 113 = .ok (.aload_n 0, 1) := by decide +kernel
theorem dX5_parseCommand_114 : decode cX5_parseCommand 114 = .ok (.getfield 28, 3) := by decide +kernel
theorem dX5_parseCommand_117 : decode cX5_parseCommand 117 = .ok (.iconst 1, 1) := by decide +kernel
theorem dX5_parseCommand_118 : decode cX5_parseCommand 118 = .ok (.if_icmp .ne 11, 3) := by decide +kernel
theorem dX5_parseCommand_121 : decode cX5_parseCommand 121 = .ok (.aload_n 0, 1) := by decide +kernel
theorem dX5_parseCommand_122 : decode cX5_parseCommand 122 = .ok (.bipush 12, 2) := by decide +kernel
theorem dX5_parseCommand_124 : decode cX5_parseCommand 124 = .ok (.iload_n 3, 1) := by decide +kernel
theorem dX5_parseCommand_125 : decode cX5_parseCommand 125 = .ok (.invokevirtual 58, 3) := by decide +kernel
theorem dX5_parseCommand_128 : decode cX5_parseCommand 128 = .ok (.ireturn, 1) := by decide +kernel
theorem dX5_parseCommand_129 : decode cX5_parseCommand 129 = .ok (.iload_n 2, 1) := by decide +kernel
theorem dX5_parseCommand_130 : decode cX5_parseCommand 130 = .ok (.iconst 2, 1) := by decide +kernel
theorem dX5_parseCommand_131 : decode cX5_parseCommand 131 = .ok (.if_icmp .eq 17, 3) := by decide +kernel
theorem dX5_parseCommand_134 : decode cX5_parseCommand 134 = .ok (.iload_n 2, 1) := by decide +kernel
theorem dX5_parseCommand_135 : decode cX5_parseCommand 135 = .ok (.iconst 3, 1) := by decide +kernel
theorem dX5_parseCommand_136 : decode cX5_parseCommand 136 = .ok (.if_icmp .eq 12, 3) := by decide +kernel
theorem dX5_parseCommand_139 : decode cX5_parseCommand 139 = .ok (.aload_n 0, 1) := by decide +kernel
theorem dX5_parseCommand_140 : decode cX5_parseCommand 140 = .ok (.iconst 5, 1) := by decide +kernel
theorem dX5_parseCommand_141 : decode cX5_parseCommand 141 = .ok (.iload_n 3, 1) := by decide +kernel
theorem dX5_parseCommand_142 : decode cX5_parseCommand 142 = .ok (.invokevirtual 58, 3) := by decide +kernel
theorem dX5_parseCommand_145 : decode cX5_parseCommand 145 = .ok (.ifCond .eq 7, 3) := by decide +kernel
theorem dX5_parseCommand_148 : decode cX5_parseCommand 148 = .ok (.iconst 1, 1) := by decide +kernel
theorem dX5_parseCommand_149 : decode cX5_parseCommand 149 = .ok (.goto 4, 3) := by decide +kernel
theorem dX5_parseCommand_152 : decode cX5_parseCommand 152 = .ok (.iconst 0, 1) := by decide +kernel
theorem dX5_parseCommand_153 : decode cX5_parseCommand 153 = .ok (.ireturn, 1) := by decide +kernel
theorem dX5_parseBox_0 : decode cX5_parseBox 0 = .ok (.aload_n 0, 1) := by decide +kernel
theorem dX5_parseBox_1 : decode cX5_parseBox 1 = .ok (.iconst 0, 1) := by decide +kernel
theorem dX5_parseBox_2 : decode cX5_parseBox 2 = .ok (.iload_n 1, 1) := by decide +kernel
theorem dX5_parseBox_3 : decode cX5_parseBox 3 = .ok (.iconst 1, 1) := by decide +kernel
theorem dX5_parseBox_4 : decode cX5_parseBox 4 = .ok (.isub, 1) := by decide +kernel
theorem dX5_parseBox_5 : decode cX5_parseBox 5 = .ok (.invokevirtual 61, 3) := by decide +kernel
theorem dX5_parseBox_8 : decode cX5_parseBox 8 = .ok (.istore_n 3, 1) := by decide +kernel
theorem dX5_parseBox_9 : decode cX5_parseBox 9 = .ok (.iload_n 3, 1) := by decide +kernel
theorem dX5_parseBox_10 : decode cX5_parseBox 10 = .ok (.iconst (-1), 1) := by decide +kernel
theorem dX5_parseBox_11 : decode cX5_parseBox 11 = .ok (.if_icmp .ne 5, 3) := by decide +kernel
theorem dX5_parseBox_14 : decode cX5_parseBox 14 = .ok (.iconst 0, 1) := by decide +kernel
theorem dX5_parseBox_15 : decode cX5_parseBox 15 = .ok (.ireturn, 1) := by decide +kernel
theorem dX5_parseBox_16 : decode cX5_parseBox 16 = .ok (.aload_n 0, 1) := by decide +kernel
theorem dX5_parseBox_17 : decode cX5_parseBox 17 = .ok (.iconst 0, 1) := by decide +kernel
theorem dX5_parseBox_18 : decode cX5_parseBox 18 = .ok (.iload_n 1, 1) := by decide +kernel
theorem dX5_parseBox_19 : decode cX5_parseBox 19 = .ok (.iconst 1, 1) := by decide +kernel
theorem dX5_parseBox_20 : decode cX5_parseBox 20 = .ok (.isub, 1) := by decide +kernel
theorem dX5_parseBox_21 : decode cX5_parseBox 21 = .ok (.invokevirtual 61, 3) := by decide +kernel
theorem dX5_parseBox_24 : decode cX5_parseBox 24 = .ok (.istore 4, 2) := by decide +kernel
theorem dX5_parseBox_26 : decode cX5_parseBox 26 = .ok (.iload 4, 2) := by decide +kernel
theorem dX5_parseBox_28 : decode cX5_parseBox 28 = .ok (.iconst (-1), 1) := by decide +kernel
theorem dX5_parseBox_29 : decode cX5_parseBox 29 = .ok (.if_icmp .ne 5, 3) := by decide +kernel
theorem dX5_parseBox_32 : decode cX5_parseBox 32 = .ok (.iconst 0, 1) := by decide +kernel
theorem dX5_parseBox_33 : decode cX5_parseBox 33 = .ok (.ireturn, 1) := by decide +kernel
theorem dX5_parseBox_34 : decode cX5_parseBox 34 = .ok (.aload_n 0, 1) := by decide +kernel
theorem dX5_parseBox_35 : decode cX5_parseBox 35 = .ok (.iconst 1, 1) := by decide +kernel
theorem dX5_parseBox_36 : decode cX5_parseBox 36 = .ok (.iload_n 1, 1) := by decide +kernel
theorem dX5_parseBox_37 : decode cX5_parseBox 37 = .ok (.iload_n 3, 1) := by decide +kernel
theorem dX5_parseBox_38 : decode cX5_parseBox 38 = .ok (.isub, 1) := by decide +kernel
theorem dX5_parseBox_39 : decode cX5_parseBox 39 = .ok (.invokevirtual 61, 3) := by decide +kernel
theorem dX5_parseBox_42 : decode cX5_parseBox 42 = .ok (.istore 5, 2) := by decide +kernel
theorem dX5_parseBox_44 : decode cX5_parseBox 44 = .ok (.iload 5, 2) := by decide +kernel
theorem dX5_parseBox_46 : decode cX5_parseBox 46 = .ok (.iconst (-1), 1) := by decide +kernel
theorem dX5_parseBox_47 : decode cX5_parseBox 47 = .ok (.if_icmp .ne 5, 3) := by decide +kernel
theorem dX5_parseBox_50 : decode cX5_parseBox 50 = .ok (.iconst 0, 1) := by decide +kernel
theorem dX5_parseBox_51 : decode cX5_parseBox 51 = .ok (.ireturn, 1) := by decide +kernel
theorem dX5_parseBox_52 : decode cX5_parseBox 52 = .ok (.aload_n 0, 1) := by decide +kernel
theorem dX5_parseBox_53 : decode cX5_parseBox 53 = .ok (.iconst 1, 1) := by decide +kernel
theorem dX5_parseBox_54 : decode cX5_parseBox 54 = .ok (.iload_n 1, 1) := by decide +kernel
theorem dX5_parseBox_55 : decode cX5_parseBox 55 = .ok (.iload 4, 2) := by decide +kernel
theorem dX5_parseBox_57 : decode cX5_parseBox 57 = .ok (.isub, 1) := by decide +kernel
theorem dX5_parseBox_58 : decode cX5_parseBox 58 = .ok (.invokevirtual 61, 3) := by decide +kernel
theorem dX5_parseBox_61 : decode cX5_parseBox 61 = .ok (.istore 6, 2) := by decide +kernel
theorem dX5_parseBox_63 : decode cX5_parseBox 63 = .ok (.aload_n 0, 1) := by decide +kernel
theorem dX5_parseBox_64 : decode cX5_parseBox 64 = .ok (.getfield 22, 3) := by decide +kernel
theorem dX5_parseBox_67 : decode cX5_parseBox 67 = .ok (.iload_n 2, 1) := by decide +kernel
theorem dX5_parseBox_68 : decode cX5_parseBox 68 = .ok (.iconst 1, 1) := by decide +kernel
theorem dX5_parseBox_69 : decode cX5_parseBox 69 = .ok (.iadd, 1) := by decide +kernel
theorem dX5_parseBox_70 : decode cX5_parseBox 70 = .ok (.iload_n 3, 1) := by decide +kernel
theorem dX5_parseBox_71 : decode cX5_parseBox 71 = .ok (.iastore, 1) := by decide +kernel
theorem dX5_parseBox_72 : decode cX5_parseBox 72 = .ok (.aload_n 0, 1) := by decide +kernel
theorem dX5_parseBox_73 : decode cX5_parseBox 73 = .ok (.getfield 22, 3) := by decide +kernel
theorem dX5_parseBox_76 : decode cX5_parseBox 76 = .ok (.iload_n 2, 1) := by decide +kernel
theorem dX5_parseBox_77 : decode cX5_parseBox 77 = .ok (.iconst 2, 1) := by decide +kernel
theorem dX5_parseBox_78 : decode cX5_parseBox 78 = .ok (.iadd, 1) := by decide +kernel
theorem dX5_parseBox_79 : decode cX5_parseBox 79 = .ok (.iload 4, 2) := by decide +kernel
theorem dX5_parseBox_81 : decode cX5_parseBox 81 = .ok (.iastore, 1) := by decide +kernel
theorem dX5_parseBox_82 : decode cX5_parseBox 82 = .ok (.aload_n 0, 1) := by decide +kernel
theorem dX5_parseBox_83 : decode cX5_parseBox 83 = .ok (.getfield 22, 3) := by decide +kernel
theorem dX5_parseBox_86 : decode cX5_parseBox 86 = .ok (.iload_n 2, 1) := by decide +kernel
theorem dX5_parseBox_87 : decode cX5_parseBox 87 = .ok (.iconst 3, 1) := by decide +kernel
theorem dX5_parseBox_88 : decode cX5_parseBox 88 = .ok (.iadd, 1) := by decide +kernel
theorem dX5_parseBox_89 : decode cX5_parseBox 89 = .ok (.iload 5, 2) := by decide +kernel
theorem dX5_parseBox_91 : decode cX5_parseBox 91 = .ok (.iastore, 1) := by decide +kernel
theorem dX5_parseBox_92 : decode cX5_parseBox 92 = .ok (.aload_n 0, 1) := by decide +kernel
theorem dX5_parseBox_93 : decode cX5_parseBox 93 = .ok (.getfield 22, 3) := by decide +kernel
theorem dX5_parseBox_96 : decode cX5_parseBox 96 = .ok (.iload_n 2, 1) := by decide +kernel
theorem dX5_parseBox_97 : decode cX5_parseBox 97 = .ok (.iconst 4, 1) := by decide +kernel
theorem dX5_parseBox_98 : decode cX5_parseBox 98 = .ok (.iadd, 1) := by decide +kernel
theorem dX5_parseBox_99 : decode cX5_parseBox 99 = .ok (.iload 6, 2) := by decide +kernel
theorem dX5_parseBox_101 : decode cX5_parseBox 101 = .ok (.iastore, 1) := by decide +kernel
theorem dX5_parseBox_102 : decode cX5_parseBox 102 = .ok (.iload 6, 2) := by decide +kernel
theorem dX5_parseBox_104 : decode cX5_parseBox 104 = .ok (.iconst (-1), 1) := by decide +kernel
theorem dX5_parseBox_105 : decode cX5_parseBox 105 = .ok (.if_icmp .eq 7, 3) := by decide +kernel
theorem dX5_parseBox_108 : decode cX5_parseBox 108 = .ok (.iconst 1, 1) := by decide +kernel
theorem dX5_parseBox_109 : decode cX5_parseBox 109 = .ok (.goto 4, 3) := by decide +kernel
theorem dX5_parseBox_112 : decode cX5_parseBox 112 = .ok (.iconst 0, 1) := by decide +kernel
theorem dX5_parseBox_113 : decode cX5_parseBox 113 = .ok (.ireturn, 1) := by decide +kernel
theorem dX5_parsePair_0 : decode cX5_parsePair 0 = .ok (.aload_n 0, 1) := by decide +kernel
theorem dX5_parsePair_1 : decode cX5_parsePair 1 = .ok (.iconst 0, 1) := by decide +kernel
theorem dX5_parsePair_2 : decode cX5_parsePair 2 = .ok (.aload_n 0, 1) := by decide +kernel
theorem dX5_parsePair_3 : decode cX5_parsePair 3 = .ok (.getfield 34, 3) := by decide +kernel
theorem dX5_parsePair_6 : decode cX5_parsePair 6 = .ok (.iconst 1, 1) := by decide +kernel
theorem dX5_parsePair_7 : decode cX5_parsePair 7 = .ok (.isub, 1) := by decide +kernel
theorem dX5_parsePair_8 : decode cX5_parsePair 8 = .ok (.invokevirtual 61, 3) := by decide +kernel
theorem dX5_parsePair_11 : decode cX5_parsePair 11 = .ok (.istore_n 3, 1) := by decide +kernel
theorem dX5_parsePair_12 : decode cX5_parsePair 12 = .ok (.iload_n 3, 1) := by decide +kernel
theorem dX5_parsePair_13 : decode cX5_parsePair 13 = .ok (.iconst (-1), 1) := by decide +kernel
theorem dX5_parsePair_14 : decode cX5_parsePair 14 = .ok (.if_icmp .ne 5, 3) := by decide +kernel
theorem dX5_parsePair_17 : decode cX5_parsePair 17 = .ok (.iconst 0, 1) := by decide +kernel
theorem dX5_parsePair_18 : decode cX5_parsePair 18 = .ok (.ireturn, 1) := by decide +kernel
theorem dX5_parsePair_19 : decode cX5_parsePair 19 = .ok (.aload_n 0, 1) := by decide +kernel
theorem dX5_parsePair_20 : decode cX5_parsePair 20 = .ok (.invokevirtual 43, 3) := by decide +kernel
theorem dX5_parsePair_23 : decode cX5_parsePair 23 = .ok (.aload_n 0, 1) := by decide +kernel
theorem dX5_parsePair_24 : decode cX5_parsePair 24 = .ok (.getfield 40, 3) := by decide +kernel
theorem dX5_parsePair_27 : decode cX5_parsePair 27 = .ok (.istore 4, 2) := by decide +kernel
theorem dX5_parsePair_29 : decode cX5_parsePair 29 = .ok (.aload_n 0, 1) := by decide +kernel
theorem dX5_parsePair_30 : decode cX5_parsePair 30 = .ok (.iconst 0, 1) := by decide +kernel
theorem dX5_parsePair_31 : decode cX5_parsePair 31 = .ok (.iload_n 1, 1) := by decide +kernel
theorem dX5_parsePair_32 : decode cX5_parsePair 32 = .ok (.ifCond .ne 10, 3) := by decide +kernel
theorem dX5_parsePair_35 : decode cX5_parsePair 35 = .ok (.aload_n 0, 1) := by decide +kernel
theorem dX5_parsePair_36 : decode cX5_parsePair 36 = .ok (.getfield 37, 3) := by decide +kernel
theorem dX5_parsePair_39 : decode cX5_parsePair 39 = .ok (.goto 7, 3) := by decide +kernel
theorem dX5_parsePair_42 : decode cX5_parsePair 42 = .ok (.aload_n 0, 1) := by decide +kernel
theorem dX5_parsePair_43 : decode cX5_parsePair 43 = .ok (.getfield 34, 3) := by decide +kernel
theorem dX5_parsePair_46 : decode cX5_parsePair 46 = .ok (.iconst 1, 1) := by decide +kernel
theorem dX5_parsePair_47 : decode cX5_parsePair 47 = .ok (.isub, 1) := by decide +kernel
theorem dX5_parsePair_48 : decode cX5_parsePair 48 = .ok (.invokevirtual 61, 3) := by decide +kernel
theorem dX5_parsePair_51 : decode cX5_parsePair 51 = .ok (.istore 5, 2) := by decide +kernel
theorem dX5_parsePair_53 : decode cX5_parsePair 53 = .ok (.iload 5, 2) := by decide +kernel
theorem dX5_parsePair_55 : decode cX5_parsePair 55 = .ok (.iconst (-1), 1) := by decide +kernel
theorem dX5_parsePair_56 : decode cX5_parsePair 56 = .ok (.if_icmp .ne 5, 3) := by decide +kernel
theorem dX5_parsePair_59 : decode cX5_parsePair 59 = .ok (.iconst 0, 1) := by decide +kernel
theorem dX5_parsePair_60 : decode cX5_parsePair 60 = .ok (.ireturn, 1) := by decide +kernel
theorem dX5_parsePair_61 : decode cX5_parsePair 61 = .ok (.iload_n 1, 1) := by decide +kernel
theorem dX5_parsePair_62 : decode cX5_parsePair 62 = .ok (.ifCond .eq 17, 3) := by decide +kernel
theorem dX5_parsePair_65 : decode cX5_parsePair 65 = .ok (.iload_n 3, 1) := by decide +kernel
theorem dX5_parsePair_66 : decode cX5_parsePair 66 = .ok (.iload 5, 2) := by decide +kernel
theorem dX5_parsePair_68 : decode cX5_parsePair 68 = .ok (.if_icmp .ne 11, 3) := by decide +kernel
theorem dX5_parsePair_71 : decode cX5_parsePair 71 = .ok (.aload_n 0, 1) := by decide +kernel
theorem dX5_parsePair_72 : decode cX5_parsePair 72 = .ok (.iload 4, 2) := by decide +kernel
theorem dX5_parsePair_74 : decode cX5_parsePair 74 = .ok (.putfield 40, 3) := by decide +kernel
theorem dX5_parsePair_77 : decode cX5_parsePair 77 = .ok (.iconst 0, 1) := by decide +kernel
theorem dX5_parsePair_78 : decode cX5_parsePair 78 = .ok (.ireturn, 1) := by decide +kernel
theorem dX5_parsePair_79 : decode cX5_parsePair 79 = .ok (.aload_n 0, 1) := by decide +kernel
theorem dX5_parsePair_80 : decode cX5_parsePair 80 = .ok (.getfield 22, 3) := by decide +kernel
theorem dX5_parsePair_83 : decode cX5_parsePair 83 = .ok (.iload_n 2, 1) := by decide +kernel
theorem dX5_parsePair_84 : decode cX5_parsePair 84 = .ok (.iconst 1, 1) := by decide +kernel
theorem dX5_parsePair_85 : decode cX5_parsePair 85 = .ok (.iadd, 1) := by decide +kernel
theorem dX5_parsePair_86 : decode cX5_parsePair 86 = .ok (.iload_n 3, 1) := by decide +kernel
theorem dX5_parsePair_87 : decode cX5_parsePair 87 = .ok (.iastore, 1) := by decide +kernel
theorem dX5_parsePair_88 : decode cX5_parsePair 88 = .ok (.aload_n 0, 1) := by decide +kernel
theorem dX5_parsePair_89 : decode cX5_parsePair 89 = .ok (.getfield 22, 3) := by decide +kernel
theorem dX5_parsePair_92 : decode cX5_parsePair 92 = .ok (.iload_n 2, 1) := by decide +kernel
theorem dX5_parsePair_93 : decode cX5_parsePair 93 = .ok (.iconst 2, 1) := by decide +kernel
theorem dX5_parsePair_94 : decode cX5_parsePair 94 = .ok (.iadd, 1) := by decide +kernel
theorem dX5_parsePair_95 : decode cX5_parsePair 95 = .ok (.iload 5, 2) := by decide +kernel
theorem dX5_parsePair_97 : decode cX5_parsePair 97 = .ok (.iastore, 1) := by decide +kernel
theorem dX5_parsePair_98 : decode cX5_parsePair 98 = .ok (.iconst 1, 1) := by decide +kernel
theorem dX5_parsePair_99 : decode cX5_parsePair 99 = .ok (.ireturn, 1) := by decide +kernel
theorem dX5_parseNumber_0 : decode cX5_parseNumber 0 = .ok (.aload_n 0, 1) := by decide +kernel
theorem dX5_parseNumber_1 : decode cX5_parseNumber 1 = .ok (.invokevirtual 43, 3) := by decide +kernel
theorem dX5_parseNumber_4 : decode cX5_parseNumber 4 = .ok (.iconst 0, 1) := by decide +kernel
theorem dX5_parseNumber_5 : decode cX5_parseNumber 5 = .ok (.istore_n 3, 1) := by decide +kernel
theorem dX5_parseNumber_6 : decode cX5_parseNumber 6 = .ok (.aload_n 0, 1) := by decide +kernel
theorem dX5_parseNumber_7 : decode cX5_parseNumber 7 = .ok (.getfield 40, 3) := by decide +kernel
theorem dX5_parseNumber_10 : decode cX5_parseNumber 10 = .ok (.istore 4, 2) := by decide +kernel
theorem dX5_parseNumber_12 : decode cX5_parseNumber 12 = .ok (.aload_n 0, 1) := by decide +kernel
theorem dX5_parseNumber_13 : decode cX5_parseNumber 13 = .ok (.getfield 40, 3) := by decide +kernel
theorem dX5_parseNumber_16 : decode cX5_parseNumber 16 = .ok (.istore 5, 2) := by decide +kernel
theorem dX5_parseNumber_18 : decode cX5_parseNumber 18 = .ok (.iload 5, 2) := by decide +kernel
theorem dX5_parseNumber_20 : decode cX5_parseNumber 20 = .ok (.aload_n 0, 1) := by decide +kernel
theorem dX5_parseNumber_21 : decode cX5_parseNumber 21 = .ok (.getfield 31, 3) := by decide +kernel
theorem dX5_parseNumber_24 : decode cX5_parseNumber 24 = .ok (.if_icmp .ge 52, 3) := by decide +kernel
theorem dX5_parseNumber_27 : decode cX5_parseNumber 27 = .ok (.aload_n 0, 1) := by decide +kernel
theorem dX5_parseNumber_28 : decode cX5_parseNumber 28 = .ok (.getfield 11, 3) := by decide +kernel
theorem dX5_parseNumber_31 : decode cX5_parseNumber 31 = .ok (.iload 5, 2) := by decide +kernel
theorem dX5_parseNumber_33 : decode cX5_parseNumber 33 = .ok (.iaload, 1) := by decide +kernel
theorem dX5_parseNumber_34 : decode cX5_parseNumber 34 = .ok (.bipush 48, 2) := by decide +kernel
theorem dX5_parseNumber_36 : decode cX5_parseNumber 36 = .ok (.if_icmp .lt 40, 3) := by decide +kernel
theorem dX5_parseNumber_39 : decode cX5_parseNumber 39 = .ok (.aload_n 0, 1) := by decide +kernel
theorem dX5_parseNumber_40 : decode cX5_parseNumber 40 = .ok (.getfield 11, 3) := by decide +kernel
theorem dX5_parseNumber_43 : decode cX5_parseNumber 43 = .ok (.iload 5, 2) := by decide +kernel
theorem dX5_parseNumber_45 : decode cX5_parseNumber 45 = .ok (.iaload, 1) := by decide +kernel
theorem dX5_parseNumber_46 : decode cX5_parseNumber 46 = .ok (.bipush 57, 2) := by decide +kernel
theorem dX5_parseNumber_48 : decode cX5_parseNumber 48 = .ok (.if_icmp .gt 28, 3) := by decide +kernel
theorem dX5_parseNumber_51 : decode cX5_parseNumber 51 = .ok (.iload_n 3, 1) := by decide +kernel
theorem dX5_parseNumber_52 : decode cX5_parseNumber 52 = .ok (.bipush 10, 2) := by decide +kernel
theorem dX5_parseNumber_54 : decode cX5_parseNumber 54 = .ok (.imul, 1) := by decide +kernel
theorem dX5_parseNumber_55 : decode cX5_parseNumber 55 = .ok (.aload_n 0, 1) := by decide +kernel
theorem dX5_parseNumber_56 : decode cX5_parseNumber 56 = .ok (.getfield 11, 3) := by decide +kernel
theorem dX5_parseNumber_59 : decode cX5_parseNumber 59 = .ok (.iload 5, 2) := by decide +kernel
theorem dX5_parseNumber_61 : decode cX5_parseNumber 61 = .ok (.iaload, 1) := by decide +kernel
theorem dX5_parseNumber_62 : decode cX5_parseNumber 62 = .ok (.iadd, 1) := by decide +kernel
theorem dX5_parseNumber_63 : decode cX5_parseNumber 63 = .ok (.bipush 48, 2) := by decide +kernel
theorem dX5_parseNumber_65 : decode cX5_parseNumber 65 = .ok (.isub, 1) := by decide +kernel
theorem dX5_parseNumber_66 : decode cX5_parseNumber 66 = .ok (.istore_n 3, 1) := by decide +kernel
theorem dX5_parseNumber_67 : decode cX5_parseNumber 67 = .ok (.iinc 4 1, 3) := by decide +kernel
theorem dX5_parseNumber_70 : decode cX5_parseNumber 70 = .ok (.iinc 5 1, 3) := by decide +kernel
theorem dX5_parseNumber_73 : decode cX5_parseNumber 73 = .ok (.goto (-55), 3) := by decide +kernel
theorem dX5_parseNumber_76 : decode cX5_parseNumber 76 = .ok (.iload 4, 2) := by decide +kernel
theorem dX5_parseNumber_78 : decode cX5_parseNumber 78 = .ok (.aload_n 0, 1) := by decide +kernel
theorem dX5_parseNumber_79 : decode cX5_parseNumber 79 = .ok (.getfield 40, 3) := by decide +kernel
theorem dX5_parseNumber_82 : decode cX5_parseNumber 82 = .ok (.isub, 1) := by decide +kernel
theorem dX5_parseNumber_83 : decode cX5_parseNumber 83 = .ok (.istore 5, 2) := by decide +kernel
theorem dX5_parseNumber_85 : decode cX5_parseNumber 85 = .ok (.iload 5, 2) := by decide +kernel
theorem dX5_parseNumber_87 : decode cX5_parseNumber 87 = .ok (.iconst 1, 1) := by decide +kernel
theorem dX5_parseNumber_88 : decode cX5_parseNumber 88 = .ok (.if_icmp .lt 19, 3) := by decide +kernel
theorem dX5_parseNumber_91 : decode cX5_parseNumber 91 = .ok (.iload 5, 2) := by decide +kernel
theorem dX5_parseNumber_93 : decode cX5_parseNumber 93 = .ok (.iconst 2, 1) := by decide +kernel
theorem dX5_parseNumber_94 : decode cX5_parseNumber 94 = .ok (.if_icmp .gt 13, 3) := by decide +kernel
theorem dX5_parseNumber_97 : decode cX5_parseNumber 97 = .ok (.iload_n 3, 1) := by decide +kernel
theorem dX5_parseNumber_98 : decode cX5_parseNumber 98 = .ok (.iload_n 1, 1) := by decide +kernel
theorem dX5_parseNumber_99 : decode cX5_parseNumber 99 = .ok (.if_icmp .lt 8, 3) := by decide +kernel
theorem dX5_parseNumber_102 : decode cX5_parseNumber 102 = .ok (.iload_n 3, 1) := by decide +kernel
theorem dX5_parseNumber_103 : decode cX5_parseNumber 103 = .ok (.iload_n 2, 1) := by decide +kernel
theorem dX5_parseNumber_104 : decode cX5_parseNumber 104 = .ok (.if_icmp .le 5, 3) := by decide +kernel
theorem dX5_parseNumber_107 : decode cX5_parseNumber 107 = .ok (.iconst (-1), 1) := by decide +kernel
theorem dX5_parseNumber_108 : decode cX5_parseNumber 108 = .ok (.ireturn, 1) := by decide +kernel
theorem dX5_parseNumber_109 : decode cX5_parseNumber 109 = .ok (.aload_n 0, 1) := by decide +kernel
theorem dX5_parseNumber_110 : decode cX5_parseNumber 110 = .ok (.iload 4, 2) := by decide +kernel
theorem dX5_parseNumber_112 : decode cX5_parseNumber 112 = .ok (.putfield 40, 3) := by decide +kernel
theorem dX5_parseNumber_115 : decode cX5_parseNumber 115 = .ok (.iload_n 3, 1) := by decide +kernel
theorem dX5_parseNumber_116 : decode cX5_parseNumber 116 = .ok (.ireturn, 1) := by decide +kernel
theorem dX5_skipBlanks_0 : decode cX5_skipBlanks 0 = .ok (.aload_n 0, 1) := by decide +kernel
theorem dX5_skipBlanks_1 : decode cX5_skipBlanks 1 = .ok (.getfield 40, 3) := by decide +kernel
theorem dX5_skipBlanks_4 : decode cX5_skipBlanks 4 = .ok (.istore_n 1, 1) := by decide +kernel
theorem dX5_skipBlanks_5 : decode cX5_skipBlanks 5 = .ok (.iload_n 1, 1) := by decide +kernel
theorem dX5_skipBlanks_6 : decode cX5_skipBlanks 6 = .ok (.aload_n 0, 1) := by decide +kernel
theorem dX5_skipBlanks_7 : decode cX5_skipBlanks 7 = .ok (.getfield 31, 3) := by decide +kernel
theorem dX5_skipBlanks_10 : decode cX5_skipBlanks 10 = .ok (.if_icmp .ge 30, 3) := by decide +kernel
theorem dX5_skipBlanks_13 : decode cX5_skipBlanks 13 = .ok (.aload_n 0, 1) := by decide +kernel
theorem dX5_skipBlanks_14 : decode cX5_skipBlanks 14 = .ok (.getfield 11, 3) := by decide +kernel
theorem dX5_skipBlanks_17 : decode cX5_skipBlanks 17 = .ok (.iload_n 1, 1) := by decide +kernel
theorem dX5_skipBlanks_18 : decode cX5_skipBlanks 18 = .ok (.iaload, 1) := by decide +kernel
theorem dX5_skipBlanks_19 : decode cX5_skipBlanks 19 = .ok (.bipush 32, 2) := by decide +kernel
theorem dX5_skipBlanks_21 : decode cX5_skipBlanks 21 = .ok (.if_icmp .ne 19, 3) := by decide +kernel
theorem dX5_skipBlanks_24 : decode cX5_skipBlanks 24 = .ok (.aload_n 0, 1) := by decide +kernel
theorem dX5_skipBlanks_25 : decode cX5_skipBlanks 25 = .ok (.dup, 1) := by decide +kernel
theorem dX5_skipBlanks_26 : decode cX5_skipBlanks 26 = .ok (.getfield 40, 3) := by decide +kernel
theorem dX5_skipBlanks_29 : decode cX5_skipBlanks 29 = .ok (.iconst 1, 1) := by decide +kernel
theorem dX5_skipBlanks_30 : decode cX5_skipBlanks 30 = .ok (.iadd, 1) := by decide +kernel
theorem dX5_skipBlanks_31 : decode cX5_skipBlanks 31 = .ok (.putfield 40, 3) := by decide +kernel
theorem dX5_skipBlanks_34 : decode cX5_skipBlanks 34 = .ok (.iinc 1 1, 3) := by decide +kernel
theorem dX5_skipBlanks_37 : decode cX5_skipBlanks 37 = .ok (.goto (-32), 3) := by decide +kernel
theorem dX5_skipBlanks_40 : decode cX5_skipBlanks 40 = .ok (.return_, 1) := by decide +kernel
theorem dX5_kindOf_0 : decode cX5_kindOf 0 = .ok (.iconst 0, 1) := by decide +kernel
theorem dX5_kindOf_1 : decode cX5_kindOf 1 = .ok (.istore_n 2, 1) := by decide +kernel
theorem dX5_kindOf_2 : decode cX5_kindOf 2 = .ok (.iload_n 2, 1) := by decide +kernel
theorem dX5_kindOf_3 : decode cX5_kindOf 3 = .ok (.iconst 4, 1) := by decide +kernel
theorem dX5_kindOf_4 : decode cX5_kindOf 4 = .ok (.if_icmp .ge 27, 3) := by decide +kernel
theorem dX5_kindOf_7 : decode cX5_kindOf 7 = .ok (.aload_n 0, 1) := by decide +kernel
theorem dX5_kindOf_8 : decode cX5_kindOf 8 = .ok (.iload_n 1, 1) := by decide +kernel
theorem dX5_kindOf_9 : decode cX5_kindOf 9 = .ok (.aload_n 0, 1) := by decide +kernel
theorem dX5_kindOf_10 : decode cX5_kindOf 10 = .ok (.getfield 28, 3) := by decide +kernel
theorem dX5_kindOf_13 : decode cX5_kindOf 13 = .ok (.iload_n 2, 1) := by decide +kernel
theorem dX5_kindOf_14 : decode cX5_kindOf 14 = .ok (.invokestatic 65, 3) := by decide +kernel
theorem dX5_kindOf_17 : decode cX5_kindOf 17 = .ok (.invokevirtual 69, 3) := by decide +kernel
theorem dX5_kindOf_20 : decode cX5_kindOf 20 = .ok (.ifCond .eq 5, 3) := by decide +kernel
theorem dX5_kindOf_23 : decode cX5_kindOf 23 = .ok (.iload_n 2, 1) := by decide +kernel
theorem dX5_kindOf_24 : decode cX5_kindOf 24 = .ok (.ireturn, 1) := by decide +kernel
theorem dX5_kindOf_25 : decode cX5_kindOf 25 = .ok (.iinc 2 1, 3) := by decide +kernel
theorem dX5_kindOf_28 : decode cX5_kindOf 28 = .ok (.goto (-26), 3) := by decide +kernel
theorem dX5_kindOf_31 : decode cX5_kindOf 31 = .ok (.iconst (-1), 1) := by decide +kernel
theorem dX5_kindOf_32 : decode cX5_kindOf 32 = .ok (.ireturn, 1) := by decide +kernel
theorem dX5_wordIs_0 : decode cX5_wordIs 0 = .ok (.aload_n 0, 1) := by decide +kernel
theorem dX5_wordIs_1 : decode cX5_wordIs 1 = .ok (.getfield 40, 3) := by decide +kernel
theorem dX5_wordIs_4 : decode cX5_wordIs 4 = .ok (.iload_n 1, 1) := by decide +kernel
theorem dX5_wordIs_5 : decode cX5_wordIs 5 = .ok (.isub, 1) := by decide +kernel
theorem dX5_wordIs_6 : decode cX5_wordIs 6 = .ok (.aload_n 2, 1) := by decide +kernel
theorem dX5_wordIs_7 : decode cX5_wordIs 7 = .ok (.invokevirtual 73, 3) := by decide +kernel
theorem dX5_wordIs_10 : decode cX5_wordIs 10 = .ok (.if_icmp .eq 5, 3) := by decide +kernel
theorem dX5_wordIs_13 : decode cX5_wordIs 13 = .ok (.iconst 0, 1) := by decide +kernel
theorem dX5_wordIs_14 : decode cX5_wordIs 14 = .ok (.ireturn, 1) := by decide +kernel
theorem dX5_wordIs_15 : decode cX5_wordIs 15 = .ok (.iconst 0, 1) := by decide +kernel
theorem dX5_wordIs_16 : decode cX5_wordIs 16 = .ok (.istore_n 3, 1) := by decide +kernel
theorem dX5_wordIs_17 : decode cX5_wordIs 17 = .ok (.iload_n 3, 1) := by decide +kernel
theorem dX5_wordIs_18 : decode cX5_wordIs 18 = .ok (.aload_n 2, 1) := by decide +kernel
theorem dX5_wordIs_19 : decode cX5_wordIs 19 = .ok (.invokevirtual 73, 3) := by decide +kernel
theorem dX5_wordIs_22 : decode cX5_wordIs 22 = .ok (.if_icmp .ge 27, 3) := by decide +kernel
theorem dX5_wordIs_25 : decode cX5_wordIs 25 = .ok (.aload_n 0, 1) := by decide +kernel
theorem dX5_wordIs_26 : decode cX5_wordIs 26 = .ok (.getfield 11, 3) := by decide +kernel
theorem dX5_wordIs_29 : decode cX5_wordIs 29 = .ok (.iload_n 1, 1) := by decide +kernel
theorem dX5_wordIs_30 : decode cX5_wordIs 30 = .ok (.iload_n 3, 1) := by decide +kernel
theorem dX5_wordIs_31 : decode cX5_wordIs 31 = .ok (.iadd, 1) := by decide +kernel
theorem dX5_wordIs_32 : decode cX5_wordIs 32 = .ok (.iaload, 1) := by decide +kernel
theorem dX5_wordIs_33 : decode cX5_wordIs 33 = .ok (.aload_n 2, 1) := by decide +kernel
theorem dX5_wordIs_34 : decode cX5_wordIs 34 = .ok (.iload_n 3, 1) := by decide +kernel
theorem dX5_wordIs_35 : decode cX5_wordIs 35 = .ok (.invokevirtual 78, 3) := by decide +kernel
theorem dX5_wordIs_38 : decode cX5_wordIs 38 = .ok (.if_icmp .eq 5, 3) := by decide +kernel
theorem dX5_wordIs_41 : decode cX5_wordIs 41 = .ok (.iconst 0, 1) := by decide +kernel
theorem dX5_wordIs_42 : decode cX5_wordIs 42 = .ok (.ireturn, 1) := by decide +kernel
theorem dX5_wordIs_43 : decode cX5_wordIs 43 = .ok (.iinc 3 1, 3) := by decide +kernel
theorem dX5_wordIs_46 : decode cX5_wordIs 46 = .ok (.goto (-29), 3) := by decide +kernel
theorem dX5_wordIs_49 : decode cX5_wordIs 49 = .ok (.iconst 1, 1) := by decide +kernel
theorem dX5_wordIs_50 : decode cX5_wordIs 50 = .ok (.ireturn, 1) := by decide +kernel
theorem dX5_wordOf_0 : decode cX5_wordOf 0 = .ok (.iload_n 0, 1) := by decide +kernel
theorem dX5_wordOf_1 : decode cX5_wordOf 1 = .ok (.iconst 4, 1) := by decide +kernel
theorem dX5_wordOf_2 : decode cX5_wordOf 2 = .ok (.imul, 1) := by decide +kernel
theorem dX5_wordOf_3 : decode cX5_wordOf 3 = .ok (.iload_n 1, 1) := by decide +kernel
theorem dX5_wordOf_4 : decode cX5_wordOf 4 = .ok (.iadd, 1) := by decide +kernel
theorem dX5_wordOf_5 : decode cX5_wordOf 5 = .ok (.tableswitch 92 0 10 #[59, 62, 65, 68, 71, 74, 77, 80, 83, 86, 89], 59) := by decide +kernel
theorem dX5_wordOf_64 : decode cX5_wordOf 64 = .ok (.ldc 82, 2) := by decide +kernel
theorem dX5_wordOf_66 : decode cX5_wordOf 66 = .ok (.areturn, 1) := by decide +kernel
theorem dX5_wordOf_67 : decode cX5_wordOf 67 = .ok (.ldc 84, 2) := by decide +kernel
theorem dX5_wordOf_69 : decode cX5_wordOf 69 = .ok (.areturn, 1) := by decide +kernel
theorem dX5_wordOf_70 : decode cX5_wordOf 70 = .ok (.ldc 86, 2) := by decide +kernel
theorem dX5_wordOf_72 : decode cX5_wordOf 72 = .ok (.areturn, 1) := by decide +kernel
theorem dX5_wordOf_73 : decode cX5_wordOf 73 = .ok (.ldc 88, 2) := by decide +kernel
theorem dX5_wordOf_75 : decode cX5_wordOf 75 = .ok (.areturn, 1) := by decide +kernel
theorem dX5_wordOf_76 : decode cX5_wordOf 76 = .ok (.ldc 90, 2) := by decide +kernel
theorem dX5_wordOf_78 : decode cX5_wordOf 78 = .ok (.areturn, 1) := by decide +kernel
theorem dX5_wordOf_79 : decode cX5_wordOf 79 = .ok (.ldc 92, 2) := by decide +kernel
theorem dX5_wordOf_81 : decode cX5_wordOf 81 = .ok (.areturn, 1) := by decide +kernel
theorem dX5_wordOf_82 : decode cX5_wordOf 82 = .ok (.ldc 94, 2) := by decide +kernel
theorem dX5_wordOf_84 : decode cX5_wordOf 84 = .ok (.areturn, 1) := by decide +kernel
theorem dX5_wordOf_85 : decode cX5_wordOf 85 = .ok (.ldc 96, 2) := by decide +kernel
theorem dX5_wordOf_87 : decode cX5_wordOf 87 = .ok (.areturn, 1) := by decide +kernel
theorem dX5_wordOf_88 : decode cX5_wordOf 88 = .ok (.ldc 98, 2) := by decide +kernel
theorem dX5_wordOf_90 : decode cX5_wordOf 90 = .ok (.areturn, 1) := by decide +kernel
theorem dX5_wordOf_91 : decode cX5_wordOf 91 = .ok (.ldc 100, 2) := by decide +kernel
theorem dX5_wordOf_93 : decode cX5_wordOf 93 = .ok (.areturn, 1) := by decide +kernel
theorem dX5_wordOf_94 : decode cX5_wordOf 94 = .ok (.ldc 102, 2) := by decide +kernel
theorem dX5_wordOf_96 : decode cX5_wordOf 96 = .ok (.areturn, 1) := by decide +kernel
theorem dX5_wordOf_97 : decode cX5_wordOf 97 = .ok (.ldc 104, 2) := by decide +kernel
theorem dX5_wordOf_99 : decode cX5_wordOf 99 = .ok (.areturn, 1) := by decide +kernel
theorem dX5_stroked_0 : decode cX5_stroked 0 = .ok (.iload_n 1, 1) := by decide +kernel
theorem dX5_stroked_1 : decode cX5_stroked 1 = .ok (.istore_n 2, 1) := by decide +kernel
theorem dX5_stroked_2 : decode cX5_stroked 2 = .ok (.iconst 0, 1) := by decide +kernel
theorem dX5_stroked_3 : decode cX5_stroked 3 = .ok (.istore_n 3, 1) := by decide +kernel
theorem dX5_stroked_4 : decode cX5_stroked 4 = .ok (.iload_n 3, 1) := by decide +kernel
theorem dX5_stroked_5 : decode cX5_stroked 5 = .ok (.aload_n 0, 1) := by decide +kernel
theorem dX5_stroked_6 : decode cX5_stroked 6 = .ok (.getfield 25, 3) := by decide +kernel
theorem dX5_stroked_9 : decode cX5_stroked 9 = .ok (.if_icmp .ge 111, 3) := by decide +kernel
theorem dX5_stroked_12 : decode cX5_stroked 12 = .ok (.iload_n 3, 1) := by decide +kernel
theorem dX5_stroked_13 : decode cX5_stroked 13 = .ok (.iconst 5, 1) := by decide +kernel
theorem dX5_stroked_14 : decode cX5_stroked 14 = .ok (.imul, 1) := by decide +kernel
theorem dX5_stroked_15 : decode cX5_stroked 15 = .ok (.istore 4, 2) := by decide +kernel
theorem dX5_stroked_17 : decode cX5_stroked 17 = .ok (.aload_n 0, 1) := by decide +kernel
theorem dX5_stroked_18 : decode cX5_stroked 18 = .ok (.getfield 22, 3) := by decide +kernel
theorem dX5_stroked_21 : decode cX5_stroked 21 = .ok (.iload 4, 2) := by decide +kernel
theorem dX5_stroked_23 : decode cX5_stroked 23 = .ok (.iaload, 1) := by decide +kernel
theorem dX5_stroked_24 : decode cX5_stroked 24 = .ok (.istore 5, 2) := by decide +kernel
theorem dX5_stroked_26 : decode cX5_stroked 26 = .ok (.iload 5, 2) := by decide +kernel
theorem dX5_stroked_28 : decode cX5_stroked 28 = .ok (.iconst 2, 1) := by decide +kernel
theorem dX5_stroked_29 : decode cX5_stroked 29 = .ok (.if_icmp .ne 11, 3) := by decide +kernel
theorem dX5_stroked_32 : decode cX5_stroked 32 = .ok (.iload_n 2, 1) := by decide +kernel
theorem dX5_stroked_33 : decode cX5_stroked 33 = .ok (.invokestatic 106, 3) := by decide +kernel
theorem dX5_stroked_36 : decode cX5_stroked 36 = .ok (.istore_n 2, 1) := by decide +kernel
theorem dX5_stroked_37 : decode cX5_stroked 37 = .ok (.goto 77, 3) := by decide +kernel
theorem dX5_stroked_40 : decode cX5_stroked 40 = .ok (.iload 5, 2) := by decide +kernel
theorem dX5_stroked_42 : decode cX5_stroked 42 = .ok (.iconst 3, 1) := by decide +kernel
theorem dX5_stroked_43 : decode cX5_stroked 43 = .ok (.if_icmp .ne 11, 3) := by decide +kernel
theorem dX5_stroked_46 : decode cX5_stroked 46 = .ok (.iload_n 2, 1) := by decide +kernel
theorem dX5_stroked_47 : decode cX5_stroked 47 = .ok (.invokestatic 111, 3) := by decide +kernel
theorem dX5_stroked_50 : decode cX5_stroked 50 = .ok (.istore_n 2, 1) := by decide +kernel
theorem dX5_stroked_51 : decode cX5_stroked 51 = .ok (.goto 63, 3) := by decide +kernel
theorem dX5_stroked_54 : decode cX5_stroked 54 = .ok (.aload_n 0, 1) := by decide +kernel
theorem dX5_stroked_55 : decode cX5_stroked 55 = .ok (.getfield 22, 3) := by decide +kernel
theorem dX5_stroked_58 : decode cX5_stroked 58 = .ok (.iload 4, 2) := by decide +kernel
theorem dX5_stroked_60 : decode cX5_stroked 60 = .ok (.iconst 1, 1) := by decide +kernel
theorem dX5_stroked_61 : decode cX5_stroked 61 = .ok (.iadd, 1) := by decide +kernel
theorem dX5_stroked_62 : decode cX5_stroked 62 = .ok (.iaload, 1) := by decide +kernel
theorem dX5_stroked_63 : decode cX5_stroked 63 = .ok (.aload_n 0, 1) := by decide +kernel
theorem dX5_stroked_64 : decode cX5_stroked 64 = .ok (.getfield 22, 3) := by decide +kernel
theorem dX5_stroked_67 : decode cX5_stroked 67 = .ok (.iload 4, 2) := by decide +kernel
theorem dX5_stroked_69 : decode cX5_stroked 69 = .ok (.iconst 2, 1) := by decide +kernel
theorem dX5_stroked_70 : decode cX5_stroked 70 = .ok (.iadd, 1) := by decide +kernel
theorem dX5_stroked_71 : decode cX5_stroked 71 = .ok (.iaload, 1) := by decide +kernel
theorem dX5_stroked_72 : decode cX5_stroked 72 = .ok (.aload_n 0, 1) := by decide +kernel
theorem dX5_stroked_73 : decode cX5_stroked 73 = .ok (.getfield 22, 3) := by decide +kernel
theorem dX5_stroked_76 : decode cX5_stroked 76 = .ok (.iload 4, 2) := by decide +kernel
theorem dX5_stroked_78 : decode cX5_stroked 78 = .ok (.iconst 3, 1) := by decide +kernel
theorem dX5_stroked_79 : decode cX5_stroked 79 = .ok (.iadd, 1) := by decide +kernel
theorem dX5_stroked_80 : decode cX5_stroked 80 = .ok (.iaload, 1) := by decide +kernel
theorem dX5_stroked_81 : decode cX5_stroked 81 = .ok (.aload_n 0, 1) := by decide +kernel
theorem dX5_stroked_82 : decode cX5_stroked 82 = .ok (.getfield 22, 3) := by decide +kernel
theorem dX5_stroked_85 : decode cX5_stroked 85 = .ok (.iload 4, 2) := by decide +kernel
theorem dX5_stroked_87 : decode cX5_stroked 87 = .ok (.iconst 4, 1) := by decide +kernel
theorem dX5_stroked_88 : decode cX5_stroked 88 = .ok (.iadd, 1) := by decide +kernel
theorem dX5_stroked_89 : decode cX5_stroked 89 = .ok (.iaload, 1) := by decide +kernel
theorem dX5_stroked_90 : decode cX5_stroked 90 = .ok (.invokestatic 114, 3) := by decide +kernel
theorem dX5_stroked_93 : decode cX5_stroked 93 = .ok (.istore 6, 2) := by decide +kernel
theorem dX5_stroked_95 : decode cX5_stroked 95 = .ok (.iload 5, 2) := by decide +kernel
theorem dX5_stroked_97 : decode cX5_stroked 97 = .ok (.ifCond .ne 12, 3) := by decide +kernel
theorem dX5_stroked_100 : decode cX5_stroked 100 = .ok (.iload_n 2, 1) := by decide +kernel
theorem dX5_stroked_101 : decode cX5_stroked 101 = .ok (.iload 6, 2) := by decide +kernel
theorem dX5_stroked_103 : decode cX5_stroked 103 = .ok (.iconst (-1), 1) := by decide +kernel
theorem dX5_stroked_104 : decode cX5_stroked 104 = .ok (.ixor, 1) := by decide +kernel
theorem dX5_stroked_105 : decode cX5_stroked 105 = .ok (.iand, 1) := by decide +kernel
theorem dX5_stroked_106 : decode cX5_stroked 106 = .ok (.goto 7, 3) := by decide +kernel
theorem dX5_stroked_109 : decode cX5_stroked 109 = .ok (.iload_n 2, 1) := by decide +kernel
theorem dX5_stroked_110 : decode cX5_stroked 110 = .ok (.iload 6, 2) := by decide +kernel
theorem dX5_stroked_112 : decode cX5_stroked 112 = .ok (.ior, 1) := by decide +kernel
theorem dX5_stroked_113 : decode cX5_stroked 113 = .ok (.istore_n 2, 1) := by decide +kernel
theorem dX5_stroked_114 : decode cX5_stroked 114 = .ok (.iinc 3 1, 3) := by decide +kernel
theorem dX5_stroked_117 : decode cX5_stroked 117 = .ok (.goto (-113), 3) := by decide +kernel
theorem dX5_stroked_120 : decode cX5_stroked 120 = .ok (.iload_n 2, 1) := by decide +kernel
theorem dX5_stroked_121 : decode cX5_stroked 121 = .ok (.ireturn, 1) := by decide +kernel
theorem dX6_init_0 : decode cX6_init 0 = .ok (.aload_n 0, 1) := by decide +kernel
theorem dX6_init_1 : decode cX6_init 1 = .ok (.invokespecial 3, 3) := by decide +kernel
theorem dX6_init_4 : decode cX6_init 4 = .ok (.aload_n 0, 1) := by decide +kernel
theorem dX6_init_5 : decode cX6_init 5 = .ok (.sipush 1024, 3) := by decide +kernel
theorem dX6_init_8 : decode cX6_init 8 = .ok (.newarray .int, 2) := by decide +kernel
theorem dX6_init_10 : decode cX6_init 10 = .ok (.putfield 9, 3) := by decide +kernel
theorem dX6_init_13 : decode cX6_init 13 = .ok (.aload_n 0, 1) := by decide +kernel
theorem dX6_init_14 : decode cX6_init 14 = .ok (.bipush 64, 2) := by decide +kernel
theorem dX6_init_16 : decode cX6_init 16 = .ok (.newarray .int, 2) := by decide +kernel
theorem dX6_init_18 : decode cX6_init 18 = .ok (.putfield 15, 3) := by decide +kernel
theorem dX6_init_21 : decode cX6_init 21 = .ok (.aload_n 0, 1) := by decide +kernel
theorem dX6_init_22 : decode cX6_init 22 = .ok (.iconst 0, 1) := by decide +kernel
theorem dX6_init_23 : decode cX6_init 23 = .ok (.putfield 18, 3) := by decide +kernel
theorem dX6_init_26 : decode cX6_init 26 = .ok (.return_, 1) := by decide +kernel
theorem dX6_plan_0 : decode cX6_plan 0 = .ok (.aload_n 0, 1) := by decide +kernel
theorem dX6_plan_1 : decode cX6_plan 1 = .ok (.aload_n 1, 1) := by decide +kernel
theorem dX6_plan_2 : decode cX6_plan 2 = .ok (.getfield 22, 3) := by decide +kernel
theorem dX6_plan_5 : decode cX6_plan 5 = .ok (.putfield 18, 3) := by decide +kernel
theorem dX6_plan_8 : decode cX6_plan 8 = .ok (.iconst 0, 1) := by decide +kernel
theorem dX6_plan_9 : decode cX6_plan 9 = .ok (.istore_n 2, 1) := by decide +kernel
theorem dX6_plan_10 : decode cX6_plan 10 = .ok (.iload_n 2, 1) := by decide +kernel
theorem dX6_plan_11 : decode cX6_plan 11 = .ok (.aload_n 0, 1) := by decide +kernel
theorem dX6_plan_12 : decode cX6_plan 12 = .ok (.getfield 18, 3) := by decide +kernel
theorem dX6_plan_15 : decode cX6_plan 15 = .ok (.if_icmp .ge 42, 3) := by decide +kernel
theorem dX6_plan_18 : decode cX6_plan 18 = .ok (.iconst 0, 1) := by decide +kernel
theorem dX6_plan_19 : decode cX6_plan 19 = .ok (.istore_n 3, 1) := by decide +kernel
theorem dX6_plan_20 : decode cX6_plan 20 = .ok (.iload_n 3, 1) := by decide +kernel
theorem dX6_plan_21 : decode cX6_plan 21 = .ok (.aload_n 0, 1) := by decide +kernel
theorem dX6_plan_22 : decode cX6_plan 22 = .ok (.getfield 18, 3) := by decide +kernel
theorem dX6_plan_25 : decode cX6_plan 25 = .ok (.if_icmp .ge 26, 3) := by decide +kernel
theorem dX6_plan_28 : decode cX6_plan 28 = .ok (.aload_n 0, 1) := by decide +kernel
theorem dX6_plan_29 : decode cX6_plan 29 = .ok (.getfield 15, 3) := by decide +kernel
theorem dX6_plan_32 : decode cX6_plan 32 = .ok (.iload_n 2, 1) := by decide +kernel
theorem dX6_plan_33 : decode cX6_plan 33 = .ok (.bipush 8, 2) := by decide +kernel
theorem dX6_plan_35 : decode cX6_plan 35 = .ok (.imul, 1) := by decide +kernel
theorem dX6_plan_36 : decode cX6_plan 36 = .ok (.iload_n 3, 1) := by decide +kernel
theorem dX6_plan_37 : decode cX6_plan 37 = .ok (.iadd, 1) := by decide +kernel
theorem dX6_plan_38 : decode cX6_plan 38 = .ok (.aload_n 1, 1) := by decide +kernel
theorem dX6_plan_39 : decode cX6_plan 39 = .ok (.iload_n 2, 1) := by decide +kernel
theorem dX6_plan_40 : decode cX6_plan 40 = .ok (.iload_n 3, 1) := by decide +kernel
theorem dX6_plan_41 : decode cX6_plan 41 = .ok (.invokevirtual 25, 3) := by decide +kernel
theorem dX6_plan_44 : decode cX6_plan 44 = .ok (.iastore, 1) := by decide +kernel
theorem dX6_plan_45 : decode cX6_plan 45 = .ok (.iinc 3 1, 3) := by decide +kernel
theorem dX6_plan_48 : decode cX6_plan 48 = .ok (.goto (-28), 3) := by decide +kernel
theorem dX6_plan_51 : decode cX6_plan 51 = .ok (.iinc 2 1, 3) := by decide +kernel
theorem dX6_plan_54 : decode cX6_plan 54 = .ok (.goto (-44), 3) := by decide +kernel
theorem dX6_plan_57 : decode cX6_plan 57 = .ok (.aload_n 0, 1) := by decide +kernel
theorem dX6_plan_58 : decode cX6_plan 58 = .ok (.getfield 18, 3) := by decide +kernel
theorem dX6_plan_61 : decode cX6_plan 61 = .ok (.ifCond .ne 7, 3) := by decide +kernel
theorem dX6_plan_64 : decode cX6_plan 64 = .ok (.iconst 0, 1) := by decide +kernel
theorem dX6_plan_65 : decode cX6_plan 65 = .ok (.goto 13, 3) := by decide +kernel
theorem dX6_plan_68 : decode cX6_plan 68 = .ok (.iconst 1, 1) := by decide +kernel
theorem dX6_plan_69 : decode cX6_plan 69 = .ok (.aload_n 0, 1) := by decide +kernel
theorem dX6_plan_70 : decode cX6_plan 70 = .ok (.getfield 18, 3) := by decide +kernel
theorem dX6_plan_73 : decode cX6_plan 73 = .ok (.iconst 1, 1) := by decide +kernel
theorem dX6_plan_74 : decode cX6_plan 74 = .ok (.isub, 1) := by decide +kernel
theorem dX6_plan_75 : decode cX6_plan 75 = .ok (.ishl, 1) := by decide +kernel
theorem dX6_plan_76 : decode cX6_plan 76 = .ok (.iconst 1, 1) := by decide +kernel
theorem dX6_plan_77 : decode cX6_plan 77 = .ok (.isub, 1) := by decide +kernel
theorem dX6_plan_78 : decode cX6_plan 78 = .ok (.istore_n 2, 1) := by decide +kernel
theorem dX6_plan_79 : decode cX6_plan 79 = .ok (.iload_n 2, 1) := by decide +kernel
theorem dX6_plan_80 : decode cX6_plan 80 = .ok (.istore_n 3, 1) := by decide +kernel
theorem dX6_plan_81 : decode cX6_plan 81 = .ok (.iload_n 3, 1) := by decide +kernel
theorem dX6_plan_82 : decode cX6_plan 82 = .ok (.ifCond .lt 65, 3) := by decide +kernel
theorem dX6_plan_85 : decode cX6_plan 85 = .ok (.iconst 0, 1) := by decide +kernel
theorem dX6_plan_86 : decode cX6_plan 86 = .ok (.istore 4, 2) := by decide +kernel
theorem dX6_plan_88 : decode cX6_plan 88 = .ok (.iload 4, 2) := by decide +kernel
theorem dX6_plan_90 : decode cX6_plan 90 = .ok (.bipush 8, 2) := by decide +kernel
theorem dX6_plan_92 : decode cX6_plan 92 = .ok (.if_icmp .ge 49, 3) := by decide +kernel
theorem dX6_plan_95 : decode cX6_plan 95 = .ok (.aload_n 0, 1) := by decide +kernel
theorem dX6_plan_96 : decode cX6_plan 96 = .ok (.iload_n 3, 1) := by decide +kernel
theorem dX6_plan_97 : decode cX6_plan 97 = .ok (.iload 4, 2) := by decide +kernel
theorem dX6_plan_99 : decode cX6_plan 99 = .ok (.invokevirtual 29, 3) := by decide +kernel
theorem dX6_plan_102 : decode cX6_plan 102 = .ok (.istore 5, 2) := by decide +kernel
theorem dX6_plan_104 : decode cX6_plan 104 = .ok (.aload_n 0, 1) := by decide +kernel
theorem dX6_plan_105 : decode cX6_plan 105 = .ok (.getfield 9, 3) := by decide +kernel
theorem dX6_plan_108 : decode cX6_plan 108 = .ok (.iload_n 3, 1) := by decide +kernel
theorem dX6_plan_109 : decode cX6_plan 109 = .ok (.bipush 8, 2) := by decide +kernel
theorem dX6_plan_111 : decode cX6_plan 111 = .ok (.imul, 1) := by decide +kernel
theorem dX6_plan_112 : decode cX6_plan 112 = .ok (.iload 4, 2) := by decide +kernel
theorem dX6_plan_114 : decode cX6_plan 114 = .ok (.iadd, 1) := by decide +kernel
theorem dX6_plan_115 : decode cX6_plan 115 = .ok (.iload 5, 2) := by decide +kernel
theorem dX6_plan_117 : decode cX6_plan 117 = .ok (.iconst (-1), 1) := by decide +kernel
theorem dX6_plan_118 : decode cX6_plan 118 = .ok (.if_icmp .ne 7, 3) := by decide +kernel
theorem dX6_plan_121 : decode cX6_plan 121 = .ok (.iconst 0, 1) := by decide +kernel
theorem dX6_plan_122 : decode cX6_plan 122 = .ok (.goto 12, 3) := by decide +kernel
theorem dX6_plan_125 : decode cX6_plan 125 = .ok (.aload_n 0, 1) := by decide +kernel
theorem dX6_plan_126 : decode cX6_plan 126 = .ok (.iload_n 3, 1) := by decide +kernel
theorem dX6_plan_127 : decode cX6_plan 127 = .ok (.iload 4, 2) := by decide +kernel
theorem dX6_plan_129 : decode cX6_plan 129 = .ok (.iload 5, 2) := by decide +kernel
theorem dX6_plan_131 : decode cX6_plan 131 = .ok (.invokevirtual 32, 3) := by decide +kernel
theorem dX6_plan_134 : decode cX6_plan 134 = .ok (.iastore, 1) := by decide +kernel
theorem dX6_plan_135 : decode cX6_plan 135 = .ok (.iinc 4 1, 3) := by decide +kernel
theorem dX6_plan_138 : decode cX6_plan 138 = .ok (.goto (-50), 3) := by decide +kernel
theorem dX6_plan_141 : decode cX6_plan 141 = .ok (.iinc 3 (-1), 3) := by decide +kernel
theorem dX6_plan_144 : decode cX6_plan 144 = .ok (.goto (-63), 3) := by decide +kernel
theorem dX6_plan_147 : decode cX6_plan 147 = .ok (.return_, 1) := by decide +kernel
theorem dX6_through_0 : decode cX6_through 0 = .ok (.iload_n 1, 1) := by decide +kernel
theorem dX6_through_1 : decode cX6_through 1 = .ok (.iconst 1, 1) := by decide +kernel
theorem dX6_through_2 : decode cX6_through 2 = .ok (.iload_n 3, 1) := by decide +kernel
theorem dX6_through_3 : decode cX6_through 3 = .ok (.iconst 1, 1) := by decide +kernel
theorem dX6_through_4 : decode cX6_through 4 = .ok (.isub, 1) := by decide +kernel
theorem dX6_through_5 : decode cX6_through 5 = .ok (.ishl, 1) := by decide +kernel
theorem dX6_through_6 : decode cX6_through 6 = .ok (.ior, 1) := by decide +kernel
theorem dX6_through_7 : decode cX6_through 7 = .ok (.istore 4, 2) := by decide +kernel
theorem dX6_through_9 : decode cX6_through 9 = .ok (.aload_n 0, 1) := by decide +kernel
theorem dX6_through_10 : decode cX6_through 10 = .ok (.getfield 15, 3) := by decide +kernel
theorem dX6_through_13 : decode cX6_through 13 = .ok (.iload_n 2, 1) := by decide +kernel
theorem dX6_through_14 : decode cX6_through 14 = .ok (.bipush 8, 2) := by decide +kernel
theorem dX6_through_16 : decode cX6_through 16 = .ok (.imul, 1) := by decide +kernel
theorem dX6_through_17 : decode cX6_through 17 = .ok (.iload_n 3, 1) := by decide +kernel
theorem dX6_through_18 : decode cX6_through 18 = .ok (.iadd, 1) := by decide +kernel
theorem dX6_through_19 : decode cX6_through 19 = .ok (.iaload, 1) := by decide +kernel
theorem dX6_through_20 : decode cX6_through 20 = .ok (.aload_n 0, 1) := by decide +kernel
theorem dX6_through_21 : decode cX6_through 21 = .ok (.getfield 9, 3) := by decide +kernel
theorem dX6_through_24 : decode cX6_through 24 = .ok (.iload 4, 2) := by decide +kernel
theorem dX6_through_26 : decode cX6_through 26 = .ok (.bipush 8, 2) := by decide +kernel
theorem dX6_through_28 : decode cX6_through 28 = .ok (.imul, 1) := by decide +kernel
theorem dX6_through_29 : decode cX6_through 29 = .ok (.iload_n 3, 1) := by decide +kernel
theorem dX6_through_30 : decode cX6_through 30 = .ok (.iadd, 1) := by decide +kernel
theorem dX6_through_31 : decode cX6_through 31 = .ok (.iaload, 1) := by decide +kernel
theorem dX6_through_32 : decode cX6_through 32 = .ok (.iadd, 1) := by decide +kernel
theorem dX6_through_33 : decode cX6_through 33 = .ok (.ireturn, 1) := by decide +kernel
theorem dX6_nextStop_0 : decode cX6_nextStop 0 = .ok (.iconst (-1), 1) := by decide +kernel
theorem dX6_nextStop_1 : decode cX6_nextStop 1 = .ok (.istore_n 3, 1) := by decide +kernel
theorem dX6_nextStop_2 : decode cX6_nextStop 2 = .ok (.ldc 36, 2) := by decide +kernel
theorem dX6_nextStop_4 : decode cX6_nextStop 4 = .ok (.istore 4, 2) := by decide +kernel
theorem dX6_nextStop_6 : decode cX6_nextStop 6 = .ok (.iconst 1, 1) := by decide +kernel
theorem dX6_nextStop_7 : decode cX6_nextStop 7 = .ok (.istore 5, 2) := by decide +kernel
theorem dX6_nextStop_9 : decode cX6_nextStop 9 = .ok (.iload 5, 2) := by decide +kernel
theorem dX6_nextStop_11 : decode cX6_nextStop 11 = .ok (.aload_n 0, 1) := by decide +kernel
theorem dX6_nextStop_12 : decode cX6_nextStop 12 = .ok (.getfield 18, 3) := by decide +kernel
theorem dX6_nextStop_15 : decode cX6_nextStop 15 = .ok (.if_icmp .ge 44, 3) := by decide +kernel
theorem dX6_nextStop_18 : decode cX6_nextStop 18 = .ok (.iload_n 1, 1) := by decide +kernel
theorem dX6_nextStop_19 : decode cX6_nextStop 19 = .ok (.iload 5, 2) := by decide +kernel
theorem dX6_nextStop_21 : decode cX6_nextStop 21 = .ok (.iconst 1, 1) := by decide +kernel
theorem dX6_nextStop_22 : decode cX6_nextStop 22 = .ok (.isub, 1) := by decide +kernel
theorem dX6_nextStop_23 : decode cX6_nextStop 23 = .ok (.ishr, 1) := by decide +kernel
theorem dX6_nextStop_24 : decode cX6_nextStop 24 = .ok (.iconst 1, 1) := by decide +kernel
theorem dX6_nextStop_25 : decode cX6_nextStop 25 = .ok (.iand, 1) := by decide +kernel
theorem dX6_nextStop_26 : decode cX6_nextStop 26 = .ok (.ifCond .ne 27, 3) := by decide +kernel
theorem dX6_nextStop_29 : decode cX6_nextStop 29 = .ok (.aload_n 0, 1) := by decide +kernel
theorem dX6_nextStop_30 : decode cX6_nextStop 30 = .ok (.iload_n 1, 1) := by decide +kernel
theorem dX6_nextStop_31 : decode cX6_nextStop 31 = .ok (.iload_n 2, 1) := by decide +kernel
theorem dX6_nextStop_32 : decode cX6_nextStop 32 = .ok (.iload 5, 2) := by decide +kernel
theorem dX6_nextStop_34 : decode cX6_nextStop 34 = .ok (.invokevirtual 32, 3) := by decide +kernel
theorem dX6_nextStop_37 : decode cX6_nextStop 37 = .ok (.istore 6, 2) := by decide +kernel
theorem dX6_nextStop_39 : decode cX6_nextStop 39 = .ok (.iload 6, 2) := by decide +kernel
theorem dX6_nextStop_41 : decode cX6_nextStop 41 = .ok (.iload 4, 2) := by decide +kernel
theorem dX6_nextStop_43 : decode cX6_nextStop 43 = .ok (.if_icmp .ge 10, 3) := by decide +kernel
theorem dX6_nextStop_46 : decode cX6_nextStop 46 = .ok (.iload 6, 2) := by decide +kernel
theorem dX6_nextStop_48 : decode cX6_nextStop 48 = .ok (.istore 4, 2) := by decide +kernel
theorem dX6_nextStop_50 : decode cX6_nextStop 50 = .ok (.iload 5, 2) := by decide +kernel
theorem dX6_nextStop_52 : decode cX6_nextStop 52 = .ok (.istore_n 3, 1) := by decide +kernel
theorem dX6_nextStop_53 : decode cX6_nextStop 53 = .ok (.iinc 5 1, 3) := by decide +kernel
theorem dX6_nextStop_56 : decode cX6_nextStop 56 = .ok (.goto (-47), 3) := by decide +kernel
theorem dX6_nextStop_59 : decode cX6_nextStop 59 = .ok (.iload_n 3, 1) := by decide +kernel
theorem dX6_nextStop_60 : decode cX6_nextStop 60 = .ok (.ireturn, 1) := by decide +kernel
theorem dX6_length_0 : decode cX6_length 0 = .ok (.aload_n 0, 1) := by decide +kernel
theorem dX6_length_1 : decode cX6_length 1 = .ok (.getfield 9, 3) := by decide +kernel
theorem dX6_length_4 : decode cX6_length 4 = .ok (.iconst 0, 1) := by decide +kernel
theorem dX6_length_5 : decode cX6_length 5 = .ok (.iaload, 1) := by decide +kernel
theorem dX6_length_6 : decode cX6_length 6 = .ok (.ireturn, 1) := by decide +kernel
theorem dX6_stop_0 : decode cX6_stop 0 = .ok (.iconst 0, 1) := by decide +kernel
theorem dX6_stop_1 : decode cX6_stop 1 = .ok (.istore_n 2, 1) := by decide +kernel
theorem dX6_stop_2 : decode cX6_stop 2 = .ok (.iconst 0, 1) := by decide +kernel
theorem dX6_stop_3 : decode cX6_stop 3 = .ok (.istore_n 3, 1) := by decide +kernel
theorem dX6_stop_4 : decode cX6_stop 4 = .ok (.iconst 0, 1) := by decide +kernel
theorem dX6_stop_5 : decode cX6_stop 5 = .ok (.istore 4, 2) := by decide +kernel
theorem dX6_stop_7 : decode cX6_stop 7 = .ok (.iload 4, 2) := by decide +kernel
theorem dX6_stop_9 : decode cX6_stop 9 = .ok (.iload_n 1, 1) := by decide +kernel
theorem dX6_stop_10 : decode cX6_stop 10 = .ok (.if_icmp .ge 34, 3) := by decide +kernel
theorem dX6_stop_13 : decode cX6_stop 13 = .ok (.iload_n 3, 1) := by decide +kernel
theorem dX6_stop_14 : decode cX6_stop 14 = .ok (.iconst (-1), 1) := by decide +kernel
theorem dX6_stop_15 : decode cX6_stop 15 = .ok (.if_icmp .eq 29, 3) := by decide +kernel
theorem dX6_stop_18 : decode cX6_stop 18 = .ok (.aload_n 0, 1) := by decide +kernel
theorem dX6_stop_19 : decode cX6_stop 19 = .ok (.iload_n 2, 1) := by decide +kernel
theorem dX6_stop_20 : decode cX6_stop 20 = .ok (.iload_n 3, 1) := by decide +kernel
theorem dX6_stop_21 : decode cX6_stop 21 = .ok (.invokevirtual 29, 3) := by decide +kernel
theorem dX6_stop_24 : decode cX6_stop 24 = .ok (.istore_n 3, 1) := by decide +kernel
theorem dX6_stop_25 : decode cX6_stop 25 = .ok (.iload_n 3, 1) := by decide +kernel
theorem dX6_stop_26 : decode cX6_stop 26 = .ok (.iconst (-1), 1) := by decide +kernel
theorem dX6_stop_27 : decode cX6_stop 27 = .ok (.if_icmp .eq 11, 3) := by decide +kernel
theorem dX6_stop_30 : decode cX6_stop 30 = .ok (.iload_n 2, 1) := by decide +kernel
theorem dX6_stop_31 : decode cX6_stop 31 = .ok (.iconst 1, 1) := by decide +kernel
theorem dX6_stop_32 : decode cX6_stop 32 = .ok (.iload_n 3, 1) := by decide +kernel
theorem dX6_stop_33 : decode cX6_stop 33 = .ok (.iconst 1, 1) := by decide +kernel
theorem dX6_stop_34 : decode cX6_stop 34 = .ok (.isub, 1) := by decide +kernel
theorem dX6_stop_35 : decode cX6_stop 35 = .ok (.ishl, 1) := by decide +kernel
theorem dX6_stop_36 : decode cX6_stop 36 = .ok (.ior, 1) := by decide +kernel
theorem dX6_stop_37 : decode cX6_stop 37 = .ok (.istore_n 2, 1) := by decide +kernel
theorem dX6_stop_38 : decode cX6_stop 38 = .ok (.iinc 4 1, 3) := by decide +kernel
theorem dX6_stop_41 : decode cX6_stop 41 = .ok (.goto (-34), 3) := by decide +kernel
theorem dX6_stop_44 : decode cX6_stop 44 = .ok (.iload_n 3, 1) := by decide +kernel
theorem dX6_stop_45 : decode cX6_stop 45 = .ok (.ireturn, 1) := by decide +kernel
theorem dX7_init_0 : decode cX7_init 0 = .ok (.aload_n 0, 1) := by decide +kernel
theorem dX7_init_1 : decode cX7_init 1 = .ok (.invokespecial 1, 3) := by decide +kernel
theorem dX7_init_4 : decode cX7_init 4 = .ok (.aload_n 0, 1) := by decide +kernel
theorem dX7_init_5 : decode cX7_init 5 = .ok (.new 7, 3) := by decide +kernel
theorem dX7_init_8 : decode cX7_init 8 = .ok (.dup, 1) := by decide +kernel
theorem dX7_init_9 : decode cX7_init 9 = .ok (.invokespecial 9, 3) := by decide +kernel
theorem dX7_init_12 : decode cX7_init 12 = .ok (.putfield 10, 3) := by decide +kernel
theorem dX7_init_15 : decode cX7_init 15 = .ok (.aload_n 0, 1) := by decide +kernel
theorem dX7_init_16 : decode cX7_init 16 = .ok (.new 16, 3) := by decide +kernel
theorem dX7_init_19 : decode cX7_init 19 = .ok (.dup, 1) := by decide +kernel
theorem dX7_init_20 : decode cX7_init 20 = .ok (.invokespecial 18, 3) := by decide +kernel
theorem dX7_init_23 : decode cX7_init 23 = .ok (.putfield 19, 3) := by decide +kernel
theorem dX7_init_26 : decode cX7_init 26 = .ok (.aload_n 0, 1) := by decide +kernel
theorem dX7_init_27 : decode cX7_init 27 = .ok (.new 16, 3) := by decide +kernel
theorem dX7_init_30 : decode cX7_init 30 = .ok (.dup, 1) := by decide +kernel
theorem dX7_init_31 : decode cX7_init 31 = .ok (.invokespecial 18, 3) := by decide +kernel
theorem dX7_init_34 : decode cX7_init 34 = .ok (.putfield 23, 3) := by decide +kernel
theorem dX7_init_37 : decode cX7_init 37 = .ok (.aload_n 0, 1) := by decide +kernel
theorem dX7_init_38 : decode cX7_init 38 = .ok (.new 26, 3) := by decide +kernel
theorem dX7_init_41 : decode cX7_init 41 = .ok (.dup, 1) := by decide +kernel
theorem dX7_init_42 : decode cX7_init 42 = .ok (.aload_n 0, 1) := by decide +kernel
theorem dX7_init_43 : decode cX7_init 43 = .ok (.getfield 19, 3) := by decide +kernel
theorem dX7_init_46 : decode cX7_init 46 = .ok (.invokespecial 28, 3) := by decide +kernel
theorem dX7_init_49 : decode cX7_init 49 = .ok (.putfield 31, 3) := by decide +kernel
theorem dX7_init_52 : decode cX7_init 52 = .ok (.aload_n 0, 1) := by decide +kernel
theorem dX7_init_53 : decode cX7_init 53 = .ok (.new 35, 3) := by decide +kernel
theorem dX7_init_56 : decode cX7_init 56 = .ok (.dup, 1) := by decide +kernel
theorem dX7_init_57 : decode cX7_init 57 = .ok (.aload_n 0, 1) := by decide +kernel
theorem dX7_init_58 : decode cX7_init 58 = .ok (.getfield 19, 3) := by decide +kernel
theorem dX7_init_61 : decode cX7_init 61 = .ok (.aload_n 0, 1) := by decide +kernel
theorem dX7_init_62 : decode cX7_init 62 = .ok (.getfield 31, 3) := by decide +kernel
theorem dX7_init_65 : decode cX7_init 65 = .ok (.invokespecial 37, 3) := by decide +kernel
theorem dX7_init_68 : decode cX7_init 68 = .ok (.putfield 40, 3) := by decide +kernel
theorem dX7_init_71 : decode cX7_init 71 = .ok (.aload_n 0, 1) := by decide +kernel
theorem dX7_init_72 : decode cX7_init 72 = .ok (.new 44, 3) := by decide +kernel
theorem dX7_init_75 : decode cX7_init 75 = .ok (.dup, 1) := by decide +kernel
theorem dX7_init_76 : decode cX7_init 76 = .ok (.invokespecial 46, 3) := by decide +kernel
theorem dX7_init_79 : decode cX7_init 79 = .ok (.putfield 47, 3) := by decide +kernel
theorem dX7_init_82 : decode cX7_init 82 = .ok (.aload_n 0, 1) := by decide +kernel
theorem dX7_init_83 : decode cX7_init 83 = .ok (.iconst 0, 1) := by decide +kernel
theorem dX7_init_84 : decode cX7_init 84 = .ok (.putfield 51, 3) := by decide +kernel
theorem dX7_init_87 : decode cX7_init 87 = .ok (.return_, 1) := by decide +kernel
theorem dX7_feed_0 : decode cX7_feed 0 = .ok (.aload_n 0, 1) := by decide +kernel
theorem dX7_feed_1 : decode cX7_feed 1 = .ok (.getfield 10, 3) := by decide +kernel
theorem dX7_feed_4 : decode cX7_feed 4 = .ok (.getfield 55, 3) := by decide +kernel
theorem dX7_feed_7 : decode cX7_feed 7 = .ok (.sipush 380, 3) := by decide +kernel
theorem dX7_feed_10 : decode cX7_feed 10 = .ok (.if_icmp .le 5, 3) := by decide +kernel
theorem dX7_feed_13 : decode cX7_feed 13 = .ok (.iconst (-1), 1) := by decide +kernel
theorem dX7_feed_14 : decode cX7_feed 14 = .ok (.ireturn, 1) := by decide +kernel
theorem dX7_feed_15 : decode cX7_feed 15 = .ok (.aload_n 0, 1) := by decide +kernel
theorem dX7_feed_16 : decode cX7_feed 16 = .ok (.getfield 10, 3) := by decide +kernel
theorem dX7_feed_19 : decode cX7_feed 19 = .ok (.iload_n 1, 1) := by decide +kernel
theorem dX7_feed_20 : decode cX7_feed 20 = .ok (.invokevirtual 59, 3) := by decide +kernel
theorem dX7_feed_23 : decode cX7_feed 23 = .ok (.aload_n 0, 1) := by decide +kernel
theorem dX7_feed_24 : decode cX7_feed 24 = .ok (.getfield 10, 3) := by decide +kernel
theorem dX7_feed_27 : decode cX7_feed 27 = .ok (.iload_n 2, 1) := by decide +kernel
theorem dX7_feed_28 : decode cX7_feed 28 = .ok (.invokevirtual 59, 3) := by decide +kernel
theorem dX7_feed_31 : decode cX7_feed 31 = .ok (.aload_n 0, 1) := by decide +kernel
theorem dX7_feed_32 : decode cX7_feed 32 = .ok (.getfield 10, 3) := by decide +kernel
theorem dX7_feed_35 : decode cX7_feed 35 = .ok (.iload_n 3, 1) := by decide +kernel
theorem dX7_feed_36 : decode cX7_feed 36 = .ok (.invokevirtual 59, 3) := by decide +kernel
theorem dX7_feed_39 : decode cX7_feed 39 = .ok (.aload_n 0, 1) := by decide +kernel
theorem dX7_feed_40 : decode cX7_feed 40 = .ok (.getfield 10, 3) := by decide +kernel
theorem dX7_feed_43 : decode cX7_feed 43 = .ok (.iload 4, 2) := by decide +kernel
theorem dX7_feed_45 : decode cX7_feed 45 = .ok (.invokevirtual 59, 3) := by decide +kernel
theorem dX7_feed_48 : decode cX7_feed 48 = .ok (.aload_n 0, 1) := by decide +kernel
theorem dX7_feed_49 : decode cX7_feed 49 = .ok (.getfield 10, 3) := by decide +kernel
theorem dX7_feed_52 : decode cX7_feed 52 = .ok (.iload 5, 2) := by decide +kernel
theorem dX7_feed_54 : decode cX7_feed 54 = .ok (.invokevirtual 59, 3) := by decide +kernel
theorem dX7_feed_57 : decode cX7_feed 57 = .ok (.aload_n 0, 1) := by decide +kernel
theorem dX7_feed_58 : decode cX7_feed 58 = .ok (.getfield 10, 3) := by decide +kernel
theorem dX7_feed_61 : decode cX7_feed 61 = .ok (.getfield 55, 3) := by decide +kernel
theorem dX7_feed_64 : decode cX7_feed 64 = .ok (.ireturn, 1) := by decide +kernel
theorem dX7_end_0 : decode cX7_end 0 = .ok (.iload_n 1, 1) := by decide +kernel
theorem dX7_end_1 : decode cX7_end 1 = .ok (.ifCond .lt 14, 3) := by decide +kernel
theorem dX7_end_4 : decode cX7_end 4 = .ok (.iload_n 1, 1) := by decide +kernel
theorem dX7_end_5 : decode cX7_end 5 = .ok (.aload_n 0, 1) := by decide +kernel
theorem dX7_end_6 : decode cX7_end 6 = .ok (.getfield 10, 3) := by decide +kernel
theorem dX7_end_9 : decode cX7_end 9 = .ok (.getfield 55, 3) := by decide +kernel
theorem dX7_end_12 : decode cX7_end 12 = .ok (.if_icmp .le 5, 3) := by decide +kernel
theorem dX7_end_15 : decode cX7_end 15 = .ok (.iconst 0, 1) := by decide +kernel
theorem dX7_end_16 : decode cX7_end 16 = .ok (.ireturn, 1) := by decide +kernel
theorem dX7_end_17 : decode cX7_end 17 = .ok (.aload_n 0, 1) := by decide +kernel
theorem dX7_end_18 : decode cX7_end 18 = .ok (.getfield 10, 3) := by decide +kernel
theorem dX7_end_21 : decode cX7_end 21 = .ok (.iload_n 1, 1) := by decide +kernel
theorem dX7_end_22 : decode cX7_end 22 = .ok (.putfield 55, 3) := by decide +kernel
theorem dX7_end_25 : decode cX7_end 25 = .ok (.iconst 1, 1) := by decide +kernel
theorem dX7_end_26 : decode cX7_end 26 = .ok (.ireturn, 1) := by decide +kernel
theorem dX7_sheet_0 : decode cX7_sheet 0 = .ok (.aload_n 0, 1) := by decide +kernel
theorem dX7_sheet_1 : decode cX7_sheet 1 = .ok (.getfield 10, 3) := by decide +kernel
theorem dX7_sheet_4 : decode cX7_sheet 4 = .ok (.invokevirtual 63, 3) := by decide +kernel
theorem dX7_sheet_7 : decode cX7_sheet 7 = .ok (.istore_n 2, 1) := by decide +kernel
theorem dX7_sheet_8 : decode cX7_sheet 8 = .ok (.iload_n 1, 1) := by decide +kernel
theorem dX7_sheet_9 : decode cX7_sheet 9 = .ok (.iconst 1, 1) := by decide +kernel
theorem dX7_sheet_10 : decode cX7_sheet 10 = .ok (.if_icmp .lt 9, 3) := by decide +kernel
theorem dX7_sheet_13 : decode cX7_sheet 13 = .ok (.iload_n 1, 1) := by decide +kernel
theorem dX7_sheet_14 : decode cX7_sheet 14 = .ok (.bipush 7, 2) := by decide +kernel
theorem dX7_sheet_16 : decode cX7_sheet 16 = .ok (.if_icmp .le 21, 3) := by decide +kernel
theorem dX7_sheet_19 : decode cX7_sheet 19 = .ok (.aload_n 0, 1) := by decide +kernel
theorem dX7_sheet_20 : decode cX7_sheet 20 = .ok (.getfield 10, 3) := by decide +kernel
theorem dX7_sheet_23 : decode cX7_sheet 23 = .ok (.iconst (-1), 1) := by decide +kernel
theorem dX7_sheet_24 : decode cX7_sheet 24 = .ok (.putfield 67, 3) := by decide +kernel
theorem dX7_sheet_27 : decode cX7_sheet 27 = .ok (.new 70, 3) := by decide +kernel
theorem dX7_sheet_30 : decode cX7_sheet 30 = .ok (.dup, 1) := by decide +kernel
theorem dX7_sheet_31 : decode cX7_sheet 31 = .ok (.ldc 72, 2) := by decide +kernel
theorem dX7_sheet_33 : decode cX7_sheet 33 = .ok (.invokespecial 74, 3) := by decide +kernel
theorem dX7_sheet_36 : decode cX7_sheet 36 = .ok (.athrow, 1) := by decide +kernel
theorem dX7_sheet_37 : decode cX7_sheet 37 = .ok (.aload_n 0, 1) := by decide +kernel
theorem dX7_sheet_38 : decode cX7_sheet 38 = .ok (.iconst 0, 1) := by decide +kernel
theorem dX7_sheet_39 : decode cX7_sheet 39 = .ok (.iload_n 2, 1) := by decide +kernel
theorem dX7_sheet_40 : decode cX7_sheet 40 = .ok (.invokevirtual 77, 3) := by decide +kernel
theorem dX7_sheet_43 : decode cX7_sheet 43 = .ok (.aload_n 0, 1) := by decide +kernel
theorem dX7_sheet_44 : decode cX7_sheet 44 = .ok (.getfield 19, 3) := by decide +kernel
theorem dX7_sheet_47 : decode cX7_sheet 47 = .ok (.getfield 81, 3) := by decide +kernel
theorem dX7_sheet_50 : decode cX7_sheet 50 = .ok (.bipush 6, 2) := by decide +kernel
theorem dX7_sheet_52 : decode cX7_sheet 52 = .ok (.if_icmp .lt 13, 3) := by decide +kernel
theorem dX7_sheet_55 : decode cX7_sheet 55 = .ok (.new 84, 3) := by decide +kernel
theorem dX7_sheet_58 : decode cX7_sheet 58 = .ok (.dup, 1) := by decide +kernel
theorem dX7_sheet_59 : decode cX7_sheet 59 = .ok (.ldc 86, 2) := by decide +kernel
theorem dX7_sheet_61 : decode cX7_sheet 61 = .ok (.invokespecial 88, 3) := by decide +kernel
theorem dX7_sheet_64 : decode cX7_sheet 64 = .ok (.athrow, 1) := by decide +kernel
theorem dX7_sheet_65 : decode cX7_sheet 65 = .ok (.aload_n 0, 1) := by decide +kernel
theorem dX7_sheet_66 : decode cX7_sheet 66 = .ok (.getfield 19, 3) := by decide +kernel
theorem dX7_sheet_69 : decode cX7_sheet 69 = .ok (.iload_n 1, 1) := by decide +kernel
theorem dX7_sheet_70 : decode cX7_sheet 70 = .ok (.aload_n 0, 1) := by decide +kernel
theorem dX7_sheet_71 : decode cX7_sheet 71 = .ok (.getfield 10, 3) := by decide +kernel
theorem dX7_sheet_74 : decode cX7_sheet 74 = .ok (.ldc 91, 2) := by decide +kernel
theorem dX7_sheet_76 : decode cX7_sheet 76 = .ok (.invokevirtual 92, 3) := by decide +kernel
theorem dX7_sheet_79 : decode cX7_sheet 79 = .ok (.invokevirtual 96, 3) := by decide +kernel
theorem dX7_sheet_82 : decode cX7_sheet 82 = .ok (.ireturn, 1) := by decide +kernel
theorem dX7_strokes_0 : decode cX7_strokes 0 = .ok (.aload_n 0, 1) := by decide +kernel
theorem dX7_strokes_1 : decode cX7_strokes 1 = .ok (.getfield 10, 3) := by decide +kernel
theorem dX7_strokes_4 : decode cX7_strokes 4 = .ok (.invokevirtual 63, 3) := by decide +kernel
theorem dX7_strokes_7 : decode cX7_strokes 7 = .ok (.istore_n 2, 1) := by decide +kernel
theorem dX7_strokes_8 : decode cX7_strokes 8 = .ok (.aload_n 0, 1) := by decide +kernel
theorem dX7_strokes_9 : decode cX7_strokes 9 = .ok (.iload_n 1, 1) := by decide +kernel
theorem dX7_strokes_10 : decode cX7_strokes 10 = .ok (.invokevirtual 100, 3) := by decide +kernel
theorem dX7_strokes_13 : decode cX7_strokes 13 = .ok (.aload_n 0, 1) := by decide +kernel
theorem dX7_strokes_14 : decode cX7_strokes 14 = .ok (.iconst 0, 1) := by decide +kernel
theorem dX7_strokes_15 : decode cX7_strokes 15 = .ok (.iload_n 2, 1) := by decide +kernel
theorem dX7_strokes_16 : decode cX7_strokes 16 = .ok (.invokevirtual 77, 3) := by decide +kernel
theorem dX7_strokes_19 : decode cX7_strokes 19 = .ok (.aload_n 0, 1) := by decide +kernel
theorem dX7_strokes_20 : decode cX7_strokes 20 = .ok (.getfield 10, 3) := by decide +kernel
theorem dX7_strokes_23 : decode cX7_strokes 23 = .ok (.aload_n 0, 1) := by decide +kernel
theorem dX7_strokes_24 : decode cX7_strokes 24 = .ok (.getfield 19, 3) := by decide +kernel
theorem dX7_strokes_27 : decode cX7_strokes 27 = .ok (.getfield 103, 3) := by decide +kernel
theorem dX7_strokes_30 : decode cX7_strokes 30 = .ok (.iload_n 1, 1) := by decide +kernel
theorem dX7_strokes_31 : decode cX7_strokes 31 = .ok (.iaload, 1) := by decide +kernel
theorem dX7_strokes_32 : decode cX7_strokes 32 = .ok (.invokevirtual 92, 3) := by decide +kernel
theorem dX7_strokes_35 : decode cX7_strokes 35 = .ok (.istore_n 3, 1) := by decide +kernel
theorem dX7_strokes_36 : decode cX7_strokes 36 = .ok (.iload_n 3, 1) := by decide +kernel
theorem dX7_strokes_37 : decode cX7_strokes 37 = .ok (.invokestatic 107, 3) := by decide +kernel
theorem dX7_strokes_40 : decode cX7_strokes 40 = .ok (.ifCond .eq 13, 3) := by decide +kernel
theorem dX7_strokes_43 : decode cX7_strokes 43 = .ok (.new 110, 3) := by decide +kernel
theorem dX7_strokes_46 : decode cX7_strokes 46 = .ok (.dup, 1) := by decide +kernel
theorem dX7_strokes_47 : decode cX7_strokes 47 = .ok (.ldc 112, 2) := by decide +kernel
theorem dX7_strokes_49 : decode cX7_strokes 49 = .ok (.invokespecial 114, 3) := by decide +kernel
theorem dX7_strokes_52 : decode cX7_strokes 52 = .ok (.athrow, 1) := by decide +kernel
theorem dX7_strokes_53 : decode cX7_strokes 53 = .ok (.iload_n 3, 1) := by decide +kernel
theorem dX7_strokes_54 : decode cX7_strokes 54 = .ok (.aload_n 0, 1) := by decide +kernel
theorem dX7_strokes_55 : decode cX7_strokes 55 = .ok (.getfield 19, 3) := by decide +kernel
theorem dX7_strokes_58 : decode cX7_strokes 58 = .ok (.getfield 103, 3) := by decide +kernel
theorem dX7_strokes_61 : decode cX7_strokes 61 = .ok (.iload_n 1, 1) := by decide +kernel
theorem dX7_strokes_62 : decode cX7_strokes 62 = .ok (.iaload, 1) := by decide +kernel
theorem dX7_strokes_63 : decode cX7_strokes 63 = .ok (.ixor, 1) := by decide +kernel
theorem dX7_strokes_64 : decode cX7_strokes 64 = .ok (.invokestatic 115, 3) := by decide +kernel
theorem dX7_strokes_67 : decode cX7_strokes 67 = .ok (.istore 4, 2) := by decide +kernel
theorem dX7_strokes_69 : decode cX7_strokes 69 = .ok (.aload_n 0, 1) := by decide +kernel
theorem dX7_strokes_70 : decode cX7_strokes 70 = .ok (.getfield 19, 3) := by decide +kernel
theorem dX7_strokes_73 : decode cX7_strokes 73 = .ok (.getfield 103, 3) := by decide +kernel
theorem dX7_strokes_76 : decode cX7_strokes 76 = .ok (.iload_n 1, 1) := by decide +kernel
theorem dX7_strokes_77 : decode cX7_strokes 77 = .ok (.iload_n 3, 1) := by decide +kernel
theorem dX7_strokes_78 : decode cX7_strokes 78 = .ok (.iastore, 1) := by decide +kernel
theorem dX7_strokes_79 : decode cX7_strokes 79 = .ok (.aload_n 0, 1) := by decide +kernel
theorem dX7_strokes_80 : decode cX7_strokes 80 = .ok (.getfield 19, 3) := by decide +kernel
theorem dX7_strokes_83 : decode cX7_strokes 83 = .ok (.getfield 120, 3) := by decide +kernel
theorem dX7_strokes_86 : decode cX7_strokes 86 = .ok (.iload_n 1, 1) := by decide +kernel
theorem dX7_strokes_87 : decode cX7_strokes 87 = .ok (.iload_n 3, 1) := by decide +kernel
theorem dX7_strokes_88 : decode cX7_strokes 88 = .ok (.iastore, 1) := by decide +kernel
theorem dX7_strokes_89 : decode cX7_strokes 89 = .ok (.iload 4, 2) := by decide +kernel
theorem dX7_strokes_91 : decode cX7_strokes 91 = .ok (.ireturn, 1) := by decide +kernel
theorem dX7_scene_0 : decode cX7_scene 0 = .ok (.aload_n 0, 1) := by decide +kernel
theorem dX7_scene_1 : decode cX7_scene 1 = .ok (.iconst 1, 1) := by decide +kernel
theorem dX7_scene_2 : decode cX7_scene 2 = .ok (.aload_n 0, 1) := by decide +kernel
theorem dX7_scene_3 : decode cX7_scene 3 = .ok (.getfield 10, 3) := by decide +kernel
theorem dX7_scene_6 : decode cX7_scene 6 = .ok (.invokevirtual 63, 3) := by decide +kernel
theorem dX7_scene_9 : decode cX7_scene 9 = .ok (.invokevirtual 77, 3) := by decide +kernel
theorem dX7_scene_12 : decode cX7_scene 12 = .ok (.aload_n 0, 1) := by decide +kernel
theorem dX7_scene_13 : decode cX7_scene 13 = .ok (.getfield 19, 3) := by decide +kernel
theorem dX7_scene_16 : decode cX7_scene 16 = .ok (.getfield 123, 3) := by decide +kernel
theorem dX7_scene_19 : decode cX7_scene 19 = .ok (.bipush 6, 2) := by decide +kernel
theorem dX7_scene_21 : decode cX7_scene 21 = .ok (.if_icmp .lt 13, 3) := by decide +kernel
theorem dX7_scene_24 : decode cX7_scene 24 = .ok (.new 84, 3) := by decide +kernel
theorem dX7_scene_27 : decode cX7_scene 27 = .ok (.dup, 1) := by decide +kernel
theorem dX7_scene_28 : decode cX7_scene 28 = .ok (.ldc 126, 2) := by decide +kernel
theorem dX7_scene_30 : decode cX7_scene 30 = .ok (.invokespecial 88, 3) := by decide +kernel
theorem dX7_scene_33 : decode cX7_scene 33 = .ok (.athrow, 1) := by decide +kernel
theorem dX7_scene_34 : decode cX7_scene 34 = .ok (.aload_n 0, 1) := by decide +kernel
theorem dX7_scene_35 : decode cX7_scene 35 = .ok (.getfield 19, 3) := by decide +kernel
theorem dX7_scene_38 : decode cX7_scene 38 = .ok (.aload_n 0, 1) := by decide +kernel
theorem dX7_scene_39 : decode cX7_scene 39 = .ok (.getfield 10, 3) := by decide +kernel
theorem dX7_scene_42 : decode cX7_scene 42 = .ok (.invokevirtual 128, 3) := by decide +kernel
theorem dX7_scene_45 : decode cX7_scene 45 = .ok (.ireturn, 1) := by decide +kernel
theorem dX7_fault_0 : decode cX7_fault 0 = .ok (.aload_n 0, 1) := by decide +kernel
theorem dX7_fault_1 : decode cX7_fault 1 = .ok (.getfield 10, 3) := by decide +kernel
theorem dX7_fault_4 : decode cX7_fault 4 = .ok (.getfield 67, 3) := by decide +kernel
theorem dX7_fault_7 : decode cX7_fault 7 = .ok (.ireturn, 1) := by decide +kernel
theorem dX7_dark_0 : decode cX7_dark 0 = .ok (.aload_n 0, 1) := by decide +kernel
theorem dX7_dark_1 : decode cX7_dark 1 = .ok (.iload_n 1, 1) := by decide +kernel
theorem dX7_dark_2 : decode cX7_dark 2 = .ok (.invokevirtual 100, 3) := by decide +kernel
theorem dX7_dark_5 : decode cX7_dark 5 = .ok (.aload_n 0, 1) := by decide +kernel
theorem dX7_dark_6 : decode cX7_dark 6 = .ok (.getfield 19, 3) := by decide +kernel
theorem dX7_dark_9 : decode cX7_dark 9 = .ok (.getfield 103, 3) := by decide +kernel
theorem dX7_dark_12 : decode cX7_dark 12 = .ok (.iload_n 1, 1) := by decide +kernel
theorem dX7_dark_13 : decode cX7_dark 13 = .ok (.iaload, 1) := by decide +kernel
theorem dX7_dark_14 : decode cX7_dark 14 = .ok (.ireturn, 1) := by decide +kernel
theorem dX7_loose_0 : decode cX7_loose 0 = .ok (.aload_n 0, 1) := by decide +kernel
theorem dX7_loose_1 : decode cX7_loose 1 = .ok (.iload_n 1, 1) := by decide +kernel
theorem dX7_loose_2 : decode cX7_loose 2 = .ok (.invokevirtual 100, 3) := by decide +kernel
theorem dX7_loose_5 : decode cX7_loose 5 = .ok (.aload_n 0, 1) := by decide +kernel
theorem dX7_loose_6 : decode cX7_loose 6 = .ok (.getfield 19, 3) := by decide +kernel
theorem dX7_loose_9 : decode cX7_loose 9 = .ok (.getfield 103, 3) := by decide +kernel
theorem dX7_loose_12 : decode cX7_loose 12 = .ok (.iload_n 1, 1) := by decide +kernel
theorem dX7_loose_13 : decode cX7_loose 13 = .ok (.iaload, 1) := by decide +kernel
theorem dX7_loose_14 : decode cX7_loose 14 = .ok (.invokestatic 107, 3) := by decide +kernel
theorem dX7_loose_17 : decode cX7_loose 17 = .ok (.ireturn, 1) := by decide +kernel
theorem dX7_bridges_0 : decode cX7_bridges 0 = .ok (.aload_n 0, 1) := by decide +kernel
theorem dX7_bridges_1 : decode cX7_bridges 1 = .ok (.iload_n 1, 1) := by decide +kernel
theorem dX7_bridges_2 : decode cX7_bridges 2 = .ok (.invokevirtual 100, 3) := by decide +kernel
theorem dX7_bridges_5 : decode cX7_bridges 5 = .ok (.aload_n 0, 1) := by decide +kernel
theorem dX7_bridges_6 : decode cX7_bridges 6 = .ok (.getfield 19, 3) := by decide +kernel
theorem dX7_bridges_9 : decode cX7_bridges 9 = .ok (.getfield 103, 3) := by decide +kernel
theorem dX7_bridges_12 : decode cX7_bridges 12 = .ok (.iload_n 1, 1) := by decide +kernel
theorem dX7_bridges_13 : decode cX7_bridges 13 = .ok (.iaload, 1) := by decide +kernel
theorem dX7_bridges_14 : decode cX7_bridges 14 = .ok (.invokestatic 132, 3) := by decide +kernel
theorem dX7_bridges_17 : decode cX7_bridges 17 = .ok (.ireturn, 1) := by decide +kernel
theorem dX7_slot_0 : decode cX7_slot 0 = .ok (.iload_n 1, 1) := by decide +kernel
theorem dX7_slot_1 : decode cX7_slot 1 = .ok (.iconst 1, 1) := by decide +kernel
theorem dX7_slot_2 : decode cX7_slot 2 = .ok (.if_icmp .lt 32, 3) := by decide +kernel
theorem dX7_slot_5 : decode cX7_slot 5 = .ok (.iload_n 1, 1) := by decide +kernel
theorem dX7_slot_6 : decode cX7_slot 6 = .ok (.iconst 3, 1) := by decide +kernel
theorem dX7_slot_7 : decode cX7_slot 7 = .ok (.if_icmp .gt 27, 3) := by decide +kernel
theorem dX7_slot_10 : decode cX7_slot 10 = .ok (.iload_n 2, 1) := by decide +kernel
theorem dX7_slot_11 : decode cX7_slot 11 = .ok (.bipush (-12), 2) := by decide +kernel
theorem dX7_slot_13 : decode cX7_slot 13 = .ok (.if_icmp .lt 21, 3) := by decide +kernel
theorem dX7_slot_16 : decode cX7_slot 16 = .ok (.iload_n 2, 1) := by decide +kernel
theorem dX7_slot_17 : decode cX7_slot 17 = .ok (.bipush 12, 2) := by decide +kernel
theorem dX7_slot_19 : decode cX7_slot 19 = .ok (.if_icmp .gt 15, 3) := by decide +kernel
theorem dX7_slot_22 : decode cX7_slot 22 = .ok (.iload_n 3, 1) := by decide +kernel
theorem dX7_slot_23 : decode cX7_slot 23 = .ok (.bipush (-12), 2) := by decide +kernel
theorem dX7_slot_25 : decode cX7_slot 25 = .ok (.if_icmp .lt 9, 3) := by decide +kernel
theorem dX7_slot_28 : decode cX7_slot 28 = .ok (.iload_n 3, 1) := by decide +kernel
theorem dX7_slot_29 : decode cX7_slot 29 = .ok (.bipush 12, 2) := by decide +kernel
theorem dX7_slot_31 : decode cX7_slot 31 = .ok (.if_icmp .le 13, 3) := by decide +kernel
theorem dX7_slot_34 : decode cX7_slot 34 = .ok (.new 70, 3) := by decide +kernel
theorem dX7_slot_37 : decode cX7_slot 37 = .ok (.dup, 1) := by decide +kernel
theorem dX7_slot_38 : decode cX7_slot 38 = .ok (.ldc 135, 2) := by decide +kernel
theorem dX7_slot_40 : decode cX7_slot 40 = .ok (.invokespecial 74, 3) := by decide +kernel
theorem dX7_slot_43 : decode cX7_slot 43 = .ok (.athrow, 1) := by decide +kernel
theorem dX7_slot_44 : decode cX7_slot 44 = .ok (.aload_n 0, 1) := by decide +kernel
theorem dX7_slot_45 : decode cX7_slot 45 = .ok (.getfield 19, 3) := by decide +kernel
theorem dX7_slot_48 : decode cX7_slot 48 = .ok (.getfield 137, 3) := by decide +kernel
theorem dX7_slot_51 : decode cX7_slot 51 = .ok (.iconst 4, 1) := by decide +kernel
theorem dX7_slot_52 : decode cX7_slot 52 = .ok (.if_icmp .lt 13, 3) := by decide +kernel
theorem dX7_slot_55 : decode cX7_slot 55 = .ok (.new 84, 3) := by decide +kernel
theorem dX7_slot_58 : decode cX7_slot 58 = .ok (.dup, 1) := by decide +kernel
theorem dX7_slot_59 : decode cX7_slot 59 = .ok (.ldc 140, 2) := by decide +kernel
theorem dX7_slot_61 : decode cX7_slot 61 = .ok (.invokespecial 88, 3) := by decide +kernel
theorem dX7_slot_64 : decode cX7_slot 64 = .ok (.athrow, 1) := by decide +kernel
theorem dX7_slot_65 : decode cX7_slot 65 = .ok (.aload_n 0, 1) := by decide +kernel
theorem dX7_slot_66 : decode cX7_slot 66 = .ok (.getfield 19, 3) := by decide +kernel
theorem dX7_slot_69 : decode cX7_slot 69 = .ok (.iload_n 1, 1) := by decide +kernel
theorem dX7_slot_70 : decode cX7_slot 70 = .ok (.iload_n 2, 1) := by decide +kernel
theorem dX7_slot_71 : decode cX7_slot 71 = .ok (.iload_n 3, 1) := by decide +kernel
theorem dX7_slot_72 : decode cX7_slot 72 = .ok (.invokevirtual 142, 3) := by decide +kernel
theorem dX7_slot_75 : decode cX7_slot 75 = .ok (.ireturn, 1) := by decide +kernel
theorem dX7_lamp_0 : decode cX7_lamp 0 = .ok (.iload_n 1, 1) := by decide +kernel
theorem dX7_lamp_1 : decode cX7_lamp 1 = .ok (.ifCond .lt 8, 3) := by decide +kernel
theorem dX7_lamp_4 : decode cX7_lamp 4 = .ok (.iload_n 1, 1) := by decide +kernel
theorem dX7_lamp_5 : decode cX7_lamp 5 = .ok (.iconst 1, 1) := by decide +kernel
theorem dX7_lamp_6 : decode cX7_lamp 6 = .ok (.if_icmp .le 13, 3) := by decide +kernel
theorem dX7_lamp_9 : decode cX7_lamp 9 = .ok (.new 70, 3) := by decide +kernel
theorem dX7_lamp_12 : decode cX7_lamp 12 = .ok (.dup, 1) := by decide +kernel
theorem dX7_lamp_13 : decode cX7_lamp 13 = .ok (.ldc 146, 2) := by decide +kernel
theorem dX7_lamp_15 : decode cX7_lamp 15 = .ok (.invokespecial 74, 3) := by decide +kernel
theorem dX7_lamp_18 : decode cX7_lamp 18 = .ok (.athrow, 1) := by decide +kernel
theorem dX7_lamp_19 : decode cX7_lamp 19 = .ok (.aload_n 0, 1) := by decide +kernel
theorem dX7_lamp_20 : decode cX7_lamp 20 = .ok (.getfield 19, 3) := by decide +kernel
theorem dX7_lamp_23 : decode cX7_lamp 23 = .ok (.getfield 148, 3) := by decide +kernel
theorem dX7_lamp_26 : decode cX7_lamp 26 = .ok (.istore_n 2, 1) := by decide +kernel
theorem dX7_lamp_27 : decode cX7_lamp 27 = .ok (.aload_n 0, 1) := by decide +kernel
theorem dX7_lamp_28 : decode cX7_lamp 28 = .ok (.getfield 19, 3) := by decide +kernel
theorem dX7_lamp_31 : decode cX7_lamp 31 = .ok (.iload_n 1, 1) := by decide +kernel
theorem dX7_lamp_32 : decode cX7_lamp 32 = .ok (.putfield 148, 3) := by decide +kernel
theorem dX7_lamp_35 : decode cX7_lamp 35 = .ok (.iload_n 2, 1) := by decide +kernel
theorem dX7_lamp_36 : decode cX7_lamp 36 = .ok (.ireturn, 1) := by decide +kernel
theorem dX7_hands_0 : decode cX7_hands 0 = .ok (.iload_n 1, 1) := by decide +kernel
theorem dX7_hands_1 : decode cX7_hands 1 = .ok (.iconst 1, 1) := by decide +kernel
theorem dX7_hands_2 : decode cX7_hands 2 = .ok (.if_icmp .lt 8, 3) := by decide +kernel
theorem dX7_hands_5 : decode cX7_hands 5 = .ok (.iload_n 1, 1) := by decide +kernel
theorem dX7_hands_6 : decode cX7_hands 6 = .ok (.iconst 2, 1) := by decide +kernel
theorem dX7_hands_7 : decode cX7_hands 7 = .ok (.if_icmp .le 13, 3) := by decide +kernel
theorem dX7_hands_10 : decode cX7_hands 10 = .ok (.new 70, 3) := by decide +kernel
theorem dX7_hands_13 : decode cX7_hands 13 = .ok (.dup, 1) := by decide +kernel
theorem dX7_hands_14 : decode cX7_hands 14 = .ok (.ldc 151, 2) := by decide +kernel
theorem dX7_hands_16 : decode cX7_hands 16 = .ok (.invokespecial 74, 3) := by decide +kernel
theorem dX7_hands_19 : decode cX7_hands 19 = .ok (.athrow, 1) := by decide +kernel
theorem dX7_hands_20 : decode cX7_hands 20 = .ok (.aload_n 0, 1) := by decide +kernel
theorem dX7_hands_21 : decode cX7_hands 21 = .ok (.getfield 19, 3) := by decide +kernel
theorem dX7_hands_24 : decode cX7_hands 24 = .ok (.getfield 153, 3) := by decide +kernel
theorem dX7_hands_27 : decode cX7_hands 27 = .ok (.istore_n 2, 1) := by decide +kernel
theorem dX7_hands_28 : decode cX7_hands 28 = .ok (.aload_n 0, 1) := by decide +kernel
theorem dX7_hands_29 : decode cX7_hands 29 = .ok (.getfield 19, 3) := by decide +kernel
theorem dX7_hands_32 : decode cX7_hands 32 = .ok (.iload_n 1, 1) := by decide +kernel
theorem dX7_hands_33 : decode cX7_hands 33 = .ok (.putfield 153, 3) := by decide +kernel
theorem dX7_hands_36 : decode cX7_hands 36 = .ok (.iload_n 2, 1) := by decide +kernel
theorem dX7_hands_37 : decode cX7_hands 37 = .ok (.ireturn, 1) := by decide +kernel
theorem dX7_put_0 : decode cX7_put 0 = .ok (.aload_n 0, 1) := by decide +kernel
theorem dX7_put_1 : decode cX7_put 1 = .ok (.iload_n 1, 1) := by decide +kernel
theorem dX7_put_2 : decode cX7_put 2 = .ok (.invokevirtual 156, 3) := by decide +kernel
theorem dX7_put_5 : decode cX7_put 5 = .ok (.iload_n 2, 1) := by decide +kernel
theorem dX7_put_6 : decode cX7_put 6 = .ok (.iconst (-1), 1) := by decide +kernel
theorem dX7_put_7 : decode cX7_put 7 = .ok (.if_icmp .eq 8, 3) := by decide +kernel
theorem dX7_put_10 : decode cX7_put 10 = .ok (.aload_n 0, 1) := by decide +kernel
theorem dX7_put_11 : decode cX7_put 11 = .ok (.iload_n 2, 1) := by decide +kernel
theorem dX7_put_12 : decode cX7_put 12 = .ok (.invokevirtual 100, 3) := by decide +kernel
theorem dX7_put_15 : decode cX7_put 15 = .ok (.aload_n 0, 1) := by decide +kernel
theorem dX7_put_16 : decode cX7_put 16 = .ok (.getfield 19, 3) := by decide +kernel
theorem dX7_put_19 : decode cX7_put 19 = .ok (.getfield 159, 3) := by decide +kernel
theorem dX7_put_22 : decode cX7_put 22 = .ok (.iload_n 1, 1) := by decide +kernel
theorem dX7_put_23 : decode cX7_put 23 = .ok (.iaload, 1) := by decide +kernel
theorem dX7_put_24 : decode cX7_put 24 = .ok (.istore_n 3, 1) := by decide +kernel
theorem dX7_put_25 : decode cX7_put 25 = .ok (.aload_n 0, 1) := by decide +kernel
theorem dX7_put_26 : decode cX7_put 26 = .ok (.getfield 19, 3) := by decide +kernel
theorem dX7_put_29 : decode cX7_put 29 = .ok (.getfield 159, 3) := by decide +kernel
theorem dX7_put_32 : decode cX7_put 32 = .ok (.iload_n 1, 1) := by decide +kernel
theorem dX7_put_33 : decode cX7_put 33 = .ok (.iload_n 2, 1) := by decide +kernel
theorem dX7_put_34 : decode cX7_put 34 = .ok (.invokestatic 162, 3) := by decide +kernel
theorem dX7_put_37 : decode cX7_put 37 = .ok (.iload_n 3, 1) := by decide +kernel
theorem dX7_put_38 : decode cX7_put 38 = .ok (.ireturn, 1) := by decide +kernel
theorem dX7_in_0 : decode cX7_in 0 = .ok (.aload_n 0, 1) := by decide +kernel
theorem dX7_in_1 : decode cX7_in 1 = .ok (.iload_n 1, 1) := by decide +kernel
theorem dX7_in_2 : decode cX7_in 2 = .ok (.invokevirtual 156, 3) := by decide +kernel
theorem dX7_in_5 : decode cX7_in 5 = .ok (.aload_n 0, 1) := by decide +kernel
theorem dX7_in_6 : decode cX7_in 6 = .ok (.getfield 19, 3) := by decide +kernel
theorem dX7_in_9 : decode cX7_in 9 = .ok (.getfield 159, 3) := by decide +kernel
theorem dX7_in_12 : decode cX7_in 12 = .ok (.iload_n 1, 1) := by decide +kernel
theorem dX7_in_13 : decode cX7_in 13 = .ok (.iaload, 1) := by decide +kernel
theorem dX7_in_14 : decode cX7_in 14 = .ok (.ireturn, 1) := by decide +kernel
theorem dX7_shade_0 : decode cX7_shade 0 = .ok (.aload_n 0, 1) := by decide +kernel
theorem dX7_shade_1 : decode cX7_shade 1 = .ok (.iload_n 1, 1) := by decide +kernel
theorem dX7_shade_2 : decode cX7_shade 2 = .ok (.invokevirtual 166, 3) := by decide +kernel
theorem dX7_shade_5 : decode cX7_shade 5 = .ok (.aload_n 0, 1) := by decide +kernel
theorem dX7_shade_6 : decode cX7_shade 6 = .ok (.iload_n 2, 1) := by decide +kernel
theorem dX7_shade_7 : decode cX7_shade 7 = .ok (.iload_n 3, 1) := by decide +kernel
theorem dX7_shade_8 : decode cX7_shade 8 = .ok (.invokevirtual 169, 3) := by decide +kernel
theorem dX7_shade_11 : decode cX7_shade 11 = .ok (.aload_n 0, 1) := by decide +kernel
theorem dX7_shade_12 : decode cX7_shade 12 = .ok (.getfield 31, 3) := by decide +kernel
theorem dX7_shade_15 : decode cX7_shade 15 = .ok (.iconst 0, 1) := by decide +kernel
theorem dX7_shade_16 : decode cX7_shade 16 = .ok (.iload_n 2, 1) := by decide +kernel
theorem dX7_shade_17 : decode cX7_shade 17 = .ok (.iload_n 3, 1) := by decide +kernel
theorem dX7_shade_18 : decode cX7_shade 18 = .ok (.invokevirtual 172, 3) := by decide +kernel
theorem dX7_shade_21 : decode cX7_shade 21 = .ok (.aload_n 0, 1) := by decide +kernel
theorem dX7_shade_22 : decode cX7_shade 22 = .ok (.getfield 31, 3) := by decide +kernel
theorem dX7_shade_25 : decode cX7_shade 25 = .ok (.iconst 0, 1) := by decide +kernel
theorem dX7_shade_26 : decode cX7_shade 26 = .ok (.aload_n 0, 1) := by decide +kernel
theorem dX7_shade_27 : decode cX7_shade 27 = .ok (.getfield 19, 3) := by decide +kernel
theorem dX7_shade_30 : decode cX7_shade 30 = .ok (.getfield 159, 3) := by decide +kernel
theorem dX7_shade_33 : decode cX7_shade 33 = .ok (.iconst 0, 1) := by decide +kernel
theorem dX7_shade_34 : decode cX7_shade 34 = .ok (.invokevirtual 176, 3) := by decide +kernel
theorem dX7_shade_37 : decode cX7_shade 37 = .ok (.aload_n 0, 1) := by decide +kernel
theorem dX7_shade_38 : decode cX7_shade 38 = .ok (.getfield 31, 3) := by decide +kernel
theorem dX7_shade_41 : decode cX7_shade 41 = .ok (.iload_n 1, 1) := by decide +kernel
theorem dX7_shade_42 : decode cX7_shade 42 = .ok (.invokevirtual 180, 3) := by decide +kernel
theorem dX7_shade_45 : decode cX7_shade 45 = .ok (.ireturn, 1) := by decide +kernel
theorem dX7_shades_0 : decode cX7_shades 0 = .ok (.aload_n 0, 1) := by decide +kernel
theorem dX7_shades_1 : decode cX7_shades 1 = .ok (.iload_n 2, 1) := by decide +kernel
theorem dX7_shades_2 : decode cX7_shades 2 = .ok (.iload_n 3, 1) := by decide +kernel
theorem dX7_shades_3 : decode cX7_shades 3 = .ok (.invokevirtual 169, 3) := by decide +kernel
theorem dX7_shades_6 : decode cX7_shades 6 = .ok (.iload_n 1, 1) := by decide +kernel
theorem dX7_shades_7 : decode cX7_shades 7 = .ok (.ifCond .lt 8, 3) := by decide +kernel
theorem dX7_shades_10 : decode cX7_shades 10 = .ok (.iload_n 1, 1) := by decide +kernel
theorem dX7_shades_11 : decode cX7_shades 11 = .ok (.iconst 2, 1) := by decide +kernel
theorem dX7_shades_12 : decode cX7_shades 12 = .ok (.if_icmp .le 13, 3) := by decide +kernel
theorem dX7_shades_15 : decode cX7_shades 15 = .ok (.new 70, 3) := by decide +kernel
theorem dX7_shades_18 : decode cX7_shades 18 = .ok (.dup, 1) := by decide +kernel
theorem dX7_shades_19 : decode cX7_shades 19 = .ok (.ldc 183, 2) := by decide +kernel
theorem dX7_shades_21 : decode cX7_shades 21 = .ok (.invokespecial 74, 3) := by decide +kernel
theorem dX7_shades_24 : decode cX7_shades 24 = .ok (.athrow, 1) := by decide +kernel
theorem dX7_shades_25 : decode cX7_shades 25 = .ok (.aload_n 0, 1) := by decide +kernel
theorem dX7_shades_26 : decode cX7_shades 26 = .ok (.getfield 31, 3) := by decide +kernel
theorem dX7_shades_29 : decode cX7_shades 29 = .ok (.iconst 0, 1) := by decide +kernel
theorem dX7_shades_30 : decode cX7_shades 30 = .ok (.iload_n 2, 1) := by decide +kernel
theorem dX7_shades_31 : decode cX7_shades 31 = .ok (.iload_n 3, 1) := by decide +kernel
theorem dX7_shades_32 : decode cX7_shades 32 = .ok (.invokevirtual 172, 3) := by decide +kernel
theorem dX7_shades_35 : decode cX7_shades 35 = .ok (.aload_n 0, 1) := by decide +kernel
theorem dX7_shades_36 : decode cX7_shades 36 = .ok (.getfield 31, 3) := by decide +kernel
theorem dX7_shades_39 : decode cX7_shades 39 = .ok (.iconst 0, 1) := by decide +kernel
theorem dX7_shades_40 : decode cX7_shades 40 = .ok (.aload_n 0, 1) := by decide +kernel
theorem dX7_shades_41 : decode cX7_shades 41 = .ok (.getfield 19, 3) := by decide +kernel
theorem dX7_shades_44 : decode cX7_shades 44 = .ok (.getfield 159, 3) := by decide +kernel
theorem dX7_shades_47 : decode cX7_shades 47 = .ok (.iconst 0, 1) := by decide +kernel
theorem dX7_shades_48 : decode cX7_shades 48 = .ok (.invokevirtual 176, 3) := by decide +kernel
theorem dX7_shades_51 : decode cX7_shades 51 = .ok (.aload_n 0, 1) := by decide +kernel
theorem dX7_shades_52 : decode cX7_shades 52 = .ok (.getfield 31, 3) := by decide +kernel
theorem dX7_shades_55 : decode cX7_shades 55 = .ok (.iload_n 1, 1) := by decide +kernel
theorem dX7_shades_56 : decode cX7_shades 56 = .ok (.invokevirtual 185, 3) := by decide +kernel
theorem dX7_shades_59 : decode cX7_shades 59 = .ok (.ireturn, 1) := by decide +kernel
theorem dX7_told_0 : decode cX7_told 0 = .ok (.aload_n 0, 1) := by decide +kernel
theorem dX7_told_1 : decode cX7_told 1 = .ok (.iload_n 1, 1) := by decide +kernel
theorem dX7_told_2 : decode cX7_told 2 = .ok (.invokevirtual 188, 3) := by decide +kernel
theorem dX7_told_5 : decode cX7_told 5 = .ok (.aload_n 0, 1) := by decide +kernel
theorem dX7_told_6 : decode cX7_told 6 = .ok (.iload_n 2, 1) := by decide +kernel
theorem dX7_told_7 : decode cX7_told 7 = .ok (.invokevirtual 166, 3) := by decide +kernel
theorem dX7_told_10 : decode cX7_told 10 = .ok (.aload_n 0, 1) := by decide +kernel
theorem dX7_told_11 : decode cX7_told 11 = .ok (.getfield 19, 3) := by decide +kernel
theorem dX7_told_14 : decode cX7_told 14 = .ok (.iload_n 1, 1) := by decide +kernel
theorem dX7_told_15 : decode cX7_told 15 = .ok (.iload_n 2, 1) := by decide +kernel
theorem dX7_told_16 : decode cX7_told 16 = .ok (.invokevirtual 191, 3) := by decide +kernel
theorem dX7_told_19 : decode cX7_told 19 = .ok (.ireturn, 1) := by decide +kernel
theorem dX7_wrong_0 : decode cX7_wrong 0 = .ok (.aload_n 0, 1) := by decide +kernel
theorem dX7_wrong_1 : decode cX7_wrong 1 = .ok (.iload_n 1, 1) := by decide +kernel
theorem dX7_wrong_2 : decode cX7_wrong 2 = .ok (.invokevirtual 188, 3) := by decide +kernel
theorem dX7_wrong_5 : decode cX7_wrong 5 = .ok (.aload_n 0, 1) := by decide +kernel
theorem dX7_wrong_6 : decode cX7_wrong 6 = .ok (.iload_n 2, 1) := by decide +kernel
theorem dX7_wrong_7 : decode cX7_wrong 7 = .ok (.iload_n 3, 1) := by decide +kernel
theorem dX7_wrong_8 : decode cX7_wrong 8 = .ok (.invokevirtual 169, 3) := by decide +kernel
theorem dX7_wrong_11 : decode cX7_wrong 11 = .ok (.iload 4, 2) := by decide +kernel
theorem dX7_wrong_13 : decode cX7_wrong 13 = .ok (.iconst (-1), 1) := by decide +kernel
theorem dX7_wrong_14 : decode cX7_wrong 14 = .ok (.if_icmp .ge 13, 3) := by decide +kernel
theorem dX7_wrong_17 : decode cX7_wrong 17 = .ok (.new 70, 3) := by decide +kernel
theorem dX7_wrong_20 : decode cX7_wrong 20 = .ok (.dup, 1) := by decide +kernel
theorem dX7_wrong_21 : decode cX7_wrong 21 = .ok (.ldc 194, 2) := by decide +kernel
theorem dX7_wrong_23 : decode cX7_wrong 23 = .ok (.invokespecial 74, 3) := by decide +kernel
theorem dX7_wrong_26 : decode cX7_wrong 26 = .ok (.athrow, 1) := by decide +kernel
theorem dX7_wrong_27 : decode cX7_wrong 27 = .ok (.aload_n 0, 1) := by decide +kernel
theorem dX7_wrong_28 : decode cX7_wrong 28 = .ok (.getfield 31, 3) := by decide +kernel
theorem dX7_wrong_31 : decode cX7_wrong 31 = .ok (.iconst 0, 1) := by decide +kernel
theorem dX7_wrong_32 : decode cX7_wrong 32 = .ok (.iload_n 2, 1) := by decide +kernel
theorem dX7_wrong_33 : decode cX7_wrong 33 = .ok (.iload_n 3, 1) := by decide +kernel
theorem dX7_wrong_34 : decode cX7_wrong 34 = .ok (.invokevirtual 172, 3) := by decide +kernel
theorem dX7_wrong_37 : decode cX7_wrong 37 = .ok (.aload_n 0, 1) := by decide +kernel
theorem dX7_wrong_38 : decode cX7_wrong 38 = .ok (.getfield 31, 3) := by decide +kernel
theorem dX7_wrong_41 : decode cX7_wrong 41 = .ok (.iconst 0, 1) := by decide +kernel
theorem dX7_wrong_42 : decode cX7_wrong 42 = .ok (.iload_n 1, 1) := by decide +kernel
theorem dX7_wrong_43 : decode cX7_wrong 43 = .ok (.aload_n 0, 1) := by decide +kernel
theorem dX7_wrong_44 : decode cX7_wrong 44 = .ok (.getfield 19, 3) := by decide +kernel
theorem dX7_wrong_47 : decode cX7_wrong 47 = .ok (.getfield 159, 3) := by decide +kernel
theorem dX7_wrong_50 : decode cX7_wrong 50 = .ok (.invokevirtual 196, 3) := by decide +kernel
theorem dX7_wrong_53 : decode cX7_wrong 53 = .ok (.istore 5, 2) := by decide +kernel
theorem dX7_wrong_55 : decode cX7_wrong 55 = .ok (.iload 4, 2) := by decide +kernel
theorem dX7_wrong_57 : decode cX7_wrong 57 = .ok (.iconst (-1), 1) := by decide +kernel
theorem dX7_wrong_58 : decode cX7_wrong 58 = .ok (.if_icmp .ne 8, 3) := by decide +kernel
theorem dX7_wrong_61 : decode cX7_wrong 61 = .ok (.iload 5, 2) := by decide +kernel
theorem dX7_wrong_63 : decode cX7_wrong 63 = .ok (.goto 12, 3) := by decide +kernel
theorem dX7_wrong_66 : decode cX7_wrong 66 = .ok (.aload_n 0, 1) := by decide +kernel
theorem dX7_wrong_67 : decode cX7_wrong 67 = .ok (.getfield 31, 3) := by decide +kernel
theorem dX7_wrong_70 : decode cX7_wrong 70 = .ok (.iload 4, 2) := by decide +kernel
theorem dX7_wrong_72 : decode cX7_wrong 72 = .ok (.invokevirtual 200, 3) := by decide +kernel
theorem dX7_wrong_75 : decode cX7_wrong 75 = .ok (.ireturn, 1) := by decide +kernel
theorem dX7_best_0 : decode cX7_best 0 = .ok (.aload_n 0, 1) := by decide +kernel
theorem dX7_best_1 : decode cX7_best 1 = .ok (.iload_n 1, 1) := by decide +kernel
theorem dX7_best_2 : decode cX7_best 2 = .ok (.invokevirtual 188, 3) := by decide +kernel
theorem dX7_best_5 : decode cX7_best 5 = .ok (.aload_n 0, 1) := by decide +kernel
theorem dX7_best_6 : decode cX7_best 6 = .ok (.iload_n 2, 1) := by decide +kernel
theorem dX7_best_7 : decode cX7_best 7 = .ok (.iload_n 3, 1) := by decide +kernel
theorem dX7_best_8 : decode cX7_best 8 = .ok (.invokevirtual 169, 3) := by decide +kernel
theorem dX7_best_11 : decode cX7_best 11 = .ok (.iload 4, 2) := by decide +kernel
theorem dX7_best_13 : decode cX7_best 13 = .ok (.iconst (-1), 1) := by decide +kernel
theorem dX7_best_14 : decode cX7_best 14 = .ok (.if_icmp .eq 9, 3) := by decide +kernel
theorem dX7_best_17 : decode cX7_best 17 = .ok (.aload_n 0, 1) := by decide +kernel
theorem dX7_best_18 : decode cX7_best 18 = .ok (.iload 4, 2) := by decide +kernel
theorem dX7_best_20 : decode cX7_best 20 = .ok (.invokevirtual 156, 3) := by decide +kernel
theorem dX7_best_23 : decode cX7_best 23 = .ok (.aload_n 0, 1) := by decide +kernel
theorem dX7_best_24 : decode cX7_best 24 = .ok (.getfield 40, 3) := by decide +kernel
theorem dX7_best_27 : decode cX7_best 27 = .ok (.iload_n 1, 1) := by decide +kernel
theorem dX7_best_28 : decode cX7_best 28 = .ok (.iload_n 2, 1) := by decide +kernel
theorem dX7_best_29 : decode cX7_best 29 = .ok (.iload_n 3, 1) := by decide +kernel
theorem dX7_best_30 : decode cX7_best 30 = .ok (.invokevirtual 203, 3) := by decide +kernel
theorem dX7_best_33 : decode cX7_best 33 = .ok (.iload 4, 2) := by decide +kernel
theorem dX7_best_35 : decode cX7_best 35 = .ok (.iconst (-1), 1) := by decide +kernel
theorem dX7_best_36 : decode cX7_best 36 = .ok (.if_icmp .ne 13, 3) := by decide +kernel
theorem dX7_best_39 : decode cX7_best 39 = .ok (.aload_n 0, 1) := by decide +kernel
theorem dX7_best_40 : decode cX7_best 40 = .ok (.getfield 40, 3) := by decide +kernel
theorem dX7_best_43 : decode cX7_best 43 = .ok (.getfield 206, 3) := by decide +kernel
theorem dX7_best_46 : decode cX7_best 46 = .ok (.goto 13, 3) := by decide +kernel
theorem dX7_best_49 : decode cX7_best 49 = .ok (.aload_n 0, 1) := by decide +kernel
theorem dX7_best_50 : decode cX7_best 50 = .ok (.getfield 40, 3) := by decide +kernel
theorem dX7_best_53 : decode cX7_best 53 = .ok (.getfield 209, 3) := by decide +kernel
theorem dX7_best_56 : decode cX7_best 56 = .ok (.iload 4, 2) := by decide +kernel
theorem dX7_best_58 : decode cX7_best 58 = .ok (.iaload, 1) := by decide +kernel
theorem dX7_best_59 : decode cX7_best 59 = .ok (.ireturn, 1) := by decide +kernel
theorem dX7_rules_0 : decode cX7_rules 0 = .ok (.aload_n 0, 1) := by decide +kernel
theorem dX7_rules_1 : decode cX7_rules 1 = .ok (.iconst 2, 1) := by decide +kernel
theorem dX7_rules_2 : decode cX7_rules 2 = .ok (.aload_n 0, 1) := by decide +kernel
theorem dX7_rules_3 : decode cX7_rules 3 = .ok (.getfield 10, 3) := by decide +kernel
theorem dX7_rules_6 : decode cX7_rules 6 = .ok (.invokevirtual 63, 3) := by decide +kernel
theorem dX7_rules_9 : decode cX7_rules 9 = .ok (.invokevirtual 77, 3) := by decide +kernel
theorem dX7_rules_12 : decode cX7_rules 12 = .ok (.aload_n 0, 1) := by decide +kernel
theorem dX7_rules_13 : decode cX7_rules 13 = .ok (.getfield 19, 3) := by decide +kernel
theorem dX7_rules_16 : decode cX7_rules 16 = .ok (.getfield 212, 3) := by decide +kernel
theorem dX7_rules_19 : decode cX7_rules 19 = .ok (.aload_n 0, 1) := by decide +kernel
theorem dX7_rules_20 : decode cX7_rules 20 = .ok (.getfield 10, 3) := by decide +kernel
theorem dX7_rules_23 : decode cX7_rules 23 = .ok (.invokevirtual 216, 3) := by decide +kernel
theorem dX7_rules_26 : decode cX7_rules 26 = .ok (.aload_n 0, 1) := by decide +kernel
theorem dX7_rules_27 : decode cX7_rules 27 = .ok (.getfield 19, 3) := by decide +kernel
theorem dX7_rules_30 : decode cX7_rules 30 = .ok (.getfield 212, 3) := by decide +kernel
theorem dX7_rules_33 : decode cX7_rules 33 = .ok (.getfield 222, 3) := by decide +kernel
theorem dX7_rules_36 : decode cX7_rules 36 = .ok (.ireturn, 1) := by decide +kernel
theorem dX7_allowed_0 : decode cX7_allowed 0 = .ok (.aload_n 0, 1) := by decide +kernel
theorem dX7_allowed_1 : decode cX7_allowed 1 = .ok (.getfield 19, 3) := by decide +kernel
theorem dX7_allowed_4 : decode cX7_allowed 4 = .ok (.getfield 212, 3) := by decide +kernel
theorem dX7_allowed_7 : decode cX7_allowed 7 = .ok (.aload_n 0, 1) := by decide +kernel
theorem dX7_allowed_8 : decode cX7_allowed 8 = .ok (.getfield 19, 3) := by decide +kernel
theorem dX7_allowed_11 : decode cX7_allowed 11 = .ok (.getfield 159, 3) := by decide +kernel
theorem dX7_allowed_14 : decode cX7_allowed 14 = .ok (.aload_n 0, 1) := by decide +kernel
theorem dX7_allowed_15 : decode cX7_allowed 15 = .ok (.getfield 19, 3) := by decide +kernel
theorem dX7_allowed_18 : decode cX7_allowed 18 = .ok (.getfield 225, 3) := by decide +kernel
theorem dX7_allowed_21 : decode cX7_allowed 21 = .ok (.invokevirtual 228, 3) := by decide +kernel
theorem dX7_allowed_24 : decode cX7_allowed 24 = .ok (.ireturn, 1) := by decide +kernel
theorem dX7_step_0 : decode cX7_step 0 = .ok (.aload_n 0, 1) := by decide +kernel
theorem dX7_step_1 : decode cX7_step 1 = .ok (.iload_n 1, 1) := by decide +kernel
theorem dX7_step_2 : decode cX7_step 2 = .ok (.invokevirtual 188, 3) := by decide +kernel
theorem dX7_step_5 : decode cX7_step 5 = .ok (.aload_n 0, 1) := by decide +kernel
theorem dX7_step_6 : decode cX7_step 6 = .ok (.iload_n 2, 1) := by decide +kernel
theorem dX7_step_7 : decode cX7_step 7 = .ok (.iload_n 3, 1) := by decide +kernel
theorem dX7_step_8 : decode cX7_step 8 = .ok (.invokevirtual 169, 3) := by decide +kernel
theorem dX7_step_11 : decode cX7_step 11 = .ok (.aload_n 0, 1) := by decide +kernel
theorem dX7_step_12 : decode cX7_step 12 = .ok (.getfield 31, 3) := by decide +kernel
theorem dX7_step_15 : decode cX7_step 15 = .ok (.iconst 0, 1) := by decide +kernel
theorem dX7_step_16 : decode cX7_step 16 = .ok (.iload_n 2, 1) := by decide +kernel
theorem dX7_step_17 : decode cX7_step 17 = .ok (.iload_n 3, 1) := by decide +kernel
theorem dX7_step_18 : decode cX7_step 18 = .ok (.invokevirtual 172, 3) := by decide +kernel
theorem dX7_step_21 : decode cX7_step 21 = .ok (.aload_n 0, 1) := by decide +kernel
theorem dX7_step_22 : decode cX7_step 22 = .ok (.getfield 40, 3) := by decide +kernel
theorem dX7_step_25 : decode cX7_step 25 = .ok (.iload_n 1, 1) := by decide +kernel
theorem dX7_step_26 : decode cX7_step 26 = .ok (.invokevirtual 232, 3) := by decide +kernel
theorem dX7_step_29 : decode cX7_step 29 = .ok (.ireturn, 1) := by decide +kernel
theorem dX7_seats_0 : decode cX7_seats 0 = .ok (.aload_n 0, 1) := by decide +kernel
theorem dX7_seats_1 : decode cX7_seats 1 = .ok (.iload_n 1, 1) := by decide +kernel
theorem dX7_seats_2 : decode cX7_seats 2 = .ok (.invokevirtual 188, 3) := by decide +kernel
theorem dX7_seats_5 : decode cX7_seats 5 = .ok (.aload_n 0, 1) := by decide +kernel
theorem dX7_seats_6 : decode cX7_seats 6 = .ok (.iload_n 2, 1) := by decide +kernel
theorem dX7_seats_7 : decode cX7_seats 7 = .ok (.iconst 0, 1) := by decide +kernel
theorem dX7_seats_8 : decode cX7_seats 8 = .ok (.invokevirtual 169, 3) := by decide +kernel
theorem dX7_seats_11 : decode cX7_seats 11 = .ok (.iconst 0, 1) := by decide +kernel
theorem dX7_seats_12 : decode cX7_seats 12 = .ok (.istore_n 3, 1) := by decide +kernel
theorem dX7_seats_13 : decode cX7_seats 13 = .ok (.bipush (-3), 2) := by decide +kernel
theorem dX7_seats_15 : decode cX7_seats 15 = .ok (.istore 4, 2) := by decide +kernel
theorem dX7_seats_17 : decode cX7_seats 17 = .ok (.iload 4, 2) := by decide +kernel
theorem dX7_seats_19 : decode cX7_seats 19 = .ok (.iconst 3, 1) := by decide +kernel
theorem dX7_seats_20 : decode cX7_seats 20 = .ok (.if_icmp .gt 48, 3) := by decide +kernel
theorem dX7_seats_23 : decode cX7_seats 23 = .ok (.aload_n 0, 1) := by decide +kernel
theorem dX7_seats_24 : decode cX7_seats 24 = .ok (.getfield 31, 3) := by decide +kernel
theorem dX7_seats_27 : decode cX7_seats 27 = .ok (.iconst 0, 1) := by decide +kernel
theorem dX7_seats_28 : decode cX7_seats 28 = .ok (.iload_n 2, 1) := by decide +kernel
theorem dX7_seats_29 : decode cX7_seats 29 = .ok (.iload 4, 2) := by decide +kernel
theorem dX7_seats_31 : decode cX7_seats 31 = .ok (.invokevirtual 172, 3) := by decide +kernel
theorem dX7_seats_34 : decode cX7_seats 34 = .ok (.aload_n 0, 1) := by decide +kernel
theorem dX7_seats_35 : decode cX7_seats 35 = .ok (.getfield 31, 3) := by decide +kernel
theorem dX7_seats_38 : decode cX7_seats 38 = .ok (.iconst 0, 1) := by decide +kernel
theorem dX7_seats_39 : decode cX7_seats 39 = .ok (.iload_n 1, 1) := by decide +kernel
theorem dX7_seats_40 : decode cX7_seats 40 = .ok (.aload_n 0, 1) := by decide +kernel
theorem dX7_seats_41 : decode cX7_seats 41 = .ok (.getfield 19, 3) := by decide +kernel
theorem dX7_seats_44 : decode cX7_seats 44 = .ok (.getfield 159, 3) := by decide +kernel
theorem dX7_seats_47 : decode cX7_seats 47 = .ok (.invokevirtual 196, 3) := by decide +kernel
theorem dX7_seats_50 : decode cX7_seats 50 = .ok (.ifCond .ne 12, 3) := by decide +kernel
theorem dX7_seats_53 : decode cX7_seats 53 = .ok (.iload_n 3, 1) := by decide +kernel
theorem dX7_seats_54 : decode cX7_seats 54 = .ok (.iconst 1, 1) := by decide +kernel
theorem dX7_seats_55 : decode cX7_seats 55 = .ok (.iload 4, 2) := by decide +kernel
theorem dX7_seats_57 : decode cX7_seats 57 = .ok (.iconst 3, 1) := by decide +kernel
theorem dX7_seats_58 : decode cX7_seats 58 = .ok (.iadd, 1) := by decide +kernel
theorem dX7_seats_59 : decode cX7_seats 59 = .ok (.ishl, 1) := by decide +kernel
theorem dX7_seats_60 : decode cX7_seats 60 = .ok (.ior, 1) := by decide +kernel
theorem dX7_seats_61 : decode cX7_seats 61 = .ok (.istore_n 3, 1) := by decide +kernel
theorem dX7_seats_62 : decode cX7_seats 62 = .ok (.iinc 4 1, 3) := by decide +kernel
theorem dX7_seats_65 : decode cX7_seats 65 = .ok (.goto (-48), 3) := by decide +kernel
theorem dX7_seats_68 : decode cX7_seats 68 = .ok (.iload_n 3, 1) := by decide +kernel
theorem dX7_seats_69 : decode cX7_seats 69 = .ok (.ireturn, 1) := by decide +kernel
theorem dX7_holes_0 : decode cX7_holes 0 = .ok (.aload_n 0, 1) := by decide +kernel
theorem dX7_holes_1 : decode cX7_holes 1 = .ok (.iload_n 1, 1) := by decide +kernel
theorem dX7_holes_2 : decode cX7_holes 2 = .ok (.invokevirtual 100, 3) := by decide +kernel
theorem dX7_holes_5 : decode cX7_holes 5 = .ok (.ldc 91, 2) := by decide +kernel
theorem dX7_holes_7 : decode cX7_holes 7 = .ok (.aload_n 0, 1) := by decide +kernel
theorem dX7_holes_8 : decode cX7_holes 8 = .ok (.getfield 19, 3) := by decide +kernel
theorem dX7_holes_11 : decode cX7_holes 11 = .ok (.getfield 103, 3) := by decide +kernel
theorem dX7_holes_14 : decode cX7_holes 14 = .ok (.iload_n 1, 1) := by decide +kernel
theorem dX7_holes_15 : decode cX7_holes 15 = .ok (.iaload, 1) := by decide +kernel
theorem dX7_holes_16 : decode cX7_holes 16 = .ok (.iconst (-1), 1) := by decide +kernel
theorem dX7_holes_17 : decode cX7_holes 17 = .ok (.ixor, 1) := by decide +kernel
theorem dX7_holes_18 : decode cX7_holes 18 = .ok (.iand, 1) := by decide +kernel
theorem dX7_holes_19 : decode cX7_holes 19 = .ok (.invokestatic 235, 3) := by decide +kernel
theorem dX7_holes_22 : decode cX7_holes 22 = .ok (.ireturn, 1) := by decide +kernel
theorem dX7_lasts_0 : decode cX7_lasts 0 = .ok (.aload_n 0, 1) := by decide +kernel
theorem dX7_lasts_1 : decode cX7_lasts 1 = .ok (.iload_n 1, 1) := by decide +kernel
theorem dX7_lasts_2 : decode cX7_lasts 2 = .ok (.invokevirtual 100, 3) := by decide +kernel
theorem dX7_lasts_5 : decode cX7_lasts 5 = .ok (.aload_n 0, 1) := by decide +kernel
theorem dX7_lasts_6 : decode cX7_lasts 6 = .ok (.getfield 19, 3) := by decide +kernel
theorem dX7_lasts_9 : decode cX7_lasts 9 = .ok (.getfield 103, 3) := by decide +kernel
theorem dX7_lasts_12 : decode cX7_lasts 12 = .ok (.iload_n 1, 1) := by decide +kernel
theorem dX7_lasts_13 : decode cX7_lasts 13 = .ok (.iaload, 1) := by decide +kernel
theorem dX7_lasts_14 : decode cX7_lasts 14 = .ok (.invokestatic 238, 3) := by decide +kernel
theorem dX7_lasts_17 : decode cX7_lasts 17 = .ok (.ireturn, 1) := by decide +kernel
theorem dX7_idle_0 : decode cX7_idle 0 = .ok (.aload_n 0, 1) := by decide +kernel
theorem dX7_idle_1 : decode cX7_idle 1 = .ok (.iload_n 1, 1) := by decide +kernel
theorem dX7_idle_2 : decode cX7_idle 2 = .ok (.iload_n 2, 1) := by decide +kernel
theorem dX7_idle_3 : decode cX7_idle 3 = .ok (.invokevirtual 169, 3) := by decide +kernel
theorem dX7_idle_6 : decode cX7_idle 6 = .ok (.aload_n 0, 1) := by decide +kernel
theorem dX7_idle_7 : decode cX7_idle 7 = .ok (.getfield 31, 3) := by decide +kernel
theorem dX7_idle_10 : decode cX7_idle 10 = .ok (.iconst 0, 1) := by decide +kernel
theorem dX7_idle_11 : decode cX7_idle 11 = .ok (.iload_n 1, 1) := by decide +kernel
theorem dX7_idle_12 : decode cX7_idle 12 = .ok (.iload_n 2, 1) := by decide +kernel
theorem dX7_idle_13 : decode cX7_idle 13 = .ok (.invokevirtual 172, 3) := by decide +kernel
theorem dX7_idle_16 : decode cX7_idle 16 = .ok (.aload_n 0, 1) := by decide +kernel
theorem dX7_idle_17 : decode cX7_idle 17 = .ok (.getfield 40, 3) := by decide +kernel
theorem dX7_idle_20 : decode cX7_idle 20 = .ok (.invokevirtual 241, 3) := by decide +kernel
theorem dX7_idle_23 : decode cX7_idle 23 = .ok (.ireturn, 1) := by decide +kernel
theorem dX7_unlike_0 : decode cX7_unlike 0 = .ok (.aload_n 0, 1) := by decide +kernel
theorem dX7_unlike_1 : decode cX7_unlike 1 = .ok (.iload_n 1, 1) := by decide +kernel
theorem dX7_unlike_2 : decode cX7_unlike 2 = .ok (.invokevirtual 244, 3) := by decide +kernel
theorem dX7_unlike_5 : decode cX7_unlike 5 = .ok (.aload_n 0, 1) := by decide +kernel
theorem dX7_unlike_6 : decode cX7_unlike 6 = .ok (.iload_n 2, 1) := by decide +kernel
theorem dX7_unlike_7 : decode cX7_unlike 7 = .ok (.invokevirtual 244, 3) := by decide +kernel
theorem dX7_unlike_10 : decode cX7_unlike 10 = .ok (.aload_n 0, 1) := by decide +kernel
theorem dX7_unlike_11 : decode cX7_unlike 11 = .ok (.iload_n 3, 1) := by decide +kernel
theorem dX7_unlike_12 : decode cX7_unlike 12 = .ok (.iload 4, 2) := by decide +kernel
theorem dX7_unlike_14 : decode cX7_unlike 14 = .ok (.invokevirtual 169, 3) := by decide +kernel
theorem dX7_unlike_17 : decode cX7_unlike 17 = .ok (.aload_n 0, 1) := by decide +kernel
theorem dX7_unlike_18 : decode cX7_unlike 18 = .ok (.getfield 31, 3) := by decide +kernel
theorem dX7_unlike_21 : decode cX7_unlike 21 = .ok (.iconst 0, 1) := by decide +kernel
theorem dX7_unlike_22 : decode cX7_unlike 22 = .ok (.iload_n 3, 1) := by decide +kernel
theorem dX7_unlike_23 : decode cX7_unlike 23 = .ok (.iload 4, 2) := by decide +kernel
theorem dX7_unlike_25 : decode cX7_unlike 25 = .ok (.invokevirtual 172, 3) := by decide +kernel
theorem dX7_unlike_28 : decode cX7_unlike 28 = .ok (.aload_n 0, 1) := by decide +kernel
theorem dX7_unlike_29 : decode cX7_unlike 29 = .ok (.getfield 31, 3) := by decide +kernel
theorem dX7_unlike_32 : decode cX7_unlike 32 = .ok (.iconst 0, 1) := by decide +kernel
theorem dX7_unlike_33 : decode cX7_unlike 33 = .ok (.aload_n 0, 1) := by decide +kernel
theorem dX7_unlike_34 : decode cX7_unlike 34 = .ok (.getfield 19, 3) := by decide +kernel
theorem dX7_unlike_37 : decode cX7_unlike 37 = .ok (.getfield 247, 3) := by decide +kernel
theorem dX7_unlike_40 : decode cX7_unlike 40 = .ok (.iload_n 1, 1) := by decide +kernel
theorem dX7_unlike_41 : decode cX7_unlike 41 = .ok (.iconst 4, 1) := by decide +kernel
theorem dX7_unlike_42 : decode cX7_unlike 42 = .ok (.imul, 1) := by decide +kernel
theorem dX7_unlike_43 : decode cX7_unlike 43 = .ok (.invokevirtual 176, 3) := by decide +kernel
theorem dX7_unlike_46 : decode cX7_unlike 46 = .ok (.aload_n 0, 1) := by decide +kernel
theorem dX7_unlike_47 : decode cX7_unlike 47 = .ok (.getfield 31, 3) := by decide +kernel
theorem dX7_unlike_50 : decode cX7_unlike 50 = .ok (.invokevirtual 250, 3) := by decide +kernel
theorem dX7_unlike_53 : decode cX7_unlike 53 = .ok (.aload_n 0, 1) := by decide +kernel
theorem dX7_unlike_54 : decode cX7_unlike 54 = .ok (.getfield 31, 3) := by decide +kernel
theorem dX7_unlike_57 : decode cX7_unlike 57 = .ok (.iconst 0, 1) := by decide +kernel
theorem dX7_unlike_58 : decode cX7_unlike 58 = .ok (.aload_n 0, 1) := by decide +kernel
theorem dX7_unlike_59 : decode cX7_unlike 59 = .ok (.getfield 19, 3) := by decide +kernel
theorem dX7_unlike_62 : decode cX7_unlike 62 = .ok (.getfield 247, 3) := by decide +kernel
theorem dX7_unlike_65 : decode cX7_unlike 65 = .ok (.iload_n 2, 1) := by decide +kernel
theorem dX7_unlike_66 : decode cX7_unlike 66 = .ok (.iconst 4, 1) := by decide +kernel
theorem dX7_unlike_67 : decode cX7_unlike 67 = .ok (.imul, 1) := by decide +kernel
theorem dX7_unlike_68 : decode cX7_unlike 68 = .ok (.invokevirtual 176, 3) := by decide +kernel
theorem dX7_unlike_71 : decode cX7_unlike 71 = .ok (.aload_n 0, 1) := by decide +kernel
theorem dX7_unlike_72 : decode cX7_unlike 72 = .ok (.getfield 31, 3) := by decide +kernel
theorem dX7_unlike_75 : decode cX7_unlike 75 = .ok (.invokevirtual 253, 3) := by decide +kernel
theorem dX7_unlike_78 : decode cX7_unlike 78 = .ok (.ireturn, 1) := by decide +kernel
theorem dX7_shaped_0 : decode cX7_shaped 0 = .ok (.aload_n 0, 1) := by decide +kernel
theorem dX7_shaped_1 : decode cX7_shaped 1 = .ok (.iload_n 1, 1) := by decide +kernel
theorem dX7_shaped_2 : decode cX7_shaped 2 = .ok (.invokevirtual 100, 3) := by decide +kernel
theorem dX7_shaped_5 : decode cX7_shaped 5 = .ok (.iload_n 2, 1) := by decide +kernel
theorem dX7_shaped_6 : decode cX7_shaped 6 = .ok (.ifCond .lt 9, 3) := by decide +kernel
theorem dX7_shaped_9 : decode cX7_shaped 9 = .ok (.iload_n 2, 1) := by decide +kernel
theorem dX7_shaped_10 : decode cX7_shaped 10 = .ok (.ldc 91, 2) := by decide +kernel
theorem dX7_shaped_12 : decode cX7_shaped 12 = .ok (.if_icmp .le 14, 3) := by decide +kernel
theorem dX7_shaped_15 : decode cX7_shaped 15 = .ok (.new 70, 3) := by decide +kernel
theorem dX7_shaped_18 : decode cX7_shaped 18 = .ok (.dup, 1) := by decide +kernel
theorem dX7_shaped_19 : decode cX7_shaped 19 = .ok (.ldc_w 256, 3) := by decide +kernel
theorem dX7_shaped_22 : decode cX7_shaped 22 = .ok (.invokespecial 74, 3) := by decide +kernel
theorem dX7_shaped_25 : decode cX7_shaped 25 = .ok (.athrow, 1) := by decide +kernel
theorem dX7_shaped_26 : decode cX7_shaped 26 = .ok (.aload_n 0, 1) := by decide +kernel
theorem dX7_shaped_27 : decode cX7_shaped 27 = .ok (.getfield 19, 3) := by decide +kernel
theorem dX7_shaped_30 : decode cX7_shaped 30 = .ok (.getfield 103, 3) := by decide +kernel
theorem dX7_shaped_33 : decode cX7_shaped 33 = .ok (.iload_n 1, 1) := by decide +kernel
theorem dX7_shaped_34 : decode cX7_shaped 34 = .ok (.iaload, 1) := by decide +kernel
theorem dX7_shaped_35 : decode cX7_shaped 35 = .ok (.iload_n 2, 1) := by decide +kernel
theorem dX7_shaped_36 : decode cX7_shaped 36 = .ok (.invokestatic 258, 3) := by decide +kernel
theorem dX7_shaped_39 : decode cX7_shaped 39 = .ok (.ireturn, 1) := by decide +kernel
theorem dX7_order_0 : decode cX7_order 0 = .ok (.iload_n 1, 1) := by decide +kernel
theorem dX7_order_1 : decode cX7_order 1 = .ok (.iconst (-1), 1) := by decide +kernel
theorem dX7_order_2 : decode cX7_order 2 = .ok (.if_icmp .ge 14, 3) := by decide +kernel
theorem dX7_order_5 : decode cX7_order 5 = .ok (.new 70, 3) := by decide +kernel
theorem dX7_order_8 : decode cX7_order 8 = .ok (.dup, 1) := by decide +kernel
theorem dX7_order_9 : decode cX7_order 9 = .ok (.ldc_w 261, 3) := by decide +kernel
theorem dX7_order_12 : decode cX7_order 12 = .ok (.invokespecial 74, 3) := by decide +kernel
theorem dX7_order_15 : decode cX7_order 15 = .ok (.athrow, 1) := by decide +kernel
theorem dX7_order_16 : decode cX7_order 16 = .ok (.aload_n 0, 1) := by decide +kernel
theorem dX7_order_17 : decode cX7_order 17 = .ok (.getfield 19, 3) := by decide +kernel
theorem dX7_order_20 : decode cX7_order 20 = .ok (.getfield 263, 3) := by decide +kernel
theorem dX7_order_23 : decode cX7_order 23 = .ok (.bipush 8, 2) := by decide +kernel
theorem dX7_order_25 : decode cX7_order 25 = .ok (.if_icmp .le 6, 3) := by decide +kernel
theorem dX7_order_28 : decode cX7_order 28 = .ok (.bipush (-3), 2) := by decide +kernel
theorem dX7_order_30 : decode cX7_order 30 = .ok (.ireturn, 1) := by decide +kernel
theorem dX7_order_31 : decode cX7_order 31 = .ok (.iload_n 1, 1) := by decide +kernel
theorem dX7_order_32 : decode cX7_order 32 = .ok (.aload_n 0, 1) := by decide +kernel
theorem dX7_order_33 : decode cX7_order 33 = .ok (.getfield 19, 3) := by decide +kernel
theorem dX7_order_36 : decode cX7_order 36 = .ok (.getfield 263, 3) := by decide +kernel
theorem dX7_order_39 : decode cX7_order 39 = .ok (.if_icmp .lt 5, 3) := by decide +kernel
theorem dX7_order_42 : decode cX7_order 42 = .ok (.iconst (-1), 1) := by decide +kernel
theorem dX7_order_43 : decode cX7_order 43 = .ok (.ireturn, 1) := by decide +kernel
theorem dX7_order_44 : decode cX7_order 44 = .ok (.aload_n 0, 1) := by decide +kernel
theorem dX7_order_45 : decode cX7_order 45 = .ok (.getfield 47, 3) := by decide +kernel
theorem dX7_order_48 : decode cX7_order 48 = .ok (.aload_n 0, 1) := by decide +kernel
theorem dX7_order_49 : decode cX7_order 49 = .ok (.getfield 19, 3) := by decide +kernel
theorem dX7_order_52 : decode cX7_order 52 = .ok (.invokevirtual 266, 3) := by decide +kernel
theorem dX7_order_55 : decode cX7_order 55 = .ok (.iload_n 1, 1) := by decide +kernel
theorem dX7_order_56 : decode cX7_order 56 = .ok (.iconst (-1), 1) := by decide +kernel
theorem dX7_order_57 : decode cX7_order 57 = .ok (.if_icmp .ne 13, 3) := by decide +kernel
theorem dX7_order_60 : decode cX7_order 60 = .ok (.aload_n 0, 1) := by decide +kernel
theorem dX7_order_61 : decode cX7_order 61 = .ok (.getfield 47, 3) := by decide +kernel
theorem dX7_order_64 : decode cX7_order 64 = .ok (.invokevirtual 269, 3) := by decide +kernel
theorem dX7_order_67 : decode cX7_order 67 = .ok (.goto 11, 3) := by decide +kernel
theorem dX7_order_70 : decode cX7_order 70 = .ok (.aload_n 0, 1) := by decide +kernel
theorem dX7_order_71 : decode cX7_order 71 = .ok (.getfield 47, 3) := by decide +kernel
theorem dX7_order_74 : decode cX7_order 74 = .ok (.iload_n 1, 1) := by decide +kernel
theorem dX7_order_75 : decode cX7_order 75 = .ok (.invokevirtual 271, 3) := by decide +kernel
theorem dX7_order_78 : decode cX7_order 78 = .ok (.ireturn, 1) := by decide +kernel
theorem dX7_together_0 : decode cX7_together 0 = .ok (.iload_n 1, 1) := by decide +kernel
theorem dX7_together_1 : decode cX7_together 1 = .ok (.iconst (-1), 1) := by decide +kernel
theorem dX7_together_2 : decode cX7_together 2 = .ok (.if_icmp .eq 8, 3) := by decide +kernel
theorem dX7_together_5 : decode cX7_together 5 = .ok (.aload_n 0, 1) := by decide +kernel
theorem dX7_together_6 : decode cX7_together 6 = .ok (.iload_n 1, 1) := by decide +kernel
theorem dX7_together_7 : decode cX7_together 7 = .ok (.invokevirtual 156, 3) := by decide +kernel
theorem dX7_together_10 : decode cX7_together 10 = .ok (.aload_n 0, 1) := by decide +kernel
theorem dX7_together_11 : decode cX7_together 11 = .ok (.getfield 40, 3) := by decide +kernel
theorem dX7_together_14 : decode cX7_together 14 = .ok (.invokevirtual 274, 3) := by decide +kernel
theorem dX7_together_17 : decode cX7_together 17 = .ok (.iload_n 1, 1) := by decide +kernel
theorem dX7_together_18 : decode cX7_together 18 = .ok (.iconst (-1), 1) := by decide +kernel
theorem dX7_together_19 : decode cX7_together 19 = .ok (.if_icmp .ne 13, 3) := by decide +kernel
theorem dX7_together_22 : decode cX7_together 22 = .ok (.aload_n 0, 1) := by decide +kernel
theorem dX7_together_23 : decode cX7_together 23 = .ok (.getfield 40, 3) := by decide +kernel
theorem dX7_together_26 : decode cX7_together 26 = .ok (.getfield 206, 3) := by decide +kernel
theorem dX7_together_29 : decode cX7_together 29 = .ok (.goto 12, 3) := by decide +kernel
theorem dX7_together_32 : decode cX7_together 32 = .ok (.aload_n 0, 1) := by decide +kernel
theorem dX7_together_33 : decode cX7_together 33 = .ok (.getfield 40, 3) := by decide +kernel
theorem dX7_together_36 : decode cX7_together 36 = .ok (.getfield 209, 3) := by decide +kernel
theorem dX7_together_39 : decode cX7_together 39 = .ok (.iload_n 1, 1) := by decide +kernel
theorem dX7_together_40 : decode cX7_together 40 = .ok (.iaload, 1) := by decide +kernel
theorem dX7_together_41 : decode cX7_together 41 = .ok (.ireturn, 1) := by decide +kernel
theorem dX7_bound_0 : decode cX7_bound 0 = .ok (.aload_n 0, 1) := by decide +kernel
theorem dX7_bound_1 : decode cX7_bound 1 = .ok (.iload_n 1, 1) := by decide +kernel
theorem dX7_bound_2 : decode cX7_bound 2 = .ok (.invokevirtual 188, 3) := by decide +kernel
theorem dX7_bound_5 : decode cX7_bound 5 = .ok (.aload_n 0, 1) := by decide +kernel
theorem dX7_bound_6 : decode cX7_bound 6 = .ok (.iload_n 2, 1) := by decide +kernel
theorem dX7_bound_7 : decode cX7_bound 7 = .ok (.iload_n 3, 1) := by decide +kernel
theorem dX7_bound_8 : decode cX7_bound 8 = .ok (.invokevirtual 169, 3) := by decide +kernel
theorem dX7_bound_11 : decode cX7_bound 11 = .ok (.aload_n 0, 1) := by decide +kernel
theorem dX7_bound_12 : decode cX7_bound 12 = .ok (.getfield 40, 3) := by decide +kernel
theorem dX7_bound_15 : decode cX7_bound 15 = .ok (.iload_n 1, 1) := by decide +kernel
theorem dX7_bound_16 : decode cX7_bound 16 = .ok (.iload_n 2, 1) := by decide +kernel
theorem dX7_bound_17 : decode cX7_bound 17 = .ok (.iload_n 3, 1) := by decide +kernel
theorem dX7_bound_18 : decode cX7_bound 18 = .ok (.invokevirtual 203, 3) := by decide +kernel
theorem dX7_bound_21 : decode cX7_bound 21 = .ok (.aload_n 0, 1) := by decide +kernel
theorem dX7_bound_22 : decode cX7_bound 22 = .ok (.getfield 40, 3) := by decide +kernel
theorem dX7_bound_25 : decode cX7_bound 25 = .ok (.invokevirtual 277, 3) := by decide +kernel
theorem dX7_bound_28 : decode cX7_bound 28 = .ok (.ireturn, 1) := by decide +kernel
theorem dX7_helps_0 : decode cX7_helps 0 = .ok (.aload_n 0, 1) := by decide +kernel
theorem dX7_helps_1 : decode cX7_helps 1 = .ok (.iload_n 1, 1) := by decide +kernel
theorem dX7_helps_2 : decode cX7_helps 2 = .ok (.invokevirtual 100, 3) := by decide +kernel
theorem dX7_helps_5 : decode cX7_helps 5 = .ok (.aload_n 0, 1) := by decide +kernel
theorem dX7_helps_6 : decode cX7_helps 6 = .ok (.iload_n 2, 1) := by decide +kernel
theorem dX7_helps_7 : decode cX7_helps 7 = .ok (.invokevirtual 188, 3) := by decide +kernel
theorem dX7_helps_10 : decode cX7_helps 10 = .ok (.aload_n 0, 1) := by decide +kernel
theorem dX7_helps_11 : decode cX7_helps 11 = .ok (.iload_n 3, 1) := by decide +kernel
theorem dX7_helps_12 : decode cX7_helps 12 = .ok (.iload 4, 2) := by decide +kernel
theorem dX7_helps_14 : decode cX7_helps 14 = .ok (.invokevirtual 169, 3) := by decide +kernel
theorem dX7_helps_17 : decode cX7_helps 17 = .ok (.aload_n 0, 1) := by decide +kernel
theorem dX7_helps_18 : decode cX7_helps 18 = .ok (.getfield 19, 3) := by decide +kernel
theorem dX7_helps_21 : decode cX7_helps 21 = .ok (.getfield 159, 3) := by decide +kernel
theorem dX7_helps_24 : decode cX7_helps 24 = .ok (.iconst 0, 1) := by decide +kernel
theorem dX7_helps_25 : decode cX7_helps 25 = .ok (.iload_n 1, 1) := by decide +kernel
theorem dX7_helps_26 : decode cX7_helps 26 = .ok (.invokestatic 280, 3) := by decide +kernel
theorem dX7_helps_29 : decode cX7_helps 29 = .ok (.istore 5, 2) := by decide +kernel
theorem dX7_helps_31 : decode cX7_helps 31 = .ok (.iload 5, 2) := by decide +kernel
theorem dX7_helps_33 : decode cX7_helps 33 = .ok (.iconst (-1), 1) := by decide +kernel
theorem dX7_helps_34 : decode cX7_helps 34 = .ok (.if_icmp .ne 14, 3) := by decide +kernel
theorem dX7_helps_37 : decode cX7_helps 37 = .ok (.new 110, 3) := by decide +kernel
theorem dX7_helps_40 : decode cX7_helps 40 = .ok (.dup, 1) := by decide +kernel
theorem dX7_helps_41 : decode cX7_helps 41 = .ok (.ldc_w 284, 3) := by decide +kernel
theorem dX7_helps_44 : decode cX7_helps 44 = .ok (.invokespecial 114, 3) := by decide +kernel
theorem dX7_helps_47 : decode cX7_helps 47 = .ok (.athrow, 1) := by decide +kernel
theorem dX7_helps_48 : decode cX7_helps 48 = .ok (.aload_n 0, 1) := by decide +kernel
theorem dX7_helps_49 : decode cX7_helps 49 = .ok (.getfield 31, 3) := by decide +kernel
theorem dX7_helps_52 : decode cX7_helps 52 = .ok (.iconst 0, 1) := by decide +kernel
theorem dX7_helps_53 : decode cX7_helps 53 = .ok (.iload_n 3, 1) := by decide +kernel
theorem dX7_helps_54 : decode cX7_helps 54 = .ok (.iload 4, 2) := by decide +kernel
theorem dX7_helps_56 : decode cX7_helps 56 = .ok (.invokevirtual 172, 3) := by decide +kernel
theorem dX7_helps_59 : decode cX7_helps 59 = .ok (.aload_n 0, 1) := by decide +kernel
theorem dX7_helps_60 : decode cX7_helps 60 = .ok (.getfield 40, 3) := by decide +kernel
theorem dX7_helps_63 : decode cX7_helps 63 = .ok (.iload 5, 2) := by decide +kernel
theorem dX7_helps_65 : decode cX7_helps 65 = .ok (.iload_n 2, 1) := by decide +kernel
theorem dX7_helps_66 : decode cX7_helps 66 = .ok (.invokevirtual 286, 3) := by decide +kernel
theorem dX7_helps_69 : decode cX7_helps 69 = .ok (.aload_n 0, 1) := by decide +kernel
theorem dX7_helps_70 : decode cX7_helps 70 = .ok (.getfield 31, 3) := by decide +kernel
theorem dX7_helps_73 : decode cX7_helps 73 = .ok (.iconst 0, 1) := by decide +kernel
theorem dX7_helps_74 : decode cX7_helps 74 = .ok (.iload_n 2, 1) := by decide +kernel
theorem dX7_helps_75 : decode cX7_helps 75 = .ok (.aload_n 0, 1) := by decide +kernel
theorem dX7_helps_76 : decode cX7_helps 76 = .ok (.getfield 19, 3) := by decide +kernel
theorem dX7_helps_79 : decode cX7_helps 79 = .ok (.getfield 159, 3) := by decide +kernel
theorem dX7_helps_82 : decode cX7_helps 82 = .ok (.invokevirtual 196, 3) := by decide +kernel
theorem dX7_helps_85 : decode cX7_helps 85 = .ok (.isub, 1) := by decide +kernel
theorem dX7_helps_86 : decode cX7_helps 86 = .ok (.ireturn, 1) := by decide +kernel
theorem dX7_anew_0 : decode cX7_anew 0 = .ok (.aload_n 0, 1) := by decide +kernel
theorem dX7_anew_1 : decode cX7_anew 1 = .ok (.iload_n 1, 1) := by decide +kernel
theorem dX7_anew_2 : decode cX7_anew 2 = .ok (.invokevirtual 100, 3) := by decide +kernel
theorem dX7_anew_5 : decode cX7_anew 5 = .ok (.aload_n 0, 1) := by decide +kernel
theorem dX7_anew_6 : decode cX7_anew 6 = .ok (.iload_n 2, 1) := by decide +kernel
theorem dX7_anew_7 : decode cX7_anew 7 = .ok (.invokevirtual 188, 3) := by decide +kernel
theorem dX7_anew_10 : decode cX7_anew 10 = .ok (.aload_n 0, 1) := by decide +kernel
theorem dX7_anew_11 : decode cX7_anew 11 = .ok (.iload_n 3, 1) := by decide +kernel
theorem dX7_anew_12 : decode cX7_anew 12 = .ok (.iload 4, 2) := by decide +kernel
theorem dX7_anew_14 : decode cX7_anew 14 = .ok (.invokevirtual 169, 3) := by decide +kernel
theorem dX7_anew_17 : decode cX7_anew 17 = .ok (.aload_n 0, 1) := by decide +kernel
theorem dX7_anew_18 : decode cX7_anew 18 = .ok (.getfield 19, 3) := by decide +kernel
theorem dX7_anew_21 : decode cX7_anew 21 = .ok (.getfield 159, 3) := by decide +kernel
theorem dX7_anew_24 : decode cX7_anew 24 = .ok (.iconst 0, 1) := by decide +kernel
theorem dX7_anew_25 : decode cX7_anew 25 = .ok (.iload_n 1, 1) := by decide +kernel
theorem dX7_anew_26 : decode cX7_anew 26 = .ok (.invokestatic 280, 3) := by decide +kernel
theorem dX7_anew_29 : decode cX7_anew 29 = .ok (.istore 5, 2) := by decide +kernel
theorem dX7_anew_31 : decode cX7_anew 31 = .ok (.aload_n 0, 1) := by decide +kernel
theorem dX7_anew_32 : decode cX7_anew 32 = .ok (.getfield 19, 3) := by decide +kernel
theorem dX7_anew_35 : decode cX7_anew 35 = .ok (.getfield 148, 3) := by decide +kernel
theorem dX7_anew_38 : decode cX7_anew 38 = .ok (.ifCond .ne 21, 3) := by decide +kernel
theorem dX7_anew_41 : decode cX7_anew 41 = .ok (.iload 5, 2) := by decide +kernel
theorem dX7_anew_43 : decode cX7_anew 43 = .ok (.iconst (-1), 1) := by decide +kernel
theorem dX7_anew_44 : decode cX7_anew 44 = .ok (.if_icmp .eq 15, 3) := by decide +kernel
theorem dX7_anew_47 : decode cX7_anew 47 = .ok (.aload_n 0, 1) := by decide +kernel
theorem dX7_anew_48 : decode cX7_anew 48 = .ok (.getfield 19, 3) := by decide +kernel
theorem dX7_anew_51 : decode cX7_anew 51 = .ok (.iload_n 1, 1) := by decide +kernel
theorem dX7_anew_52 : decode cX7_anew 52 = .ok (.iload_n 3, 1) := by decide +kernel
theorem dX7_anew_53 : decode cX7_anew 53 = .ok (.invokevirtual 289, 3) := by decide +kernel
theorem dX7_anew_56 : decode cX7_anew 56 = .ok (.ifCond .ne 14, 3) := by decide +kernel
theorem dX7_anew_59 : decode cX7_anew 59 = .ok (.new 110, 3) := by decide +kernel
theorem dX7_anew_62 : decode cX7_anew 62 = .ok (.dup, 1) := by decide +kernel
theorem dX7_anew_63 : decode cX7_anew 63 = .ok (.ldc_w 293, 3) := by decide +kernel
theorem dX7_anew_66 : decode cX7_anew 66 = .ok (.invokespecial 114, 3) := by decide +kernel
theorem dX7_anew_69 : decode cX7_anew 69 = .ok (.athrow, 1) := by decide +kernel
theorem dX7_anew_70 : decode cX7_anew 70 = .ok (.aload_n 0, 1) := by decide +kernel
theorem dX7_anew_71 : decode cX7_anew 71 = .ok (.getfield 31, 3) := by decide +kernel
theorem dX7_anew_74 : decode cX7_anew 74 = .ok (.iconst 0, 1) := by decide +kernel
theorem dX7_anew_75 : decode cX7_anew 75 = .ok (.iload_n 3, 1) := by decide +kernel
theorem dX7_anew_76 : decode cX7_anew 76 = .ok (.iload 4, 2) := by decide +kernel
theorem dX7_anew_78 : decode cX7_anew 78 = .ok (.invokevirtual 172, 3) := by decide +kernel
theorem dX7_anew_81 : decode cX7_anew 81 = .ok (.iconst 0, 1) := by decide +kernel
theorem dX7_anew_82 : decode cX7_anew 82 = .ok (.istore 6, 2) := by decide +kernel
theorem dX7_anew_84 : decode cX7_anew 84 = .ok (.iconst 0, 1) := by decide +kernel
theorem dX7_anew_85 : decode cX7_anew 85 = .ok (.istore 7, 2) := by decide +kernel
theorem dX7_anew_87 : decode cX7_anew 87 = .ok (.iload 7, 2) := by decide +kernel
theorem dX7_anew_89 : decode cX7_anew 89 = .ok (.bipush 25, 2) := by decide +kernel
theorem dX7_anew_91 : decode cX7_anew 91 = .ok (.if_icmp .ge 34, 3) := by decide +kernel
theorem dX7_anew_94 : decode cX7_anew 94 = .ok (.aload_n 0, 1) := by decide +kernel
theorem dX7_anew_95 : decode cX7_anew 95 = .ok (.iload 5, 2) := by decide +kernel
theorem dX7_anew_97 : decode cX7_anew 97 = .ok (.iload_n 2, 1) := by decide +kernel
theorem dX7_anew_98 : decode cX7_anew 98 = .ok (.iload 4, 2) := by decide +kernel
theorem dX7_anew_100 : decode cX7_anew 100 = .ok (.iconst 1, 1) := by decide +kernel
theorem dX7_anew_101 : decode cX7_anew 101 = .ok (.iload 7, 2) := by decide +kernel
theorem dX7_anew_103 : decode cX7_anew 103 = .ok (.ishl, 1) := by decide +kernel
theorem dX7_anew_104 : decode cX7_anew 104 = .ok (.invokevirtual 295, 3) := by decide +kernel
theorem dX7_anew_107 : decode cX7_anew 107 = .ok (.ifCond .eq 12, 3) := by decide +kernel
theorem dX7_anew_110 : decode cX7_anew 110 = .ok (.iload 6, 2) := by decide +kernel
theorem dX7_anew_112 : decode cX7_anew 112 = .ok (.iconst 1, 1) := by decide +kernel
theorem dX7_anew_113 : decode cX7_anew 113 = .ok (.iload 7, 2) := by decide +kernel
theorem dX7_anew_115 : decode cX7_anew 115 = .ok (.ishl, 1) := by decide +kernel
theorem dX7_anew_116 : decode cX7_anew 116 = .ok (.ior, 1) := by decide +kernel
theorem dX7_anew_117 : decode cX7_anew 117 = .ok (.istore 6, 2) := by decide +kernel
theorem dX7_anew_119 : decode cX7_anew 119 = .ok (.iinc 7 1, 3) := by decide +kernel
theorem dX7_anew_122 : decode cX7_anew 122 = .ok (.goto (-35), 3) := by decide +kernel
theorem dX7_anew_125 : decode cX7_anew 125 = .ok (.iload 6, 2) := by decide +kernel
theorem dX7_anew_127 : decode cX7_anew 127 = .ok (.ireturn, 1) := by decide +kernel
theorem dX7_frame_0 : decode cX7_frame 0 = .ok (.aload_n 0, 1) := by decide +kernel
theorem dX7_frame_1 : decode cX7_frame 1 = .ok (.getfield 19, 3) := by decide +kernel
theorem dX7_frame_4 : decode cX7_frame 4 = .ok (.getfield 263, 3) := by decide +kernel
theorem dX7_frame_7 : decode cX7_frame 7 = .ok (.bipush 12, 2) := by decide +kernel
theorem dX7_frame_9 : decode cX7_frame 9 = .ok (.if_icmp .lt 14, 3) := by decide +kernel
theorem dX7_frame_12 : decode cX7_frame 12 = .ok (.new 84, 3) := by decide +kernel
theorem dX7_frame_15 : decode cX7_frame 15 = .ok (.dup, 1) := by decide +kernel
theorem dX7_frame_16 : decode cX7_frame 16 = .ok (.ldc_w 299, 3) := by decide +kernel
theorem dX7_frame_19 : decode cX7_frame 19 = .ok (.invokespecial 88, 3) := by decide +kernel
theorem dX7_frame_22 : decode cX7_frame 22 = .ok (.athrow, 1) := by decide +kernel
theorem dX7_frame_23 : decode cX7_frame 23 = .ok (.aload_n 0, 1) := by decide +kernel
theorem dX7_frame_24 : decode cX7_frame 24 = .ok (.getfield 19, 3) := by decide +kernel
theorem dX7_frame_27 : decode cX7_frame 27 = .ok (.invokevirtual 301, 3) := by decide +kernel
theorem dX7_frame_30 : decode cX7_frame 30 = .ok (.ireturn, 1) := by decide +kernel
theorem dX7_moves_0 : decode cX7_moves 0 = .ok (.aload_n 0, 1) := by decide +kernel
theorem dX7_moves_1 : decode cX7_moves 1 = .ok (.iload_n 1, 1) := by decide +kernel
theorem dX7_moves_2 : decode cX7_moves 2 = .ok (.invokevirtual 244, 3) := by decide +kernel
theorem dX7_moves_5 : decode cX7_moves 5 = .ok (.aload_n 0, 1) := by decide +kernel
theorem dX7_moves_6 : decode cX7_moves 6 = .ok (.iload_n 2, 1) := by decide +kernel
theorem dX7_moves_7 : decode cX7_moves 7 = .ok (.invokevirtual 244, 3) := by decide +kernel
theorem dX7_moves_10 : decode cX7_moves 10 = .ok (.aload_n 0, 1) := by decide +kernel
theorem dX7_moves_11 : decode cX7_moves 11 = .ok (.getfield 19, 3) := by decide +kernel
theorem dX7_moves_14 : decode cX7_moves 14 = .ok (.iload_n 1, 1) := by decide +kernel
theorem dX7_moves_15 : decode cX7_moves 15 = .ok (.iload_n 2, 1) := by decide +kernel
theorem dX7_moves_16 : decode cX7_moves 16 = .ok (.invokevirtual 304, 3) := by decide +kernel
theorem dX7_moves_19 : decode cX7_moves 19 = .ok (.ireturn, 1) := by decide +kernel
theorem dX7_row_0 : decode cX7_row 0 = .ok (.iconst 0, 1) := by decide +kernel
theorem dX7_row_1 : decode cX7_row 1 = .ok (.istore_n 1, 1) := by decide +kernel
theorem dX7_row_2 : decode cX7_row 2 = .ok (.iconst 1, 1) := by decide +kernel
theorem dX7_row_3 : decode cX7_row 3 = .ok (.istore_n 2, 1) := by decide +kernel
theorem dX7_row_4 : decode cX7_row 4 = .ok (.iload_n 2, 1) := by decide +kernel
theorem dX7_row_5 : decode cX7_row 5 = .ok (.aload_n 0, 1) := by decide +kernel
theorem dX7_row_6 : decode cX7_row 6 = .ok (.getfield 19, 3) := by decide +kernel
theorem dX7_row_9 : decode cX7_row 9 = .ok (.getfield 263, 3) := by decide +kernel
theorem dX7_row_12 : decode cX7_row 12 = .ok (.if_icmp .ge 23, 3) := by decide +kernel
theorem dX7_row_15 : decode cX7_row 15 = .ok (.iload_n 1, 1) := by decide +kernel
theorem dX7_row_16 : decode cX7_row 16 = .ok (.aload_n 0, 1) := by decide +kernel
theorem dX7_row_17 : decode cX7_row 17 = .ok (.getfield 19, 3) := by decide +kernel
theorem dX7_row_20 : decode cX7_row 20 = .ok (.iload_n 2, 1) := by decide +kernel
theorem dX7_row_21 : decode cX7_row 21 = .ok (.iconst 1, 1) := by decide +kernel
theorem dX7_row_22 : decode cX7_row 22 = .ok (.isub, 1) := by decide +kernel
theorem dX7_row_23 : decode cX7_row 23 = .ok (.iload_n 2, 1) := by decide +kernel
theorem dX7_row_24 : decode cX7_row 24 = .ok (.invokevirtual 304, 3) := by decide +kernel
theorem dX7_row_27 : decode cX7_row 27 = .ok (.iadd, 1) := by decide +kernel
theorem dX7_row_28 : decode cX7_row 28 = .ok (.istore_n 1, 1) := by decide +kernel
theorem dX7_row_29 : decode cX7_row 29 = .ok (.iinc 2 1, 3) := by decide +kernel
theorem dX7_row_32 : decode cX7_row 32 = .ok (.goto (-28), 3) := by decide +kernel
theorem dX7_row_35 : decode cX7_row 35 = .ok (.iload_n 1, 1) := by decide +kernel
theorem dX7_row_36 : decode cX7_row 36 = .ok (.ireturn, 1) := by decide +kernel
theorem dX7_take_0 : decode cX7_take 0 = .ok (.aload_n 0, 1) := by decide +kernel
theorem dX7_take_1 : decode cX7_take 1 = .ok (.iload_n 1, 1) := by decide +kernel
theorem dX7_take_2 : decode cX7_take 2 = .ok (.invokevirtual 244, 3) := by decide +kernel
theorem dX7_take_5 : decode cX7_take 5 = .ok (.iload_n 1, 1) := by decide +kernel
theorem dX7_take_6 : decode cX7_take 6 = .ok (.iconst 4, 1) := by decide +kernel
theorem dX7_take_7 : decode cX7_take 7 = .ok (.imul, 1) := by decide +kernel
theorem dX7_take_8 : decode cX7_take 8 = .ok (.istore_n 2, 1) := by decide +kernel
theorem dX7_take_9 : decode cX7_take 9 = .ok (.aload_n 0, 1) := by decide +kernel
theorem dX7_take_10 : decode cX7_take 10 = .ok (.getfield 19, 3) := by decide +kernel
theorem dX7_take_13 : decode cX7_take 13 = .ok (.getfield 159, 3) := by decide +kernel
theorem dX7_take_16 : decode cX7_take 16 = .ok (.iconst 0, 1) := by decide +kernel
theorem dX7_take_17 : decode cX7_take 17 = .ok (.aload_n 0, 1) := by decide +kernel
theorem dX7_take_18 : decode cX7_take 18 = .ok (.getfield 19, 3) := by decide +kernel
theorem dX7_take_21 : decode cX7_take 21 = .ok (.getfield 247, 3) := by decide +kernel
theorem dX7_take_24 : decode cX7_take 24 = .ok (.iload_n 2, 1) := by decide +kernel
theorem dX7_take_25 : decode cX7_take 25 = .ok (.invokestatic 307, 3) := by decide +kernel
theorem dX7_take_28 : decode cX7_take 28 = .ok (.istore_n 3, 1) := by decide +kernel
theorem dX7_take_29 : decode cX7_take 29 = .ok (.aload_n 0, 1) := by decide +kernel
theorem dX7_take_30 : decode cX7_take 30 = .ok (.getfield 19, 3) := by decide +kernel
theorem dX7_take_33 : decode cX7_take 33 = .ok (.getfield 247, 3) := by decide +kernel
theorem dX7_take_36 : decode cX7_take 36 = .ok (.iload_n 2, 1) := by decide +kernel
theorem dX7_take_37 : decode cX7_take 37 = .ok (.aload_n 0, 1) := by decide +kernel
theorem dX7_take_38 : decode cX7_take 38 = .ok (.getfield 19, 3) := by decide +kernel
theorem dX7_take_41 : decode cX7_take 41 = .ok (.getfield 159, 3) := by decide +kernel
theorem dX7_take_44 : decode cX7_take 44 = .ok (.iconst 0, 1) := by decide +kernel
theorem dX7_take_45 : decode cX7_take 45 = .ok (.iconst 4, 1) := by decide +kernel
theorem dX7_take_46 : decode cX7_take 46 = .ok (.invokestatic 311, 3) := by decide +kernel
theorem dX7_take_49 : decode cX7_take 49 = .ok (.iload_n 3, 1) := by decide +kernel
theorem dX7_take_50 : decode cX7_take 50 = .ok (.ireturn, 1) := by decide +kernel
theorem dX7_play_0 : decode cX7_play 0 = .ok (.iload_n 1, 1) := by decide +kernel
theorem dX7_play_1 : decode cX7_play 1 = .ok (.iconst 1, 1) := by decide +kernel
theorem dX7_play_2 : decode cX7_play 2 = .ok (.if_icmp .lt 9, 3) := by decide +kernel
theorem dX7_play_5 : decode cX7_play 5 = .ok (.iload_n 1, 1) := by decide +kernel
theorem dX7_play_6 : decode cX7_play 6 = .ok (.bipush 50, 2) := by decide +kernel
theorem dX7_play_8 : decode cX7_play 8 = .ok (.if_icmp .le 14, 3) := by decide +kernel
theorem dX7_play_11 : decode cX7_play 11 = .ok (.new 70, 3) := by decide +kernel
theorem dX7_play_14 : decode cX7_play 14 = .ok (.dup, 1) := by decide +kernel
theorem dX7_play_15 : decode cX7_play 15 = .ok (.ldc_w 317, 3) := by decide +kernel
theorem dX7_play_18 : decode cX7_play 18 = .ok (.invokespecial 74, 3) := by decide +kernel
theorem dX7_play_21 : decode cX7_play 21 = .ok (.athrow, 1) := by decide +kernel
theorem dX7_play_22 : decode cX7_play 22 = .ok (.iconst 0, 1) := by decide +kernel
theorem dX7_play_23 : decode cX7_play 23 = .ok (.istore_n 2, 1) := by decide +kernel
theorem dX7_play_24 : decode cX7_play 24 = .ok (.iconst 0, 1) := by decide +kernel
theorem dX7_play_25 : decode cX7_play 25 = .ok (.istore_n 3, 1) := by decide +kernel
theorem dX7_play_26 : decode cX7_play 26 = .ok (.iload_n 3, 1) := by decide +kernel
theorem dX7_play_27 : decode cX7_play 27 = .ok (.iload_n 1, 1) := by decide +kernel
theorem dX7_play_28 : decode cX7_play 28 = .ok (.if_icmp .ge 19, 3) := by decide +kernel
theorem dX7_play_31 : decode cX7_play 31 = .ok (.iload_n 2, 1) := by decide +kernel
theorem dX7_play_32 : decode cX7_play 32 = .ok (.aload_n 0, 1) := by decide +kernel
theorem dX7_play_33 : decode cX7_play 33 = .ok (.getfield 19, 3) := by decide +kernel
theorem dX7_play_36 : decode cX7_play 36 = .ok (.invokevirtual 319, 3) := by decide +kernel
theorem dX7_play_39 : decode cX7_play 39 = .ok (.iadd, 1) := by decide +kernel
theorem dX7_play_40 : decode cX7_play 40 = .ok (.istore_n 2, 1) := by decide +kernel
theorem dX7_play_41 : decode cX7_play 41 = .ok (.iinc 3 1, 3) := by decide +kernel
theorem dX7_play_44 : decode cX7_play 44 = .ok (.goto (-18), 3) := by decide +kernel
theorem dX7_play_47 : decode cX7_play 47 = .ok (.iload_n 2, 1) := by decide +kernel
theorem dX7_play_48 : decode cX7_play 48 = .ok (.ireturn, 1) := by decide +kernel
theorem dX7_uses_0 : decode cX7_uses 0 = .ok (.aload_n 0, 1) := by decide +kernel
theorem dX7_uses_1 : decode cX7_uses 1 = .ok (.iload_n 1, 1) := by decide +kernel
theorem dX7_uses_2 : decode cX7_uses 2 = .ok (.invokevirtual 100, 3) := by decide +kernel
theorem dX7_uses_5 : decode cX7_uses 5 = .ok (.aload_n 0, 1) := by decide +kernel
theorem dX7_uses_6 : decode cX7_uses 6 = .ok (.getfield 19, 3) := by decide +kernel
theorem dX7_uses_9 : decode cX7_uses 9 = .ok (.getfield 322, 3) := by decide +kernel
theorem dX7_uses_12 : decode cX7_uses 12 = .ok (.iload_n 1, 1) := by decide +kernel
theorem dX7_uses_13 : decode cX7_uses 13 = .ok (.iaload, 1) := by decide +kernel
theorem dX7_uses_14 : decode cX7_uses 14 = .ok (.ireturn, 1) := by decide +kernel
theorem dX7_paste_0 : decode cX7_paste 0 = .ok (.aload_n 0, 1) := by decide +kernel
theorem dX7_paste_1 : decode cX7_paste 1 = .ok (.iload_n 1, 1) := by decide +kernel
theorem dX7_paste_2 : decode cX7_paste 2 = .ok (.invokevirtual 100, 3) := by decide +kernel
theorem dX7_paste_5 : decode cX7_paste 5 = .ok (.aload_n 0, 1) := by decide +kernel
theorem dX7_paste_6 : decode cX7_paste 6 = .ok (.getfield 19, 3) := by decide +kernel
theorem dX7_paste_9 : decode cX7_paste 9 = .ok (.getfield 103, 3) := by decide +kernel
theorem dX7_paste_12 : decode cX7_paste 12 = .ok (.iload_n 1, 1) := by decide +kernel
theorem dX7_paste_13 : decode cX7_paste 13 = .ok (.iaload, 1) := by decide +kernel
theorem dX7_paste_14 : decode cX7_paste 14 = .ok (.aload_n 0, 1) := by decide +kernel
theorem dX7_paste_15 : decode cX7_paste 15 = .ok (.getfield 19, 3) := by decide +kernel
theorem dX7_paste_18 : decode cX7_paste 18 = .ok (.getfield 120, 3) := by decide +kernel
theorem dX7_paste_21 : decode cX7_paste 21 = .ok (.iload_n 1, 1) := by decide +kernel
theorem dX7_paste_22 : decode cX7_paste 22 = .ok (.iaload, 1) := by decide +kernel
theorem dX7_paste_23 : decode cX7_paste 23 = .ok (.ixor, 1) := by decide +kernel
theorem dX7_paste_24 : decode cX7_paste 24 = .ok (.invokestatic 115, 3) := by decide +kernel
theorem dX7_paste_27 : decode cX7_paste 27 = .ok (.istore_n 2, 1) := by decide +kernel
theorem dX7_paste_28 : decode cX7_paste 28 = .ok (.aload_n 0, 1) := by decide +kernel
theorem dX7_paste_29 : decode cX7_paste 29 = .ok (.getfield 19, 3) := by decide +kernel
theorem dX7_paste_32 : decode cX7_paste 32 = .ok (.getfield 103, 3) := by decide +kernel
theorem dX7_paste_35 : decode cX7_paste 35 = .ok (.iload_n 1, 1) := by decide +kernel
theorem dX7_paste_36 : decode cX7_paste 36 = .ok (.aload_n 0, 1) := by decide +kernel
theorem dX7_paste_37 : decode cX7_paste 37 = .ok (.getfield 19, 3) := by decide +kernel
theorem dX7_paste_40 : decode cX7_paste 40 = .ok (.getfield 120, 3) := by decide +kernel
theorem dX7_paste_43 : decode cX7_paste 43 = .ok (.iload_n 1, 1) := by decide +kernel
theorem dX7_paste_44 : decode cX7_paste 44 = .ok (.iaload, 1) := by decide +kernel
theorem dX7_paste_45 : decode cX7_paste 45 = .ok (.iastore, 1) := by decide +kernel
theorem dX7_paste_46 : decode cX7_paste 46 = .ok (.iload_n 2, 1) := by decide +kernel
theorem dX7_paste_47 : decode cX7_paste 47 = .ok (.ireturn, 1) := by decide +kernel
theorem dX7_seen_0 : decode cX7_seen 0 = .ok (.aload_n 0, 1) := by decide +kernel
theorem dX7_seen_1 : decode cX7_seen 1 = .ok (.iload_n 1, 1) := by decide +kernel
theorem dX7_seen_2 : decode cX7_seen 2 = .ok (.invokevirtual 188, 3) := by decide +kernel
theorem dX7_seen_5 : decode cX7_seen 5 = .ok (.aload_n 0, 1) := by decide +kernel
theorem dX7_seen_6 : decode cX7_seen 6 = .ok (.iload_n 2, 1) := by decide +kernel
theorem dX7_seen_7 : decode cX7_seen 7 = .ok (.iload_n 3, 1) := by decide +kernel
theorem dX7_seen_8 : decode cX7_seen 8 = .ok (.invokevirtual 169, 3) := by decide +kernel
theorem dX7_seen_11 : decode cX7_seen 11 = .ok (.aload_n 0, 1) := by decide +kernel
theorem dX7_seen_12 : decode cX7_seen 12 = .ok (.getfield 19, 3) := by decide +kernel
theorem dX7_seen_15 : decode cX7_seen 15 = .ok (.getfield 325, 3) := by decide +kernel
theorem dX7_seen_18 : decode cX7_seen 18 = .ok (.bipush 6, 2) := by decide +kernel
theorem dX7_seen_20 : decode cX7_seen 20 = .ok (.if_icmp .lt 14, 3) := by decide +kernel
theorem dX7_seen_23 : decode cX7_seen 23 = .ok (.new 84, 3) := by decide +kernel
theorem dX7_seen_26 : decode cX7_seen 26 = .ok (.dup, 1) := by decide +kernel
theorem dX7_seen_27 : decode cX7_seen 27 = .ok (.ldc_w 328, 3) := by decide +kernel
theorem dX7_seen_30 : decode cX7_seen 30 = .ok (.invokespecial 88, 3) := by decide +kernel
theorem dX7_seen_33 : decode cX7_seen 33 = .ok (.athrow, 1) := by decide +kernel
theorem dX7_seen_34 : decode cX7_seen 34 = .ok (.aload_n 0, 1) := by decide +kernel
theorem dX7_seen_35 : decode cX7_seen 35 = .ok (.getfield 19, 3) := by decide +kernel
theorem dX7_seen_38 : decode cX7_seen 38 = .ok (.iload_n 1, 1) := by decide +kernel
theorem dX7_seen_39 : decode cX7_seen 39 = .ok (.iload_n 2, 1) := by decide +kernel
theorem dX7_seen_40 : decode cX7_seen 40 = .ok (.iload_n 3, 1) := by decide +kernel
theorem dX7_seen_41 : decode cX7_seen 41 = .ok (.invokevirtual 330, 3) := by decide +kernel
theorem dX7_seen_44 : decode cX7_seen 44 = .ok (.ireturn, 1) := by decide +kernel
theorem dX7_guess_0 : decode cX7_guess 0 = .ok (.iload_n 1, 1) := by decide +kernel
theorem dX7_guess_1 : decode cX7_guess 1 = .ok (.iconst (-1), 1) := by decide +kernel
theorem dX7_guess_2 : decode cX7_guess 2 = .ok (.if_icmp .eq 8, 3) := by decide +kernel
theorem dX7_guess_5 : decode cX7_guess 5 = .ok (.aload_n 0, 1) := by decide +kernel
theorem dX7_guess_6 : decode cX7_guess 6 = .ok (.iload_n 1, 1) := by decide +kernel
theorem dX7_guess_7 : decode cX7_guess 7 = .ok (.invokevirtual 156, 3) := by decide +kernel
theorem dX7_guess_10 : decode cX7_guess 10 = .ok (.aload_n 0, 1) := by decide +kernel
theorem dX7_guess_11 : decode cX7_guess 11 = .ok (.getfield 40, 3) := by decide +kernel
theorem dX7_guess_14 : decode cX7_guess 14 = .ok (.invokevirtual 274, 3) := by decide +kernel
theorem dX7_guess_17 : decode cX7_guess 17 = .ok (.iload_n 1, 1) := by decide +kernel
theorem dX7_guess_18 : decode cX7_guess 18 = .ok (.iconst (-1), 1) := by decide +kernel
theorem dX7_guess_19 : decode cX7_guess 19 = .ok (.if_icmp .ne 11, 3) := by decide +kernel
theorem dX7_guess_22 : decode cX7_guess 22 = .ok (.aload_n 0, 1) := by decide +kernel
theorem dX7_guess_23 : decode cX7_guess 23 = .ok (.getfield 40, 3) := by decide +kernel
theorem dX7_guess_26 : decode cX7_guess 26 = .ok (.getfield 333, 3) := by decide +kernel
theorem dX7_guess_29 : decode cX7_guess 29 = .ok (.ireturn, 1) := by decide +kernel
theorem dX7_guess_30 : decode cX7_guess 30 = .ok (.aload_n 0, 1) := by decide +kernel
theorem dX7_guess_31 : decode cX7_guess 31 = .ok (.getfield 40, 3) := by decide +kernel
theorem dX7_guess_34 : decode cX7_guess 34 = .ok (.getfield 333, 3) := by decide +kernel
theorem dX7_guess_37 : decode cX7_guess 37 = .ok (.ifCond .ne 8, 3) := by decide +kernel
theorem dX7_guess_40 : decode cX7_guess 40 = .ok (.bipush (-2), 2) := by decide +kernel
theorem dX7_guess_42 : decode cX7_guess 42 = .ok (.goto 12, 3) := by decide +kernel
theorem dX7_guess_45 : decode cX7_guess 45 = .ok (.aload_n 0, 1) := by decide +kernel
theorem dX7_guess_46 : decode cX7_guess 46 = .ok (.getfield 40, 3) := by decide +kernel
theorem dX7_guess_49 : decode cX7_guess 49 = .ok (.getfield 209, 3) := by decide +kernel
theorem dX7_guess_52 : decode cX7_guess 52 = .ok (.iload_n 1, 1) := by decide +kernel
theorem dX7_guess_53 : decode cX7_guess 53 = .ok (.iaload, 1) := by decide +kernel
theorem dX7_guess_54 : decode cX7_guess 54 = .ok (.ireturn, 1) := by decide +kernel
theorem dX7_image_0 : decode cX7_image 0 = .ok (.aload_n 0, 1) := by decide +kernel
theorem dX7_image_1 : decode cX7_image 1 = .ok (.getfield 23, 3) := by decide +kernel
theorem dX7_image_4 : decode cX7_image 4 = .ok (.aload_n 0, 1) := by decide +kernel
theorem dX7_image_5 : decode cX7_image 5 = .ok (.getfield 19, 3) := by decide +kernel
theorem dX7_image_8 : decode cX7_image 8 = .ok (.invokevirtual 336, 3) := by decide +kernel
theorem dX7_image_11 : decode cX7_image 11 = .ok (.aload_n 0, 1) := by decide +kernel
theorem dX7_image_12 : decode cX7_image 12 = .ok (.iconst 1, 1) := by decide +kernel
theorem dX7_image_13 : decode cX7_image 13 = .ok (.putfield 51, 3) := by decide +kernel
theorem dX7_image_16 : decode cX7_image 16 = .ok (.return_, 1) := by decide +kernel
theorem dX7_back_0 : decode cX7_back 0 = .ok (.aload_n 0, 1) := by decide +kernel
theorem dX7_back_1 : decode cX7_back 1 = .ok (.getfield 51, 3) := by decide +kernel
theorem dX7_back_4 : decode cX7_back 4 = .ok (.ifCond .ne 5, 3) := by decide +kernel
theorem dX7_back_7 : decode cX7_back 7 = .ok (.iconst 0, 1) := by decide +kernel
theorem dX7_back_8 : decode cX7_back 8 = .ok (.ireturn, 1) := by decide +kernel
theorem dX7_back_9 : decode cX7_back 9 = .ok (.aload_n 0, 1) := by decide +kernel
theorem dX7_back_10 : decode cX7_back 10 = .ok (.getfield 19, 3) := by decide +kernel
theorem dX7_back_13 : decode cX7_back 13 = .ok (.aload_n 0, 1) := by decide +kernel
theorem dX7_back_14 : decode cX7_back 14 = .ok (.getfield 23, 3) := by decide +kernel
theorem dX7_back_17 : decode cX7_back 17 = .ok (.invokevirtual 336, 3) := by decide +kernel
theorem dX7_back_20 : decode cX7_back 20 = .ok (.iconst 1, 1) := by decide +kernel
theorem dX7_back_21 : decode cX7_back 21 = .ok (.ireturn, 1) := by decide +kernel
theorem dX7_count_0 : decode cX7_count 0 = .ok (.iload_n 1, 1) := by decide +kernel
theorem dX7_count_1 : decode cX7_count 1 = .ok (.tableswitch 141 0 9 #[55, 63, 71, 79, 87, 95, 103, 111, 122, 130], 55) := by decide +kernel
theorem dX7_count_56 : decode cX7_count 56 = .ok (.aload_n 0, 1) := by decide +kernel
theorem dX7_count_57 : decode cX7_count 57 = .ok (.getfield 19, 3) := by decide +kernel
theorem dX7_count_60 : decode cX7_count 60 = .ok (.getfield 81, 3) := by decide +kernel
theorem dX7_count_63 : decode cX7_count 63 = .ok (.ireturn, 1) := by decide +kernel
theorem dX7_count_64 : decode cX7_count 64 = .ok (.aload_n 0, 1) := by decide +kernel
theorem dX7_count_65 : decode cX7_count 65 = .ok (.getfield 19, 3) := by decide +kernel
theorem dX7_count_68 : decode cX7_count 68 = .ok (.getfield 137, 3) := by decide +kernel
theorem dX7_count_71 : decode cX7_count 71 = .ok (.ireturn, 1) := by decide +kernel
theorem dX7_count_72 : decode cX7_count 72 = .ok (.aload_n 0, 1) := by decide +kernel
theorem dX7_count_73 : decode cX7_count 73 = .ok (.getfield 19, 3) := by decide +kernel
theorem dX7_count_76 : decode cX7_count 76 = .ok (.getfield 123, 3) := by decide +kernel
theorem dX7_count_79 : decode cX7_count 79 = .ok (.ireturn, 1) := by decide +kernel
theorem dX7_count_80 : decode cX7_count 80 = .ok (.aload_n 0, 1) := by decide +kernel
theorem dX7_count_81 : decode cX7_count 81 = .ok (.getfield 19, 3) := by decide +kernel
theorem dX7_count_84 : decode cX7_count 84 = .ok (.getfield 263, 3) := by decide +kernel
theorem dX7_count_87 : decode cX7_count 87 = .ok (.ireturn, 1) := by decide +kernel
theorem dX7_count_88 : decode cX7_count 88 = .ok (.aload_n 0, 1) := by decide +kernel
theorem dX7_count_89 : decode cX7_count 89 = .ok (.getfield 19, 3) := by decide +kernel
theorem dX7_count_92 : decode cX7_count 92 = .ok (.getfield 325, 3) := by decide +kernel
theorem dX7_count_95 : decode cX7_count 95 = .ok (.ireturn, 1) := by decide +kernel
theorem dX7_count_96 : decode cX7_count 96 = .ok (.aload_n 0, 1) := by decide +kernel
theorem dX7_count_97 : decode cX7_count 97 = .ok (.getfield 19, 3) := by decide +kernel
theorem dX7_count_100 : decode cX7_count 100 = .ok (.getfield 148, 3) := by decide +kernel
theorem dX7_count_103 : decode cX7_count 103 = .ok (.ireturn, 1) := by decide +kernel
theorem dX7_count_104 : decode cX7_count 104 = .ok (.aload_n 0, 1) := by decide +kernel
theorem dX7_count_105 : decode cX7_count 105 = .ok (.getfield 19, 3) := by decide +kernel
theorem dX7_count_108 : decode cX7_count 108 = .ok (.getfield 153, 3) := by decide +kernel
theorem dX7_count_111 : decode cX7_count 111 = .ok (.ireturn, 1) := by decide +kernel
theorem dX7_count_112 : decode cX7_count 112 = .ok (.aload_n 0, 1) := by decide +kernel
theorem dX7_count_113 : decode cX7_count 113 = .ok (.getfield 19, 3) := by decide +kernel
theorem dX7_count_116 : decode cX7_count 116 = .ok (.getfield 159, 3) := by decide +kernel
theorem dX7_count_119 : decode cX7_count 119 = .ok (.invokestatic 339, 3) := by decide +kernel
theorem dX7_count_122 : decode cX7_count 122 = .ok (.ireturn, 1) := by decide +kernel
theorem dX7_count_123 : decode cX7_count 123 = .ok (.aload_n 0, 1) := by decide +kernel
theorem dX7_count_124 : decode cX7_count 124 = .ok (.getfield 19, 3) := by decide +kernel
theorem dX7_count_127 : decode cX7_count 127 = .ok (.invokevirtual 343, 3) := by decide +kernel
theorem dX7_count_130 : decode cX7_count 130 = .ok (.ireturn, 1) := by decide +kernel
theorem dX7_count_131 : decode cX7_count 131 = .ok (.aload_n 0, 1) := by decide +kernel
theorem dX7_count_132 : decode cX7_count 132 = .ok (.getfield 19, 3) := by decide +kernel
theorem dX7_count_135 : decode cX7_count 135 = .ok (.getfield 212, 3) := by decide +kernel
theorem dX7_count_138 : decode cX7_count 138 = .ok (.getfield 222, 3) := by decide +kernel
theorem dX7_count_141 : decode cX7_count 141 = .ok (.ireturn, 1) := by decide +kernel
theorem dX7_count_142 : decode cX7_count 142 = .ok (.iconst (-1), 1) := by decide +kernel
theorem dX7_count_143 : decode cX7_count 143 = .ok (.ireturn, 1) := by decide +kernel
theorem dX7_readText_0 : decode cX7_readText 0 = .ok (.aload_n 0, 1) := by decide +kernel
theorem dX7_readText_1 : decode cX7_readText 1 = .ok (.getfield 10, 3) := by decide +kernel
theorem dX7_readText_4 : decode cX7_readText 4 = .ok (.iload_n 1, 1) := by decide +kernel
theorem dX7_readText_5 : decode cX7_readText 5 = .ok (.iload_n 2, 1) := by decide +kernel
theorem dX7_readText_6 : decode cX7_readText 6 = .ok (.aload_n 0, 1) := by decide +kernel
theorem dX7_readText_7 : decode cX7_readText 7 = .ok (.getfield 19, 3) := by decide +kernel
theorem dX7_readText_10 : decode cX7_readText 10 = .ok (.getfield 81, 3) := by decide +kernel
theorem dX7_readText_13 : decode cX7_readText 13 = .ok (.aload_n 0, 1) := by decide +kernel
theorem dX7_readText_14 : decode cX7_readText 14 = .ok (.getfield 19, 3) := by decide +kernel
theorem dX7_readText_17 : decode cX7_readText 17 = .ok (.getfield 137, 3) := by decide +kernel
theorem dX7_readText_20 : decode cX7_readText 20 = .ok (.invokevirtual 346, 3) := by decide +kernel
theorem dX7_readText_23 : decode cX7_readText 23 = .ok (.aload_n 0, 1) := by decide +kernel
theorem dX7_readText_24 : decode cX7_readText 24 = .ok (.getfield 10, 3) := by decide +kernel
theorem dX7_readText_27 : decode cX7_readText 27 = .ok (.invokevirtual 350, 3) := by decide +kernel
theorem dX7_readText_30 : decode cX7_readText 30 = .ok (.ifCond .ne 28, 3) := by decide +kernel
theorem dX7_readText_33 : decode cX7_readText 33 = .ok (.aload_n 0, 1) := by decide +kernel
theorem dX7_readText_34 : decode cX7_readText 34 = .ok (.getfield 10, 3) := by decide +kernel
theorem dX7_readText_37 : decode cX7_readText 37 = .ok (.aload_n 0, 1) := by decide +kernel
theorem dX7_readText_38 : decode cX7_readText 38 = .ok (.getfield 10, 3) := by decide +kernel
theorem dX7_readText_41 : decode cX7_readText 41 = .ok (.getfield 354, 3) := by decide +kernel
theorem dX7_readText_44 : decode cX7_readText 44 = .ok (.putfield 67, 3) := by decide +kernel
theorem dX7_readText_47 : decode cX7_readText 47 = .ok (.new 70, 3) := by decide +kernel
theorem dX7_readText_50 : decode cX7_readText 50 = .ok (.dup, 1) := by decide +kernel
theorem dX7_readText_51 : decode cX7_readText 51 = .ok (.ldc_w 357, 3) := by decide +kernel
theorem dX7_readText_54 : decode cX7_readText 54 = .ok (.invokespecial 74, 3) := by decide +kernel
theorem dX7_readText_57 : decode cX7_readText 57 = .ok (.athrow, 1) := by decide +kernel
theorem dX7_readText_58 : decode cX7_readText 58 = .ok (.return_, 1) := by decide +kernel
theorem dX7_otherAnew_0 : decode cX7_otherAnew 0 = .ok (.aload_n 0, 1) := by decide +kernel
theorem dX7_otherAnew_1 : decode cX7_otherAnew 1 = .ok (.getfield 19, 3) := by decide +kernel
theorem dX7_otherAnew_4 : decode cX7_otherAnew 4 = .ok (.getfield 103, 3) := by decide +kernel
theorem dX7_otherAnew_7 : decode cX7_otherAnew 7 = .ok (.aload_n 0, 1) := by decide +kernel
theorem dX7_otherAnew_8 : decode cX7_otherAnew 8 = .ok (.getfield 19, 3) := by decide +kernel
theorem dX7_otherAnew_11 : decode cX7_otherAnew 11 = .ok (.getfield 159, 3) := by decide +kernel
theorem dX7_otherAnew_14 : decode cX7_otherAnew 14 = .ok (.iload_n 1, 1) := by decide +kernel
theorem dX7_otherAnew_15 : decode cX7_otherAnew 15 = .ok (.iaload, 1) := by decide +kernel
theorem dX7_otherAnew_16 : decode cX7_otherAnew 16 = .ok (.iaload, 1) := by decide +kernel
theorem dX7_otherAnew_17 : decode cX7_otherAnew 17 = .ok (.istore 5, 2) := by decide +kernel
theorem dX7_otherAnew_19 : decode cX7_otherAnew 19 = .ok (.aload_n 0, 1) := by decide +kernel
theorem dX7_otherAnew_20 : decode cX7_otherAnew 20 = .ok (.getfield 31, 3) := by decide +kernel
theorem dX7_otherAnew_23 : decode cX7_otherAnew 23 = .ok (.iconst 0, 1) := by decide +kernel
theorem dX7_otherAnew_24 : decode cX7_otherAnew 24 = .ok (.iload_n 1, 1) := by decide +kernel
theorem dX7_otherAnew_25 : decode cX7_otherAnew 25 = .ok (.aload_n 0, 1) := by decide +kernel
theorem dX7_otherAnew_26 : decode cX7_otherAnew 26 = .ok (.getfield 19, 3) := by decide +kernel
theorem dX7_otherAnew_29 : decode cX7_otherAnew 29 = .ok (.getfield 159, 3) := by decide +kernel
theorem dX7_otherAnew_32 : decode cX7_otherAnew 32 = .ok (.iload_n 1, 1) := by decide +kernel
theorem dX7_otherAnew_33 : decode cX7_otherAnew 33 = .ok (.iaload, 1) := by decide +kernel
theorem dX7_otherAnew_34 : decode cX7_otherAnew 34 = .ok (.iload_n 3, 1) := by decide +kernel
theorem dX7_otherAnew_35 : decode cX7_otherAnew 35 = .ok (.iload 5, 2) := by decide +kernel
theorem dX7_otherAnew_37 : decode cX7_otherAnew 37 = .ok (.iload 4, 2) := by decide +kernel
theorem dX7_otherAnew_39 : decode cX7_otherAnew 39 = .ok (.ior, 1) := by decide +kernel
theorem dX7_otherAnew_40 : decode cX7_otherAnew 40 = .ok (.invokevirtual 359, 3) := by decide +kernel
theorem dX7_otherAnew_43 : decode cX7_otherAnew 43 = .ok (.aload_n 0, 1) := by decide +kernel
theorem dX7_otherAnew_44 : decode cX7_otherAnew 44 = .ok (.getfield 31, 3) := by decide +kernel
theorem dX7_otherAnew_47 : decode cX7_otherAnew 47 = .ok (.iconst 0, 1) := by decide +kernel
theorem dX7_otherAnew_48 : decode cX7_otherAnew 48 = .ok (.iload_n 2, 1) := by decide +kernel
theorem dX7_otherAnew_49 : decode cX7_otherAnew 49 = .ok (.aload_n 0, 1) := by decide +kernel
theorem dX7_otherAnew_50 : decode cX7_otherAnew 50 = .ok (.getfield 19, 3) := by decide +kernel
theorem dX7_otherAnew_53 : decode cX7_otherAnew 53 = .ok (.getfield 159, 3) := by decide +kernel
theorem dX7_otherAnew_56 : decode cX7_otherAnew 56 = .ok (.invokevirtual 196, 3) := by decide +kernel
theorem dX7_otherAnew_59 : decode cX7_otherAnew 59 = .ok (.istore 6, 2) := by decide +kernel
theorem dX7_otherAnew_61 : decode cX7_otherAnew 61 = .ok (.aload_n 0, 1) := by decide +kernel
theorem dX7_otherAnew_62 : decode cX7_otherAnew 62 = .ok (.getfield 31, 3) := by decide +kernel
theorem dX7_otherAnew_65 : decode cX7_otherAnew 65 = .ok (.iconst 0, 1) := by decide +kernel
theorem dX7_otherAnew_66 : decode cX7_otherAnew 66 = .ok (.iload_n 1, 1) := by decide +kernel
theorem dX7_otherAnew_67 : decode cX7_otherAnew 67 = .ok (.aload_n 0, 1) := by decide +kernel
theorem dX7_otherAnew_68 : decode cX7_otherAnew 68 = .ok (.getfield 19, 3) := by decide +kernel
theorem dX7_otherAnew_71 : decode cX7_otherAnew 71 = .ok (.getfield 159, 3) := by decide +kernel
theorem dX7_otherAnew_74 : decode cX7_otherAnew 74 = .ok (.iload_n 1, 1) := by decide +kernel
theorem dX7_otherAnew_75 : decode cX7_otherAnew 75 = .ok (.iaload, 1) := by decide +kernel
theorem dX7_otherAnew_76 : decode cX7_otherAnew 76 = .ok (.iload_n 3, 1) := by decide +kernel
theorem dX7_otherAnew_77 : decode cX7_otherAnew 77 = .ok (.iload 5, 2) := by decide +kernel
theorem dX7_otherAnew_79 : decode cX7_otherAnew 79 = .ok (.iload 4, 2) := by decide +kernel
theorem dX7_otherAnew_81 : decode cX7_otherAnew 81 = .ok (.iconst (-1), 1) := by decide +kernel
theorem dX7_otherAnew_82 : decode cX7_otherAnew 82 = .ok (.ixor, 1) := by decide +kernel
theorem dX7_otherAnew_83 : decode cX7_otherAnew 83 = .ok (.iand, 1) := by decide +kernel
theorem dX7_otherAnew_84 : decode cX7_otherAnew 84 = .ok (.invokevirtual 359, 3) := by decide +kernel
theorem dX7_otherAnew_87 : decode cX7_otherAnew 87 = .ok (.aload_n 0, 1) := by decide +kernel
theorem dX7_otherAnew_88 : decode cX7_otherAnew 88 = .ok (.getfield 31, 3) := by decide +kernel
theorem dX7_otherAnew_91 : decode cX7_otherAnew 91 = .ok (.iconst 0, 1) := by decide +kernel
theorem dX7_otherAnew_92 : decode cX7_otherAnew 92 = .ok (.iload_n 2, 1) := by decide +kernel
theorem dX7_otherAnew_93 : decode cX7_otherAnew 93 = .ok (.aload_n 0, 1) := by decide +kernel
theorem dX7_otherAnew_94 : decode cX7_otherAnew 94 = .ok (.getfield 19, 3) := by decide +kernel
theorem dX7_otherAnew_97 : decode cX7_otherAnew 97 = .ok (.getfield 159, 3) := by decide +kernel
theorem dX7_otherAnew_100 : decode cX7_otherAnew 100 = .ok (.invokevirtual 196, 3) := by decide +kernel
theorem dX7_otherAnew_103 : decode cX7_otherAnew 103 = .ok (.istore 7, 2) := by decide +kernel
theorem dX7_otherAnew_105 : decode cX7_otherAnew 105 = .ok (.iload 5, 2) := by decide +kernel
theorem dX7_otherAnew_107 : decode cX7_otherAnew 107 = .ok (.iload 4, 2) := by decide +kernel
theorem dX7_otherAnew_109 : decode cX7_otherAnew 109 = .ok (.iand, 1) := by decide +kernel
theorem dX7_otherAnew_110 : decode cX7_otherAnew 110 = .ok (.ifCond .eq 7, 3) := by decide +kernel
theorem dX7_otherAnew_113 : decode cX7_otherAnew 113 = .ok (.iconst 1, 1) := by decide +kernel
theorem dX7_otherAnew_114 : decode cX7_otherAnew 114 = .ok (.goto 4, 3) := by decide +kernel
theorem dX7_otherAnew_117 : decode cX7_otherAnew 117 = .ok (.iconst 0, 1) := by decide +kernel
theorem dX7_otherAnew_118 : decode cX7_otherAnew 118 = .ok (.istore 8, 2) := by decide +kernel
theorem dX7_otherAnew_120 : decode cX7_otherAnew 120 = .ok (.iload 8, 2) := by decide +kernel
theorem dX7_otherAnew_122 : decode cX7_otherAnew 122 = .ok (.ifCond .eq 18, 3) := by decide +kernel
theorem dX7_otherAnew_125 : decode cX7_otherAnew 125 = .ok (.iload 7, 2) := by decide +kernel
theorem dX7_otherAnew_127 : decode cX7_otherAnew 127 = .ok (.iload 6, 2) := by decide +kernel
theorem dX7_otherAnew_129 : decode cX7_otherAnew 129 = .ok (.if_icmp .ge 7, 3) := by decide +kernel
theorem dX7_otherAnew_132 : decode cX7_otherAnew 132 = .ok (.iconst 1, 1) := by decide +kernel
theorem dX7_otherAnew_133 : decode cX7_otherAnew 133 = .ok (.goto 19, 3) := by decide +kernel
theorem dX7_otherAnew_136 : decode cX7_otherAnew 136 = .ok (.iconst 0, 1) := by decide +kernel
theorem dX7_otherAnew_137 : decode cX7_otherAnew 137 = .ok (.goto 15, 3) := by decide +kernel
theorem dX7_otherAnew_140 : decode cX7_otherAnew 140 = .ok (.iload 6, 2) := by decide +kernel
theorem dX7_otherAnew_142 : decode cX7_otherAnew 142 = .ok (.iload 7, 2) := by decide +kernel
theorem dX7_otherAnew_144 : decode cX7_otherAnew 144 = .ok (.if_icmp .ge 7, 3) := by decide +kernel
theorem dX7_otherAnew_147 : decode cX7_otherAnew 147 = .ok (.iconst 1, 1) := by decide +kernel
theorem dX7_otherAnew_148 : decode cX7_otherAnew 148 = .ok (.goto 4, 3) := by decide +kernel
theorem dX7_otherAnew_151 : decode cX7_otherAnew 151 = .ok (.iconst 0, 1) := by decide +kernel
theorem dX7_otherAnew_152 : decode cX7_otherAnew 152 = .ok (.ireturn, 1) := by decide +kernel
theorem dX7_needSheet_0 : decode cX7_needSheet 0 = .ok (.iload_n 1, 1) := by decide +kernel
theorem dX7_needSheet_1 : decode cX7_needSheet 1 = .ok (.ifCond .lt 14, 3) := by decide +kernel
theorem dX7_needSheet_4 : decode cX7_needSheet 4 = .ok (.iload_n 1, 1) := by decide +kernel
theorem dX7_needSheet_5 : decode cX7_needSheet 5 = .ok (.aload_n 0, 1) := by decide +kernel
theorem dX7_needSheet_6 : decode cX7_needSheet 6 = .ok (.getfield 19, 3) := by decide +kernel
theorem dX7_needSheet_9 : decode cX7_needSheet 9 = .ok (.getfield 81, 3) := by decide +kernel
theorem dX7_needSheet_12 : decode cX7_needSheet 12 = .ok (.if_icmp .lt 14, 3) := by decide +kernel
theorem dX7_needSheet_15 : decode cX7_needSheet 15 = .ok (.new 363, 3) := by decide +kernel
theorem dX7_needSheet_18 : decode cX7_needSheet 18 = .ok (.dup, 1) := by decide +kernel
theorem dX7_needSheet_19 : decode cX7_needSheet 19 = .ok (.ldc_w 365, 3) := by decide +kernel
theorem dX7_needSheet_22 : decode cX7_needSheet 22 = .ok (.invokespecial 367, 3) := by decide +kernel
theorem dX7_needSheet_25 : decode cX7_needSheet 25 = .ok (.athrow, 1) := by decide +kernel
theorem dX7_needSheet_26 : decode cX7_needSheet 26 = .ok (.return_, 1) := by decide +kernel
theorem dX7_needSlot_0 : decode cX7_needSlot 0 = .ok (.iload_n 1, 1) := by decide +kernel
theorem dX7_needSlot_1 : decode cX7_needSlot 1 = .ok (.ifCond .lt 14, 3) := by decide +kernel
theorem dX7_needSlot_4 : decode cX7_needSlot 4 = .ok (.iload_n 1, 1) := by decide +kernel
theorem dX7_needSlot_5 : decode cX7_needSlot 5 = .ok (.aload_n 0, 1) := by decide +kernel
theorem dX7_needSlot_6 : decode cX7_needSlot 6 = .ok (.getfield 19, 3) := by decide +kernel
theorem dX7_needSlot_9 : decode cX7_needSlot 9 = .ok (.getfield 137, 3) := by decide +kernel
theorem dX7_needSlot_12 : decode cX7_needSlot 12 = .ok (.if_icmp .lt 14, 3) := by decide +kernel
theorem dX7_needSlot_15 : decode cX7_needSlot 15 = .ok (.new 363, 3) := by decide +kernel
theorem dX7_needSlot_18 : decode cX7_needSlot 18 = .ok (.dup, 1) := by decide +kernel
theorem dX7_needSlot_19 : decode cX7_needSlot 19 = .ok (.ldc_w 368, 3) := by decide +kernel
theorem dX7_needSlot_22 : decode cX7_needSlot 22 = .ok (.invokespecial 367, 3) := by decide +kernel
theorem dX7_needSlot_25 : decode cX7_needSlot 25 = .ok (.athrow, 1) := by decide +kernel
theorem dX7_needSlot_26 : decode cX7_needSlot 26 = .ok (.return_, 1) := by decide +kernel
theorem dX7_needScene_0 : decode cX7_needScene 0 = .ok (.iload_n 1, 1) := by decide +kernel
theorem dX7_needScene_1 : decode cX7_needScene 1 = .ok (.ifCond .lt 14, 3) := by decide +kernel
theorem dX7_needScene_4 : decode cX7_needScene 4 = .ok (.iload_n 1, 1) := by decide +kernel
theorem dX7_needScene_5 : decode cX7_needScene 5 = .ok (.aload_n 0, 1) := by decide +kernel
theorem dX7_needScene_6 : decode cX7_needScene 6 = .ok (.getfield 19, 3) := by decide +kernel
theorem dX7_needScene_9 : decode cX7_needScene 9 = .ok (.getfield 123, 3) := by decide +kernel
theorem dX7_needScene_12 : decode cX7_needScene 12 = .ok (.if_icmp .lt 14, 3) := by decide +kernel
theorem dX7_needScene_15 : decode cX7_needScene 15 = .ok (.new 363, 3) := by decide +kernel
theorem dX7_needScene_18 : decode cX7_needScene 18 = .ok (.dup, 1) := by decide +kernel
theorem dX7_needScene_19 : decode cX7_needScene 19 = .ok (.ldc_w 370, 3) := by decide +kernel
theorem dX7_needScene_22 : decode cX7_needScene 22 = .ok (.invokespecial 367, 3) := by decide +kernel
theorem dX7_needScene_25 : decode cX7_needScene 25 = .ok (.athrow, 1) := by decide +kernel
theorem dX7_needScene_26 : decode cX7_needScene 26 = .ok (.return_, 1) := by decide +kernel
theorem dX7_needFrame_0 : decode cX7_needFrame 0 = .ok (.iload_n 1, 1) := by decide +kernel
theorem dX7_needFrame_1 : decode cX7_needFrame 1 = .ok (.ifCond .lt 14, 3) := by decide +kernel
theorem dX7_needFrame_4 : decode cX7_needFrame 4 = .ok (.iload_n 1, 1) := by decide +kernel
theorem dX7_needFrame_5 : decode cX7_needFrame 5 = .ok (.aload_n 0, 1) := by decide +kernel
theorem dX7_needFrame_6 : decode cX7_needFrame 6 = .ok (.getfield 19, 3) := by decide +kernel
theorem dX7_needFrame_9 : decode cX7_needFrame 9 = .ok (.getfield 263, 3) := by decide +kernel
theorem dX7_needFrame_12 : decode cX7_needFrame 12 = .ok (.if_icmp .lt 14, 3) := by decide +kernel
theorem dX7_needFrame_15 : decode cX7_needFrame 15 = .ok (.new 363, 3) := by decide +kernel
theorem dX7_needFrame_18 : decode cX7_needFrame 18 = .ok (.dup, 1) := by decide +kernel
theorem dX7_needFrame_19 : decode cX7_needFrame 19 = .ok (.ldc_w 372, 3) := by decide +kernel
theorem dX7_needFrame_22 : decode cX7_needFrame 22 = .ok (.invokespecial 367, 3) := by decide +kernel
theorem dX7_needFrame_25 : decode cX7_needFrame 25 = .ok (.athrow, 1) := by decide +kernel
theorem dX7_needFrame_26 : decode cX7_needFrame 26 = .ok (.return_, 1) := by decide +kernel
theorem dX7_needSpot_0 : decode cX7_needSpot 0 = .ok (.iload_n 1, 1) := by decide +kernel
theorem dX7_needSpot_1 : decode cX7_needSpot 1 = .ok (.ifCond .lt 10, 3) := by decide +kernel
theorem dX7_needSpot_4 : decode cX7_needSpot 4 = .ok (.iload_n 1, 1) := by decide +kernel
theorem dX7_needSpot_5 : decode cX7_needSpot 5 = .ok (.sipush 144, 3) := by decide +kernel
theorem dX7_needSpot_8 : decode cX7_needSpot 8 = .ok (.if_icmp .lt 14, 3) := by decide +kernel
theorem dX7_needSpot_11 : decode cX7_needSpot 11 = .ok (.new 363, 3) := by decide +kernel
theorem dX7_needSpot_14 : decode cX7_needSpot 14 = .ok (.dup, 1) := by decide +kernel
theorem dX7_needSpot_15 : decode cX7_needSpot 15 = .ok (.ldc_w 374, 3) := by decide +kernel
theorem dX7_needSpot_18 : decode cX7_needSpot 18 = .ok (.invokespecial 367, 3) := by decide +kernel
theorem dX7_needSpot_21 : decode cX7_needSpot 21 = .ok (.athrow, 1) := by decide +kernel
theorem dX7_needSpot_22 : decode cX7_needSpot 22 = .ok (.return_, 1) := by decide +kernel
theorem dX7_needView_0 : decode cX7_needView 0 = .ok (.iload_n 1, 1) := by decide +kernel
theorem dX7_needView_1 : decode cX7_needView 1 = .ok (.ifCond .lt 19, 3) := by decide +kernel
theorem dX7_needView_4 : decode cX7_needView 4 = .ok (.iload_n 1, 1) := by decide +kernel
theorem dX7_needView_5 : decode cX7_needView 5 = .ok (.iconst 3, 1) := by decide +kernel
theorem dX7_needView_6 : decode cX7_needView 6 = .ok (.if_icmp .ge 14, 3) := by decide +kernel
theorem dX7_needView_9 : decode cX7_needView 9 = .ok (.iload_n 2, 1) := by decide +kernel
theorem dX7_needView_10 : decode cX7_needView 10 = .ok (.bipush (-3), 2) := by decide +kernel
theorem dX7_needView_12 : decode cX7_needView 12 = .ok (.if_icmp .lt 8, 3) := by decide +kernel
theorem dX7_needView_15 : decode cX7_needView 15 = .ok (.iload_n 2, 1) := by decide +kernel
theorem dX7_needView_16 : decode cX7_needView 16 = .ok (.iconst 3, 1) := by decide +kernel
theorem dX7_needView_17 : decode cX7_needView 17 = .ok (.if_icmp .le 14, 3) := by decide +kernel
theorem dX7_needView_20 : decode cX7_needView 20 = .ok (.new 363, 3) := by decide +kernel
theorem dX7_needView_23 : decode cX7_needView 23 = .ok (.dup, 1) := by decide +kernel
theorem dX7_needView_24 : decode cX7_needView 24 = .ok (.ldc_w 376, 3) := by decide +kernel
theorem dX7_needView_27 : decode cX7_needView 27 = .ok (.invokespecial 367, 3) := by decide +kernel
theorem dX7_needView_30 : decode cX7_needView 30 = .ok (.athrow, 1) := by decide +kernel
theorem dX7_needView_31 : decode cX7_needView 31 = .ok (.return_, 1) := by decide +kernel
theorem dX8_thrown_0 : decode cX8_thrown 0 = .ok (.aload_n 0, 1) := by decide +kernel
theorem dX8_thrown_1 : decode cX8_thrown 1 = .ok (.getfield 3, 3) := by decide +kernel
theorem dX8_thrown_4 : decode cX8_thrown 4 = .ok (.ireturn, 1) := by decide +kernel
theorem dX8_throwsIf_0 : decode cX8_throwsIf 0 = .ok (.iload_n 1, 1) := by decide +kernel
theorem dX8_throwsIf_1 : decode cX8_throwsIf 1 = .ok (.ifCond .eq 8, 3) := by decide +kernel
theorem dX8_throwsIf_4 : decode cX8_throwsIf 4 = .ok (.aload_n 0, 1) := by decide +kernel
theorem dX8_throwsIf_5 : decode cX8_throwsIf 5 = .ok (.iload_n 2, 1) := by decide +kernel
theorem dX8_throwsIf_6 : decode cX8_throwsIf 6 = .ok (.putfield 3, 3) := by decide +kernel
theorem dX8_throwsIf_9 : decode cX8_throwsIf 9 = .ok (.iload_n 1, 1) := by decide +kernel
theorem dX8_throwsIf_10 : decode cX8_throwsIf 10 = .ok (.ireturn, 1) := by decide +kernel
theorem dX8_within_0 : decode cX8_within 0 = .ok (.iload_n 0, 1) := by decide +kernel
theorem dX8_within_1 : decode cX8_within 1 = .ok (.iload_n 1, 1) := by decide +kernel
theorem dX8_within_2 : decode cX8_within 2 = .ok (.if_icmp .lt 12, 3) := by decide +kernel
theorem dX8_within_5 : decode cX8_within 5 = .ok (.iload_n 0, 1) := by decide +kernel
theorem dX8_within_6 : decode cX8_within 6 = .ok (.iload_n 2, 1) := by decide +kernel
theorem dX8_within_7 : decode cX8_within 7 = .ok (.if_icmp .gt 7, 3) := by decide +kernel
theorem dX8_within_10 : decode cX8_within 10 = .ok (.iconst 1, 1) := by decide +kernel
theorem dX8_within_11 : decode cX8_within 11 = .ok (.goto 4, 3) := by decide +kernel
theorem dX8_within_14 : decode cX8_within 14 = .ok (.iconst 0, 1) := by decide +kernel
theorem dX8_within_15 : decode cX8_within 15 = .ok (.ireturn, 1) := by decide +kernel
theorem dX8_init_0 : decode cX8_init 0 = .ok (.aload_n 0, 1) := by decide +kernel
theorem dX8_init_1 : decode cX8_init 1 = .ok (.invokespecial 7, 3) := by decide +kernel
theorem dX8_init_4 : decode cX8_init 4 = .ok (.aload_n 0, 1) := by decide +kernel
theorem dX8_init_5 : decode cX8_init 5 = .ok (.sipush 1182, 3) := by decide +kernel
theorem dX8_init_8 : decode cX8_init 8 = .ok (.newarray .int, 2) := by decide +kernel
theorem dX8_init_10 : decode cX8_init 10 = .ok (.putfield 13, 3) := by decide +kernel
theorem dX8_init_13 : decode cX8_init 13 = .ok (.aload_n 0, 1) := by decide +kernel
theorem dX8_init_14 : decode cX8_init 14 = .ok (.sipush 1038, 3) := by decide +kernel
theorem dX8_init_17 : decode cX8_init 17 = .ok (.newarray .int, 2) := by decide +kernel
theorem dX8_init_19 : decode cX8_init 19 = .ok (.putfield 17, 3) := by decide +kernel
theorem dX8_init_22 : decode cX8_init 22 = .ok (.aload_n 0, 1) := by decide +kernel
theorem dX8_init_23 : decode cX8_init 23 = .ok (.sipush 400, 3) := by decide +kernel
theorem dX8_init_26 : decode cX8_init 26 = .ok (.newarray .byte, 2) := by decide +kernel
theorem dX8_init_28 : decode cX8_init 28 = .ok (.putfield 20, 3) := by decide +kernel
theorem dX8_init_31 : decode cX8_init 31 = .ok (.aload_n 0, 1) := by decide +kernel
theorem dX8_init_32 : decode cX8_init 32 = .ok (.iconst (-1), 1) := by decide +kernel
theorem dX8_init_33 : decode cX8_init 33 = .ok (.putfield 24, 3) := by decide +kernel
theorem dX8_init_36 : decode cX8_init 36 = .ok (.aload_n 0, 1) := by decide +kernel
theorem dX8_init_37 : decode cX8_init 37 = .ok (.iconst 5, 1) := by decide +kernel
theorem dX8_init_38 : decode cX8_init 38 = .ok (.newarray .int, 2) := by decide +kernel
theorem dX8_init_40 : decode cX8_init 40 = .ok (.putfield 27, 3) := by decide +kernel
theorem dX8_init_43 : decode cX8_init 43 = .ok (.aload_n 0, 1) := by decide +kernel
theorem dX8_init_44 : decode cX8_init 44 = .ok (.sipush 225, 3) := by decide +kernel
theorem dX8_init_47 : decode cX8_init 47 = .ok (.newarray .int, 2) := by decide +kernel
theorem dX8_init_49 : decode cX8_init 49 = .ok (.putfield 30, 3) := by decide +kernel
theorem dX8_init_52 : decode cX8_init 52 = .ok (.aload_n 0, 1) := by decide +kernel
theorem dX8_init_53 : decode cX8_init 53 = .ok (.sipush 3456, 3) := by decide +kernel
theorem dX8_init_56 : decode cX8_init 56 = .ok (.newarray .byte, 2) := by decide +kernel
theorem dX8_init_58 : decode cX8_init 58 = .ok (.putfield 33, 3) := by decide +kernel
theorem dX8_init_61 : decode cX8_init 61 = .ok (.aload_n 0, 1) := by decide +kernel
theorem dX8_init_62 : decode cX8_init 62 = .ok (.iconst 4, 1) := by decide +kernel
theorem dX8_init_63 : decode cX8_init 63 = .ok (.newarray .int, 2) := by decide +kernel
theorem dX8_init_65 : decode cX8_init 65 = .ok (.putfield 36, 3) := by decide +kernel
theorem dX8_init_68 : decode cX8_init 68 = .ok (.aload_n 0, 1) := by decide +kernel
theorem dX8_init_69 : decode cX8_init 69 = .ok (.sipush 144, 3) := by decide +kernel
theorem dX8_init_72 : decode cX8_init 72 = .ok (.newarray .boolean, 2) := by decide +kernel
theorem dX8_init_74 : decode cX8_init 74 = .ok (.putfield 39, 3) := by decide +kernel
theorem dX8_init_77 : decode cX8_init 77 = .ok (.aload_n 0, 1) := by decide +kernel
theorem dX8_init_78 : decode cX8_init 78 = .ok (.sipush 144, 3) := by decide +kernel
theorem dX8_init_81 : decode cX8_init 81 = .ok (.newarray .int, 2) := by decide +kernel
theorem dX8_init_83 : decode cX8_init 83 = .ok (.putfield 43, 3) := by decide +kernel
theorem dX8_init_86 : decode cX8_init 86 = .ok (.aload_n 0, 1) := by decide +kernel
theorem dX8_init_87 : decode cX8_init 87 = .ok (.bipush 6, 2) := by decide +kernel
theorem dX8_init_89 : decode cX8_init 89 = .ok (.newarray .int, 2) := by decide +kernel
theorem dX8_init_91 : decode cX8_init 91 = .ok (.putfield 46, 3) := by decide +kernel
theorem dX8_init_94 : decode cX8_init 94 = .ok (.aload_n 0, 1) := by decide +kernel
theorem dX8_init_95 : decode cX8_init 95 = .ok (.bipush 9, 2) := by decide +kernel
theorem dX8_init_97 : decode cX8_init 97 = .ok (.newarray .int, 2) := by decide +kernel
theorem dX8_init_99 : decode cX8_init 99 = .ok (.putfield 49, 3) := by decide +kernel
theorem dX8_init_102 : decode cX8_init 102 = .ok (.aload_n 0, 1) := by decide +kernel
theorem dX8_init_103 : decode cX8_init 103 = .ok (.bipush 9, 2) := by decide +kernel
theorem dX8_init_105 : decode cX8_init 105 = .ok (.newarray .int, 2) := by decide +kernel
theorem dX8_init_107 : decode cX8_init 107 = .ok (.putfield 52, 3) := by decide +kernel
theorem dX8_init_110 : decode cX8_init 110 = .ok (.aload_n 0, 1) := by decide +kernel
theorem dX8_init_111 : decode cX8_init 111 = .ok (.bipush 8, 2) := by decide +kernel
theorem dX8_init_113 : decode cX8_init 113 = .ok (.newarray .int, 2) := by decide +kernel
theorem dX8_init_115 : decode cX8_init 115 = .ok (.putfield 55, 3) := by decide +kernel
theorem dX8_init_118 : decode cX8_init 118 = .ok (.aload_n 0, 1) := by decide +kernel
theorem dX8_init_119 : decode cX8_init 119 = .ok (.bipush 64, 2) := by decide +kernel
theorem dX8_init_121 : decode cX8_init 121 = .ok (.newarray .int, 2) := by decide +kernel
theorem dX8_init_123 : decode cX8_init 123 = .ok (.putfield 58, 3) := by decide +kernel
theorem dX8_init_126 : decode cX8_init 126 = .ok (.aload_n 0, 1) := by decide +kernel
theorem dX8_init_127 : decode cX8_init 127 = .ok (.sipush 2401, 3) := by decide +kernel
theorem dX8_init_130 : decode cX8_init 130 = .ok (.newarray .int, 2) := by decide +kernel
theorem dX8_init_132 : decode cX8_init 132 = .ok (.putfield 61, 3) := by decide +kernel
theorem dX8_init_135 : decode cX8_init 135 = .ok (.aload_n 0, 1) := by decide +kernel
theorem dX8_init_136 : decode cX8_init 136 = .ok (.getfield 13, 3) := by decide +kernel
theorem dX8_init_139 : decode cX8_init 139 = .ok (.bipush 6, 2) := by decide +kernel
theorem dX8_init_141 : decode cX8_init 141 = .ok (.iconst 2, 1) := by decide +kernel
theorem dX8_init_142 : decode cX8_init 142 = .ok (.iastore, 1) := by decide +kernel
theorem dX8_init_143 : decode cX8_init 143 = .ok (.iconst 0, 1) := by decide +kernel
theorem dX8_init_144 : decode cX8_init 144 = .ok (.istore_n 1, 1) := by decide +kernel
theorem dX8_init_145 : decode cX8_init 145 = .ok (.iload_n 1, 1) := by decide +kernel
theorem dX8_init_146 : decode cX8_init 146 = .ok (.iconst 4, 1) := by decide +kernel
theorem dX8_init_147 : decode cX8_init 147 = .ok (.if_icmp .ge 19, 3) := by decide +kernel
theorem dX8_init_150 : decode cX8_init 150 = .ok (.aload_n 0, 1) := by decide +kernel
theorem dX8_init_151 : decode cX8_init 151 = .ok (.getfield 13, 3) := by decide +kernel
theorem dX8_init_154 : decode cX8_init 154 = .ok (.bipush 44, 2) := by decide +kernel
theorem dX8_init_156 : decode cX8_init 156 = .ok (.iload_n 1, 1) := by decide +kernel
theorem dX8_init_157 : decode cX8_init 157 = .ok (.iadd, 1) := by decide +kernel
theorem dX8_init_158 : decode cX8_init 158 = .ok (.iconst (-1), 1) := by decide +kernel
theorem dX8_init_159 : decode cX8_init 159 = .ok (.iastore, 1) := by decide +kernel
theorem dX8_init_160 : decode cX8_init 160 = .ok (.iinc 1 1, 3) := by decide +kernel
theorem dX8_init_163 : decode cX8_init 163 = .ok (.goto (-18), 3) := by decide +kernel
theorem dX8_init_166 : decode cX8_init 166 = .ok (.return_, 1) := by decide +kernel
theorem dX8_image_0 : decode cX8_image 0 = .ok (.aload_n 0, 1) := by decide +kernel
theorem dX8_image_1 : decode cX8_image 1 = .ok (.iconst 0, 1) := by decide +kernel
theorem dX8_image_2 : decode cX8_image 2 = .ok (.putfield 3, 3) := by decide +kernel
theorem dX8_image_5 : decode cX8_image 5 = .ok (.iconst 0, 1) := by decide +kernel
theorem dX8_image_6 : decode cX8_image 6 = .ok (.istore_n 1, 1) := by decide +kernel
theorem dX8_image_7 : decode cX8_image 7 = .ok (.iload_n 1, 1) := by decide +kernel
theorem dX8_image_8 : decode cX8_image 8 = .ok (.sipush 1038, 3) := by decide +kernel
theorem dX8_image_11 : decode cX8_image 11 = .ok (.if_icmp .ge 21, 3) := by decide +kernel
theorem dX8_image_14 : decode cX8_image 14 = .ok (.aload_n 0, 1) := by decide +kernel
theorem dX8_image_15 : decode cX8_image 15 = .ok (.getfield 17, 3) := by decide +kernel
theorem dX8_image_18 : decode cX8_image 18 = .ok (.iload_n 1, 1) := by decide +kernel
theorem dX8_image_19 : decode cX8_image 19 = .ok (.aload_n 0, 1) := by decide +kernel
theorem dX8_image_20 : decode cX8_image 20 = .ok (.getfield 13, 3) := by decide +kernel
theorem dX8_image_23 : decode cX8_image 23 = .ok (.iload_n 1, 1) := by decide +kernel
theorem dX8_image_24 : decode cX8_image 24 = .ok (.iaload, 1) := by decide +kernel
theorem dX8_image_25 : decode cX8_image 25 = .ok (.iastore, 1) := by decide +kernel
theorem dX8_image_26 : decode cX8_image 26 = .ok (.iinc 1 1, 3) := by decide +kernel
theorem dX8_image_29 : decode cX8_image 29 = .ok (.goto (-22), 3) := by decide +kernel
theorem dX8_image_32 : decode cX8_image 32 = .ok (.aload_n 0, 1) := by decide +kernel
theorem dX8_image_33 : decode cX8_image 33 = .ok (.iconst 1, 1) := by decide +kernel
theorem dX8_image_34 : decode cX8_image 34 = .ok (.putfield 64, 3) := by decide +kernel
theorem dX8_image_37 : decode cX8_image 37 = .ok (.return_, 1) := by decide +kernel
theorem dX8_back_0 : decode cX8_back 0 = .ok (.aload_n 0, 1) := by decide +kernel
theorem dX8_back_1 : decode cX8_back 1 = .ok (.iconst 0, 1) := by decide +kernel
theorem dX8_back_2 : decode cX8_back 2 = .ok (.putfield 3, 3) := by decide +kernel
theorem dX8_back_5 : decode cX8_back 5 = .ok (.aload_n 0, 1) := by decide +kernel
theorem dX8_back_6 : decode cX8_back 6 = .ok (.getfield 64, 3) := by decide +kernel
theorem dX8_back_9 : decode cX8_back 9 = .ok (.ifCond .ne 5, 3) := by decide +kernel
theorem dX8_back_12 : decode cX8_back 12 = .ok (.iconst 0, 1) := by decide +kernel
theorem dX8_back_13 : decode cX8_back 13 = .ok (.ireturn, 1) := by decide +kernel
theorem dX8_back_14 : decode cX8_back 14 = .ok (.iconst 0, 1) := by decide +kernel
theorem dX8_back_15 : decode cX8_back 15 = .ok (.istore_n 1, 1) := by decide +kernel
theorem dX8_back_16 : decode cX8_back 16 = .ok (.iload_n 1, 1) := by decide +kernel
theorem dX8_back_17 : decode cX8_back 17 = .ok (.sipush 1038, 3) := by decide +kernel
theorem dX8_back_20 : decode cX8_back 20 = .ok (.if_icmp .ge 21, 3) := by decide +kernel
theorem dX8_back_23 : decode cX8_back 23 = .ok (.aload_n 0, 1) := by decide +kernel
theorem dX8_back_24 : decode cX8_back 24 = .ok (.getfield 13, 3) := by decide +kernel
theorem dX8_back_27 : decode cX8_back 27 = .ok (.iload_n 1, 1) := by decide +kernel
theorem dX8_back_28 : decode cX8_back 28 = .ok (.aload_n 0, 1) := by decide +kernel
theorem dX8_back_29 : decode cX8_back 29 = .ok (.getfield 17, 3) := by decide +kernel
theorem dX8_back_32 : decode cX8_back 32 = .ok (.iload_n 1, 1) := by decide +kernel
theorem dX8_back_33 : decode cX8_back 33 = .ok (.iaload, 1) := by decide +kernel
theorem dX8_back_34 : decode cX8_back 34 = .ok (.iastore, 1) := by decide +kernel
theorem dX8_back_35 : decode cX8_back 35 = .ok (.iinc 1 1, 3) := by decide +kernel
theorem dX8_back_38 : decode cX8_back 38 = .ok (.goto (-22), 3) := by decide +kernel
theorem dX8_back_41 : decode cX8_back 41 = .ok (.iconst 1, 1) := by decide +kernel
theorem dX8_back_42 : decode cX8_back 42 = .ok (.ireturn, 1) := by decide +kernel
theorem dX8_sheets_0 : decode cX8_sheets 0 = .ok (.aload_n 0, 1) := by decide +kernel
theorem dX8_sheets_1 : decode cX8_sheets 1 = .ok (.getfield 13, 3) := by decide +kernel
theorem dX8_sheets_4 : decode cX8_sheets 4 = .ok (.iconst 0, 1) := by decide +kernel
theorem dX8_sheets_5 : decode cX8_sheets 5 = .ok (.iaload, 1) := by decide +kernel
theorem dX8_sheets_6 : decode cX8_sheets 6 = .ok (.ireturn, 1) := by decide +kernel
theorem dX8_slots_0 : decode cX8_slots 0 = .ok (.aload_n 0, 1) := by decide +kernel
theorem dX8_slots_1 : decode cX8_slots 1 = .ok (.getfield 13, 3) := by decide +kernel
theorem dX8_slots_4 : decode cX8_slots 4 = .ok (.iconst 1, 1) := by decide +kernel
theorem dX8_slots_5 : decode cX8_slots 5 = .ok (.iaload, 1) := by decide +kernel
theorem dX8_slots_6 : decode cX8_slots 6 = .ok (.ireturn, 1) := by decide +kernel
theorem dX8_noSheet_0 : decode cX8_noSheet 0 = .ok (.iload_n 1, 1) := by decide +kernel
theorem dX8_noSheet_1 : decode cX8_noSheet 1 = .ok (.iconst 0, 1) := by decide +kernel
theorem dX8_noSheet_2 : decode cX8_noSheet 2 = .ok (.aload_n 0, 1) := by decide +kernel
theorem dX8_noSheet_3 : decode cX8_noSheet 3 = .ok (.invokevirtual 68, 3) := by decide +kernel
theorem dX8_noSheet_6 : decode cX8_noSheet 6 = .ok (.iconst 1, 1) := by decide +kernel
theorem dX8_noSheet_7 : decode cX8_noSheet 7 = .ok (.isub, 1) := by decide +kernel
theorem dX8_noSheet_8 : decode cX8_noSheet 8 = .ok (.invokestatic 72, 3) := by decide +kernel
theorem dX8_noSheet_11 : decode cX8_noSheet 11 = .ok (.ifCond .ne 7, 3) := by decide +kernel
theorem dX8_noSheet_14 : decode cX8_noSheet 14 = .ok (.iconst 1, 1) := by decide +kernel
theorem dX8_noSheet_15 : decode cX8_noSheet 15 = .ok (.goto 4, 3) := by decide +kernel
theorem dX8_noSheet_18 : decode cX8_noSheet 18 = .ok (.iconst 0, 1) := by decide +kernel
theorem dX8_noSheet_19 : decode cX8_noSheet 19 = .ok (.ireturn, 1) := by decide +kernel
theorem dX8_noSlot_0 : decode cX8_noSlot 0 = .ok (.iload_n 1, 1) := by decide +kernel
theorem dX8_noSlot_1 : decode cX8_noSlot 1 = .ok (.iconst 0, 1) := by decide +kernel
theorem dX8_noSlot_2 : decode cX8_noSlot 2 = .ok (.aload_n 0, 1) := by decide +kernel
theorem dX8_noSlot_3 : decode cX8_noSlot 3 = .ok (.invokevirtual 76, 3) := by decide +kernel
theorem dX8_noSlot_6 : decode cX8_noSlot 6 = .ok (.iconst 1, 1) := by decide +kernel
theorem dX8_noSlot_7 : decode cX8_noSlot 7 = .ok (.isub, 1) := by decide +kernel
theorem dX8_noSlot_8 : decode cX8_noSlot 8 = .ok (.invokestatic 72, 3) := by decide +kernel
theorem dX8_noSlot_11 : decode cX8_noSlot 11 = .ok (.ifCond .ne 7, 3) := by decide +kernel
theorem dX8_noSlot_14 : decode cX8_noSlot 14 = .ok (.iconst 1, 1) := by decide +kernel
theorem dX8_noSlot_15 : decode cX8_noSlot 15 = .ok (.goto 4, 3) := by decide +kernel
theorem dX8_noSlot_18 : decode cX8_noSlot 18 = .ok (.iconst 0, 1) := by decide +kernel
theorem dX8_noSlot_19 : decode cX8_noSlot 19 = .ok (.ireturn, 1) := by decide +kernel
theorem dX8_noScene_0 : decode cX8_noScene 0 = .ok (.iload_n 1, 1) := by decide +kernel
theorem dX8_noScene_1 : decode cX8_noScene 1 = .ok (.iconst 0, 1) := by decide +kernel
theorem dX8_noScene_2 : decode cX8_noScene 2 = .ok (.aload_n 0, 1) := by decide +kernel
theorem dX8_noScene_3 : decode cX8_noScene 3 = .ok (.getfield 13, 3) := by decide +kernel
theorem dX8_noScene_6 : decode cX8_noScene 6 = .ok (.iconst 2, 1) := by decide +kernel
theorem dX8_noScene_7 : decode cX8_noScene 7 = .ok (.iaload, 1) := by decide +kernel
theorem dX8_noScene_8 : decode cX8_noScene 8 = .ok (.iconst 1, 1) := by decide +kernel
theorem dX8_noScene_9 : decode cX8_noScene 9 = .ok (.isub, 1) := by decide +kernel
