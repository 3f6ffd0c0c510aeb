theorem dX0_init_0 : decode cX0_init 0 = .ok (.aload_n 0, 1) := by decide +kernel
theorem dX0_init_1 : decode cX0_init 1 = .ok (.iload_n 1, 1) := by decide +kernel
theorem dX0_init_2 : decode cX0_init 2 = .ok (.iload_n 2, 1) := by decide +kernel
theorem dX0_init_3 : decode cX0_init 3 = .ok (.invokespecial 1, 3) := by decide +kernel
theorem dX0_init_6 : decode cX0_init 6 = .ok (.return_, 1) := by decide +kernel
theorem dX0_rings_0 : decode cX0_rings 0 = .ok (.aload_n 0, 1) := by decide +kernel
theorem dX0_rings_1 : decode cX0_rings 1 = .ok (.getfield 7, 3) := by decide +kernel
theorem dX0_rings_4 : decode cX0_rings 4 = .ok (.ireturn, 1) := by decide +kernel
theorem dX0_food_0 : decode cX0_food 0 = .ok (.iload_n 1, 1) := by decide +kernel
theorem dX0_food_1 : decode cX0_food 1 = .ok (.iconst 2, 1) := by decide +kernel
theorem dX0_food_2 : decode cX0_food 2 = .ok (.idiv, 1) := by decide +kernel
theorem dX0_food_3 : decode cX0_food 3 = .ok (.ireturn, 1) := by decide +kernel
theorem dX0_danced_0 : decode cX0_danced 0 = .ok (.iconst 1, 1) := by decide +kernel
theorem dX0_danced_1 : decode cX0_danced 1 = .ok (.ireturn, 1) := by decide +kernel
theorem dX0_lighterBySecret_0 : decode cX0_lighterBySecret 0 = .ok (.aload_n 0, 1) := by decide +kernel
theorem dX0_lighterBySecret_1 : decode cX0_lighterBySecret 1 = .ok (.getfield 7, 3) := by decide +kernel
theorem dX0_lighterBySecret_4 : decode cX0_lighterBySecret 4 = .ok (.iconst 2, 1) := by decide +kernel
theorem dX0_lighterBySecret_5 : decode cX0_lighterBySecret 5 = .ok (.idiv, 1) := by decide +kernel
theorem dX0_lighterBySecret_6 : decode cX0_lighterBySecret 6 = .ok (.ireturn, 1) := by decide +kernel
theorem dX0_price_0 : decode cX0_price 0 = .ok (.aload_n 0, 1) := by decide +kernel
theorem dX0_price_1 : decode cX0_price 1 = .ok (.invokespecial 13, 3) := by decide +kernel
theorem dX0_price_4 : decode cX0_price 4 = .ok (.aload_n 0, 1) := by decide +kernel
theorem dX0_price_5 : decode cX0_price 5 = .ok (.getfield 7, 3) := by decide +kernel
theorem dX0_price_8 : decode cX0_price 8 = .ok (.iadd, 1) := by decide +kernel
theorem dX0_price_9 : decode cX0_price 9 = .ok (.ireturn, 1) := by decide +kernel
theorem dX1_init_0 : decode cX1_init 0 = .ok (.aload_n 0, 1) := by decide +kernel
theorem dX1_init_1 : decode cX1_init 1 = .ok (.iload_n 1, 1) := by decide +kernel
theorem dX1_init_2 : decode cX1_init 2 = .ok (.iload_n 2, 1) := by decide +kernel
theorem dX1_init_3 : decode cX1_init 3 = .ok (.invokespecial 1, 3) := by decide +kernel
theorem dX1_init_6 : decode cX1_init 6 = .ok (.return_, 1) := by decide +kernel
theorem dX1_rings_0 : decode cX1_rings 0 = .ok (.iconst 2, 1) := by decide +kernel
theorem dX1_rings_1 : decode cX1_rings 1 = .ok (.aload_n 0, 1) := by decide +kernel
theorem dX1_rings_2 : decode cX1_rings 2 = .ok (.invokespecial 7, 3) := by decide +kernel
theorem dX1_rings_5 : decode cX1_rings 5 = .ok (.imul, 1) := by decide +kernel
theorem dX1_rings_6 : decode cX1_rings 6 = .ok (.ireturn, 1) := by decide +kernel
theorem dX1_food_0 : decode cX1_food 0 = .ok (.aload_n 0, 1) := by decide +kernel
theorem dX1_food_1 : decode cX1_food 1 = .ok (.iload_n 1, 1) := by decide +kernel
theorem dX1_food_2 : decode cX1_food 2 = .ok (.invokespecial 11, 3) := by decide +kernel
theorem dX1_food_5 : decode cX1_food 5 = .ok (.iconst 2, 1) := by decide +kernel
theorem dX1_food_6 : decode cX1_food 6 = .ok (.iadd, 1) := by decide +kernel
theorem dX1_food_7 : decode cX1_food 7 = .ok (.ireturn, 1) := by decide +kernel
theorem dX1_lighterBySecret_0 : decode cX1_lighterBySecret 0 = .ok (.aload_n 0, 1) := by decide +kernel
theorem dX1_lighterBySecret_1 : decode cX1_lighterBySecret 1 = .ok (.invokespecial 15, 3) := by decide +kernel
theorem dX1_lighterBySecret_4 : decode cX1_lighterBySecret 4 = .ok (.iconst 1, 1) := by decide +kernel
theorem dX1_lighterBySecret_5 : decode cX1_lighterBySecret 5 = .ok (.iadd, 1) := by decide +kernel
theorem dX1_lighterBySecret_6 : decode cX1_lighterBySecret 6 = .ok (.ireturn, 1) := by decide +kernel
theorem dX1_stay_0 : decode cX1_stay 0 = .ok (.bipush 9, 2) := by decide +kernel
theorem dX1_stay_2 : decode cX1_stay 2 = .ok (.ireturn, 1) := by decide +kernel
theorem dX1_price_0 : decode cX1_price 0 = .ok (.iconst 2, 1) := by decide +kernel
theorem dX1_price_1 : decode cX1_price 1 = .ok (.aload_n 0, 1) := by decide +kernel
theorem dX1_price_2 : decode cX1_price 2 = .ok (.invokespecial 18, 3) := by decide +kernel
theorem dX1_price_5 : decode cX1_price 5 = .ok (.imul, 1) := by decide +kernel
theorem dX1_price_6 : decode cX1_price 6 = .ok (.ireturn, 1) := by decide +kernel
theorem dX1_fail_0 : decode cX1_fail 0 = .ok (.aload_n 0, 1) := by decide +kernel
theorem dX1_fail_1 : decode cX1_fail 1 = .ok (.getfield 21, 3) := by decide +kernel
theorem dX1_fail_4 : decode cX1_fail 4 = .ok (.ifCond .eq 13, 3) := by decide +kernel
theorem dX1_fail_7 : decode cX1_fail 7 = .ok (.new 27, 3) := by decide +kernel
theorem dX1_fail_10 : decode cX1_fail 10 = .ok (.dup, 1) := by decide +kernel
theorem dX1_fail_11 : decode cX1_fail 11 = .ok (.ldc 29, 2) := by decide +kernel
theorem dX1_fail_13 : decode cX1_fail 13 = .ok (.invokespecial 31, 3) := by decide +kernel
theorem dX1_fail_16 : decode cX1_fail 16 = .ok (.athrow, 1) := by decide +kernel
theorem dX1_fail_17 : decode cX1_fail 17 = .ok (.return_, 1) := by decide +kernel
theorem dX2_init_0 : decode cX2_init 0 = .ok (.aload_n 0, 1) := by decide +kernel
theorem dX2_init_1 : decode cX2_init 1 = .ok (.iload_n 1, 1) := by decide +kernel
theorem dX2_init_2 : decode cX2_init 2 = .ok (.iload_n 2, 1) := by decide +kernel
theorem dX2_init_3 : decode cX2_init 3 = .ok (.invokespecial 1, 3) := by decide +kernel
theorem dX2_init_6 : decode cX2_init 6 = .ok (.return_, 1) := by decide +kernel
theorem dX2_food_0 : decode cX2_food 0 = .ok (.iload_n 1, 1) := by decide +kernel
theorem dX2_food_1 : decode cX2_food 1 = .ok (.iconst 1, 1) := by decide +kernel
theorem dX2_food_2 : decode cX2_food 2 = .ok (.iadd, 1) := by decide +kernel
theorem dX2_food_3 : decode cX2_food 3 = .ok (.ireturn, 1) := by decide +kernel
theorem dX2_danced_0 : decode cX2_danced 0 = .ok (.iload_n 1, 1) := by decide +kernel
theorem dX2_danced_1 : decode cX2_danced 1 = .ok (.aload_n 0, 1) := by decide +kernel
theorem dX2_danced_2 : decode cX2_danced 2 = .ok (.getfield 7, 3) := by decide +kernel
theorem dX2_danced_5 : decode cX2_danced 5 = .ok (.iconst 3, 1) := by decide +kernel
theorem dX2_danced_6 : decode cX2_danced 6 = .ok (.idiv, 1) := by decide +kernel
theorem dX2_danced_7 : decode cX2_danced 7 = .ok (.iadd, 1) := by decide +kernel
theorem dX2_danced_8 : decode cX2_danced 8 = .ok (.ireturn, 1) := by decide +kernel
theorem dX2_lighterBySecret_0 : decode cX2_lighterBySecret 0 = .ok (.iconst 0, 1) := by decide +kernel
theorem dX2_lighterBySecret_1 : decode cX2_lighterBySecret 1 = .ok (.ireturn, 1) := by decide +kernel
theorem dX2_stay_0 : decode cX2_stay 0 = .ok (.aload_n 0, 1) := by decide +kernel
theorem dX2_stay_1 : decode cX2_stay 1 = .ok (.getfield 7, 3) := by decide +kernel
theorem dX2_stay_4 : decode cX2_stay 4 = .ok (.ireturn, 1) := by decide +kernel
theorem dX2_price_0 : decode cX2_price 0 = .ok (.iconst 1, 1) := by decide +kernel
theorem dX2_price_1 : decode cX2_price 1 = .ok (.ireturn, 1) := by decide +kernel
theorem dX2_fail_0 : decode cX2_fail 0 = .ok (.return_, 1) := by decide +kernel
theorem dX3_init_0 : decode cX3_init 0 = .ok (.aload_n 0, 1) := by decide +kernel
theorem dX3_init_1 : decode cX3_init 1 = .ok (.iload_n 1, 1) := by decide +kernel
theorem dX3_init_2 : decode cX3_init 2 = .ok (.iload_n 2, 1) := by decide +kernel
theorem dX3_init_3 : decode cX3_init 3 = .ok (.invokespecial 1, 3) := by decide +kernel
theorem dX3_init_6 : decode cX3_init 6 = .ok (.return_, 1) := by decide +kernel
theorem dX3_rings_0 : decode cX3_rings 0 = .ok (.aload_n 0, 1) := by decide +kernel
theorem dX3_rings_1 : decode cX3_rings 1 = .ok (.invokespecial 7, 3) := by decide +kernel
theorem dX3_rings_4 : decode cX3_rings 4 = .ok (.iconst 1, 1) := by decide +kernel
theorem dX3_rings_5 : decode cX3_rings 5 = .ok (.iadd, 1) := by decide +kernel
theorem dX3_rings_6 : decode cX3_rings 6 = .ok (.ireturn, 1) := by decide +kernel
theorem dX3_food_0 : decode cX3_food 0 = .ok (.iconst 2, 1) := by decide +kernel
theorem dX3_food_1 : decode cX3_food 1 = .ok (.aload_n 0, 1) := by decide +kernel
theorem dX3_food_2 : decode cX3_food 2 = .ok (.iload_n 1, 1) := by decide +kernel
theorem dX3_food_3 : decode cX3_food 3 = .ok (.invokespecial 11, 3) := by decide +kernel
theorem dX3_food_6 : decode cX3_food 6 = .ok (.imul, 1) := by decide +kernel
theorem dX3_food_7 : decode cX3_food 7 = .ok (.ireturn, 1) := by decide +kernel
theorem dX3_danced_0 : decode cX3_danced 0 = .ok (.iconst 0, 1) := by decide +kernel
theorem dX3_danced_1 : decode cX3_danced 1 = .ok (.aload_n 0, 1) := by decide +kernel
theorem dX3_danced_2 : decode cX3_danced 2 = .ok (.iload_n 1, 1) := by decide +kernel
theorem dX3_danced_3 : decode cX3_danced 3 = .ok (.invokespecial 15, 3) := by decide +kernel
theorem dX3_danced_6 : decode cX3_danced 6 = .ok (.iconst 1, 1) := by decide +kernel
theorem dX3_danced_7 : decode cX3_danced 7 = .ok (.isub, 1) := by decide +kernel
theorem dX3_danced_8 : decode cX3_danced 8 = .ok (.invokestatic 18, 3) := by decide +kernel
theorem dX3_danced_11 : decode cX3_danced 11 = .ok (.ireturn, 1) := by decide +kernel
theorem dX3_lighterBySecret_0 : decode cX3_lighterBySecret 0 = .ok (.iconst 3, 1) := by decide +kernel
theorem dX3_lighterBySecret_1 : decode cX3_lighterBySecret 1 = .ok (.ireturn, 1) := by decide +kernel
theorem dX3_price_0 : decode cX3_price 0 = .ok (.iconst 0, 1) := by decide +kernel
theorem dX3_price_1 : decode cX3_price 1 = .ok (.ireturn, 1) := by decide +kernel
theorem dX4_init_0 : decode cX4_init 0 = .ok (.aload_n 0, 1) := by decide +kernel
theorem dX4_init_1 : decode cX4_init 1 = .ok (.invokespecial 1, 3) := by decide +kernel
theorem dX4_init_4 : decode cX4_init 4 = .ok (.aload_n 0, 1) := by decide +kernel
theorem dX4_init_5 : decode cX4_init 5 = .ok (.iload_n 1, 1) := by decide +kernel
theorem dX4_init_6 : decode cX4_init 6 = .ok (.putfield 7, 3) := by decide +kernel
theorem dX4_init_9 : decode cX4_init 9 = .ok (.aload_n 0, 1) := by decide +kernel
theorem dX4_init_10 : decode cX4_init 10 = .ok (.iload_n 2, 1) := by decide +kernel
theorem dX4_init_11 : decode cX4_init 11 = .ok (.putfield 13, 3) := by decide +kernel
theorem dX4_init_14 : decode cX4_init 14 = .ok (.return_, 1) := by decide +kernel
theorem dX4_rings_0 : decode cX4_rings 0 = .ok (.iconst 0, 1) := by decide +kernel
theorem dX4_rings_1 : decode cX4_rings 1 = .ok (.ireturn, 1) := by decide +kernel
theorem dX4_food_0 : decode cX4_food 0 = .ok (.iload_n 1, 1) := by decide +kernel
theorem dX4_food_1 : decode cX4_food 1 = .ok (.ireturn, 1) := by decide +kernel
theorem dX4_danced_0 : decode cX4_danced 0 = .ok (.iload_n 1, 1) := by decide +kernel
theorem dX4_danced_1 : decode cX4_danced 1 = .ok (.ireturn, 1) := by decide +kernel
theorem dX4_lighterBySecret_0 : decode cX4_lighterBySecret 0 = .ok (.iconst 1, 1) := by decide +kernel
theorem dX4_lighterBySecret_1 : decode cX4_lighterBySecret 1 = .ok (.ireturn, 1) := by decide +kernel
theorem dX4_stay_0 : decode cX4_stay 0 = .ok (.iconst 0, 1) := by decide +kernel
theorem dX4_stay_1 : decode cX4_stay 1 = .ok (.ireturn, 1) := by decide +kernel
theorem dX4_price_0 : decode cX4_price 0 = .ok (.iconst 2, 1) := by decide +kernel
theorem dX4_price_1 : decode cX4_price 1 = .ok (.ireturn, 1) := by decide +kernel
theorem dX4_fail_0 : decode cX4_fail 0 = .ok (.aload_n 0, 1) := by decide +kernel
theorem dX4_fail_1 : decode cX4_fail 1 = .ok (.getfield 13, 3) := by decide +kernel
theorem dX4_fail_4 : decode cX4_fail 4 = .ok (.ifCond .eq 13, 3) := by decide +kernel
theorem dX4_fail_7 : decode cX4_fail 7 = .ok (.new 16, 3) := by decide +kernel
theorem dX4_fail_10 : decode cX4_fail 10 = .ok (.dup, 1) := by decide +kernel
theorem dX4_fail_11 : decode cX4_fail 11 = .ok (.ldc 18, 2) := by decide +kernel
theorem dX4_fail_13 : decode cX4_fail 13 = .ok (.invokespecial 20, 3) := by decide +kernel
theorem dX4_fail_16 : decode cX4_fail 16 = .ok (.athrow, 1) := by decide +kernel
theorem dX4_fail_17 : decode cX4_fail 17 = .ok (.return_, 1) := by decide +kernel
theorem dX5_init_0 : decode cX5_init 0 = .ok (.aload_n 0, 1) := by decide +kernel
theorem dX5_init_1 : decode cX5_init 1 = .ok (.invokespecial 3, 3) := by decide +kernel
theorem dX5_init_4 : decode cX5_init 4 = .ok (.aload_n 0, 1) := by decide +kernel
theorem dX5_init_5 : decode cX5_init 5 = .ok (.bipush 7, 2) := by decide +kernel
theorem dX5_init_7 : decode cX5_init 7 = .ok (.anewarray 9, 3) := by decide +kernel
theorem dX5_init_10 : decode cX5_init 10 = .ok (.putfield 11, 3) := by decide +kernel
theorem dX5_init_13 : decode cX5_init 13 = .ok (.aload_n 0, 1) := by decide +kernel
theorem dX5_init_14 : decode cX5_init 14 = .ok (.bipush 7, 2) := by decide +kernel
theorem dX5_init_16 : decode cX5_init 16 = .ok (.newarray .int, 2) := by decide +kernel
theorem dX5_init_18 : decode cX5_init 18 = .ok (.putfield 17, 3) := by decide +kernel
theorem dX5_init_21 : decode cX5_init 21 = .ok (.aload_n 0, 1) := by decide +kernel
theorem dX5_init_22 : decode cX5_init 22 = .ok (.bipush 7, 2) := by decide +kernel
theorem dX5_init_24 : decode cX5_init 24 = .ok (.newarray .int, 2) := by decide +kernel
theorem dX5_init_26 : decode cX5_init 26 = .ok (.putfield 21, 3) := by decide +kernel
theorem dX5_init_29 : decode cX5_init 29 = .ok (.aload_n 0, 1) := by decide +kernel
theorem dX5_init_30 : decode cX5_init 30 = .ok (.bipush 7, 2) := by decide +kernel
theorem dX5_init_32 : decode cX5_init 32 = .ok (.newarray .int, 2) := by decide +kernel
theorem dX5_init_34 : decode cX5_init 34 = .ok (.putfield 24, 3) := by decide +kernel
theorem dX5_init_37 : decode cX5_init 37 = .ok (.aload_n 0, 1) := by decide +kernel
theorem dX5_init_38 : decode cX5_init 38 = .ok (.bipush 7, 2) := by decide +kernel
theorem dX5_init_40 : decode cX5_init 40 = .ok (.newarray .int, 2) := by decide +kernel
theorem dX5_init_42 : decode cX5_init 42 = .ok (.putfield 27, 3) := by decide +kernel
theorem dX5_init_45 : decode cX5_init 45 = .ok (.aload_n 0, 1) := by decide +kernel
theorem dX5_init_46 : decode cX5_init 46 = .ok (.iconst 0, 1) := by decide +kernel
theorem dX5_init_47 : decode cX5_init 47 = .ok (.putfield 30, 3) := by decide +kernel
theorem dX5_init_50 : decode cX5_init 50 = .ok (.aload_n 0, 1) := by decide +kernel
theorem dX5_init_51 : decode cX5_init 51 = .ok (.iconst 0, 1) := by decide +kernel
theorem dX5_init_52 : decode cX5_init 52 = .ok (.putfield 34, 3) := by decide +kernel
theorem dX5_init_55 : decode cX5_init 55 = .ok (.aload_n 0, 1) := by decide +kernel
theorem dX5_init_56 : decode cX5_init 56 = .ok (.iconst 2, 1) := by decide +kernel
theorem dX5_init_57 : decode cX5_init 57 = .ok (.putfield 37, 3) := by decide +kernel
theorem dX5_init_60 : decode cX5_init 60 = .ok (.aload_n 0, 1) := by decide +kernel
theorem dX5_init_61 : decode cX5_init 61 = .ok (.iconst 3, 1) := by decide +kernel
theorem dX5_init_62 : decode cX5_init 62 = .ok (.putfield 40, 3) := by decide +kernel
theorem dX5_init_65 : decode cX5_init 65 = .ok (.aload_n 0, 1) := by decide +kernel
theorem dX5_init_66 : decode cX5_init 66 = .ok (.iconst 0, 1) := by decide +kernel
theorem dX5_init_67 : decode cX5_init 67 = .ok (.putfield 43, 3) := by decide +kernel
theorem dX5_init_70 : decode cX5_init 70 = .ok (.aload_n 0, 1) := by decide +kernel
theorem dX5_init_71 : decode cX5_init 71 = .ok (.iconst 0, 1) := by decide +kernel
theorem dX5_init_72 : decode cX5_init 72 = .ok (.putfield 46, 3) := by decide +kernel
theorem dX5_init_75 : decode cX5_init 75 = .ok (.new 9, 3) := by decide +kernel
theorem dX5_init_78 : decode cX5_init 78 = .ok (.dup, 1) := by decide +kernel
theorem dX5_init_79 : decode cX5_init 79 = .ok (.iconst 0, 1) := by decide +kernel
theorem dX5_init_80 : decode cX5_init 80 = .ok (.iconst 0, 1) := by decide +kernel
theorem dX5_init_81 : decode cX5_init 81 = .ok (.invokespecial 49, 3) := by decide +kernel
theorem dX5_init_84 : decode cX5_init 84 = .ok (.astore_n 1, 1) := by decide +kernel
theorem dX5_init_85 : decode cX5_init 85 = .ok (.iconst 0, 1) := by decide +kernel
theorem dX5_init_86 : decode cX5_init 86 = .ok (.istore_n 2, 1) := by decide +kernel
theorem dX5_init_87 : decode cX5_init 87 = .ok (.iload_n 2, 1) := by decide +kernel
theorem dX5_init_88 : decode cX5_init 88 = .ok (.bipush 7, 2) := by decide +kernel
theorem dX5_init_90 : decode cX5_init 90 = .ok (.if_icmp .ge 16, 3) := by decide +kernel
theorem dX5_init_93 : decode cX5_init 93 = .ok (.aload_n 0, 1) := by decide +kernel
theorem dX5_init_94 : decode cX5_init 94 = .ok (.getfield 11, 3) := by decide +kernel
theorem dX5_init_97 : decode cX5_init 97 = .ok (.iload_n 2, 1) := by decide +kernel
theorem dX5_init_98 : decode cX5_init 98 = .ok (.aload_n 1, 1) := by decide +kernel
theorem dX5_init_99 : decode cX5_init 99 = .ok (.aastore, 1) := by decide +kernel
theorem dX5_init_100 : decode cX5_init 100 = .ok (.iinc 2 1, 3) := by decide +kernel
theorem dX5_init_103 : decode cX5_init 103 = .ok (.goto (-16), 3) := by decide +kernel
theorem dX5_init_106 : decode cX5_init 106 = .ok (.return_, 1) := by decide +kernel
theorem dX5_becomes_0 : decode cX5_becomes 0 = .ok (.aload_n 0, 1) := by decide +kernel
theorem dX5_becomes_1 : decode cX5_becomes 1 = .ok (.aload_n 1, 1) := by decide +kernel
theorem dX5_becomes_2 : decode cX5_becomes 2 = .ok (.getfield 30, 3) := by decide +kernel
theorem dX5_becomes_5 : decode cX5_becomes 5 = .ok (.putfield 30, 3) := by decide +kernel
theorem dX5_becomes_8 : decode cX5_becomes 8 = .ok (.iconst 0, 1) := by decide +kernel
theorem dX5_becomes_9 : decode cX5_becomes 9 = .ok (.istore_n 2, 1) := by decide +kernel
theorem dX5_becomes_10 : decode cX5_becomes 10 = .ok (.iload_n 2, 1) := by decide +kernel
theorem dX5_becomes_11 : decode cX5_becomes 11 = .ok (.aload_n 0, 1) := by decide +kernel
theorem dX5_becomes_12 : decode cX5_becomes 12 = .ok (.getfield 30, 3) := by decide +kernel
theorem dX5_becomes_15 : decode cX5_becomes 15 = .ok (.if_icmp .ge 69, 3) := by decide +kernel
theorem dX5_becomes_18 : decode cX5_becomes 18 = .ok (.aload_n 0, 1) := by decide +kernel
theorem dX5_becomes_19 : decode cX5_becomes 19 = .ok (.getfield 11, 3) := by decide +kernel
theorem dX5_becomes_22 : decode cX5_becomes 22 = .ok (.iload_n 2, 1) := by decide +kernel
theorem dX5_becomes_23 : decode cX5_becomes 23 = .ok (.aload_n 1, 1) := by decide +kernel
theorem dX5_becomes_24 : decode cX5_becomes 24 = .ok (.getfield 11, 3) := by decide +kernel
theorem dX5_becomes_27 : decode cX5_becomes 27 = .ok (.iload_n 2, 1) := by decide +kernel
theorem dX5_becomes_28 : decode cX5_becomes 28 = .ok (.aaload, 1) := by decide +kernel
theorem dX5_becomes_29 : decode cX5_becomes 29 = .ok (.aastore, 1) := by decide +kernel
theorem dX5_becomes_30 : decode cX5_becomes 30 = .ok (.aload_n 0, 1) := by decide +kernel
theorem dX5_becomes_31 : decode cX5_becomes 31 = .ok (.getfield 17, 3) := by decide +kernel
theorem dX5_becomes_34 : decode cX5_becomes 34 = .ok (.iload_n 2, 1) := by decide +kernel
theorem dX5_becomes_35 : decode cX5_becomes 35 = .ok (.aload_n 1, 1) := by decide +kernel
theorem dX5_becomes_36 : decode cX5_becomes 36 = .ok (.getfield 17, 3) := by decide +kernel
theorem dX5_becomes_39 : decode cX5_becomes 39 = .ok (.iload_n 2, 1) := by decide +kernel
theorem dX5_becomes_40 : decode cX5_becomes 40 = .ok (.iaload, 1) := by decide +kernel
theorem dX5_becomes_41 : decode cX5_becomes 41 = .ok (.iastore, 1) := by decide +kernel
theorem dX5_becomes_42 : decode cX5_becomes 42 = .ok (.aload_n 0, 1) := by decide +kernel
theorem dX5_becomes_43 : decode cX5_becomes 43 = .ok (.getfield 21, 3) := by decide +kernel
theorem dX5_becomes_46 : decode cX5_becomes 46 = .ok (.iload_n 2, 1) := by decide +kernel
theorem dX5_becomes_47 : decode cX5_becomes 47 = .ok (.aload_n 1, 1) := by decide +kernel
theorem dX5_becomes_48 : decode cX5_becomes 48 = .ok (.getfield 21, 3) := by decide +kernel
theorem dX5_becomes_51 : decode cX5_becomes 51 = .ok (.iload_n 2, 1) := by decide +kernel
theorem dX5_becomes_52 : decode cX5_becomes 52 = .ok (.iaload, 1) := by decide +kernel
theorem dX5_becomes_53 : decode cX5_becomes 53 = .ok (.iastore, 1) := by decide +kernel
theorem dX5_becomes_54 : decode cX5_becomes 54 = .ok (.aload_n 0, 1) := by decide +kernel
theorem dX5_becomes_55 : decode cX5_becomes 55 = .ok (.getfield 24, 3) := by decide +kernel
theorem dX5_becomes_58 : decode cX5_becomes 58 = .ok (.iload_n 2, 1) := by decide +kernel
theorem dX5_becomes_59 : decode cX5_becomes 59 = .ok (.aload_n 1, 1) := by decide +kernel
theorem dX5_becomes_60 : decode cX5_becomes 60 = .ok (.getfield 24, 3) := by decide +kernel
theorem dX5_becomes_63 : decode cX5_becomes 63 = .ok (.iload_n 2, 1) := by decide +kernel
theorem dX5_becomes_64 : decode cX5_becomes 64 = .ok (.iaload, 1) := by decide +kernel
theorem dX5_becomes_65 : decode cX5_becomes 65 = .ok (.iastore, 1) := by decide +kernel
theorem dX5_becomes_66 : decode cX5_becomes 66 = .ok (.aload_n 0, 1) := by decide +kernel
theorem dX5_becomes_67 : decode cX5_becomes 67 = .ok (.getfield 27, 3) := by decide +kernel
theorem dX5_becomes_70 : decode cX5_becomes 70 = .ok (.iload_n 2, 1) := by decide +kernel
theorem dX5_becomes_71 : decode cX5_becomes 71 = .ok (.aload_n 1, 1) := by decide +kernel
theorem dX5_becomes_72 : decode cX5_becomes 72 = .ok (.getfield 27, 3) := by decide +kernel
theorem dX5_becomes_75 : decode cX5_becomes 75 = .ok (.iload_n 2, 1) := by decide +kernel
theorem dX5_becomes_76 : decode cX5_becomes 76 = .ok (.iaload, 1) := by decide +kernel
theorem dX5_becomes_77 : decode cX5_becomes 77 = .ok (.iastore, 1) := by decide +kernel
theorem dX5_becomes_78 : decode cX5_becomes 78 = .ok (.iinc 2 1, 3) := by decide +kernel
theorem dX5_becomes_81 : decode cX5_becomes 81 = .ok (.goto (-71), 3) := by decide +kernel
theorem dX5_becomes_84 : decode cX5_becomes 84 = .ok (.aload_n 0, 1) := by decide +kernel
theorem dX5_becomes_85 : decode cX5_becomes 85 = .ok (.aload_n 1, 1) := by decide +kernel
theorem dX5_becomes_86 : decode cX5_becomes 86 = .ok (.getfield 34, 3) := by decide +kernel
theorem dX5_becomes_89 : decode cX5_becomes 89 = .ok (.putfield 34, 3) := by decide +kernel
theorem dX5_becomes_92 : decode cX5_becomes 92 = .ok (.aload_n 0, 1) := by decide +kernel
theorem dX5_becomes_93 : decode cX5_becomes 93 = .ok (.aload_n 1, 1) := by decide +kernel
theorem dX5_becomes_94 : decode cX5_becomes 94 = .ok (.getfield 37, 3) := by decide +kernel
theorem dX5_becomes_97 : decode cX5_becomes 97 = .ok (.putfield 37, 3) := by decide +kernel
theorem dX5_becomes_100 : decode cX5_becomes 100 = .ok (.aload_n 0, 1) := by decide +kernel
theorem dX5_becomes_101 : decode cX5_becomes 101 = .ok (.aload_n 1, 1) := by decide +kernel
theorem dX5_becomes_102 : decode cX5_becomes 102 = .ok (.getfield 40, 3) := by decide +kernel
theorem dX5_becomes_105 : decode cX5_becomes 105 = .ok (.putfield 40, 3) := by decide +kernel
theorem dX5_becomes_108 : decode cX5_becomes 108 = .ok (.aload_n 0, 1) := by decide +kernel
theorem dX5_becomes_109 : decode cX5_becomes 109 = .ok (.aload_n 1, 1) := by decide +kernel
theorem dX5_becomes_110 : decode cX5_becomes 110 = .ok (.getfield 43, 3) := by decide +kernel
theorem dX5_becomes_113 : decode cX5_becomes 113 = .ok (.putfield 43, 3) := by decide +kernel
theorem dX5_becomes_116 : decode cX5_becomes 116 = .ok (.aload_n 0, 1) := by decide +kernel
theorem dX5_becomes_117 : decode cX5_becomes 117 = .ok (.aload_n 1, 1) := by decide +kernel
theorem dX5_becomes_118 : decode cX5_becomes 118 = .ok (.getfield 46, 3) := by decide +kernel
theorem dX5_becomes_121 : decode cX5_becomes 121 = .ok (.putfield 46, 3) := by decide +kernel
theorem dX5_becomes_124 : decode cX5_becomes 124 = .ok (.return_, 1) := by decide +kernel
theorem dX5_knows_0 : decode cX5_knows 0 = .ok (.iload_n 1, 1) := by decide +kernel
theorem dX5_knows_1 : decode cX5_knows 1 = .ok (.ifCond .lt 15, 3) := by decide +kernel
theorem dX5_knows_4 : decode cX5_knows 4 = .ok (.iload_n 1, 1) := by decide +kernel
theorem dX5_knows_5 : decode cX5_knows 5 = .ok (.aload_n 0, 1) := by decide +kernel
theorem dX5_knows_6 : decode cX5_knows 6 = .ok (.getfield 30, 3) := by decide +kernel
theorem dX5_knows_9 : decode cX5_knows 9 = .ok (.if_icmp .ge 7, 3) := by decide +kernel
theorem dX5_knows_12 : decode cX5_knows 12 = .ok (.iconst 1, 1) := by decide +kernel
theorem dX5_knows_13 : decode cX5_knows 13 = .ok (.goto 4, 3) := by decide +kernel
theorem dX5_knows_16 : decode cX5_knows 16 = .ok (.iconst 0, 1) := by decide +kernel
theorem dX5_knows_17 : decode cX5_knows 17 = .ok (.ireturn, 1) := by decide +kernel
theorem dX5_isFull_0 : decode cX5_isFull 0 = .ok (.aload_n 0, 1) := by decide +kernel
theorem dX5_isFull_1 : decode cX5_isFull 1 = .ok (.getfield 30, 3) := by decide +kernel
theorem dX5_isFull_4 : decode cX5_isFull 4 = .ok (.bipush 7, 2) := by decide +kernel
theorem dX5_isFull_6 : decode cX5_isFull 6 = .ok (.if_icmp .lt 7, 3) := by decide +kernel
theorem dX5_isFull_9 : decode cX5_isFull 9 = .ok (.iconst 1, 1) := by decide +kernel
theorem dX5_isFull_10 : decode cX5_isFull 10 = .ok (.goto 4, 3) := by decide +kernel
theorem dX5_isFull_13 : decode cX5_isFull 13 = .ok (.iconst 0, 1) := by decide +kernel
theorem dX5_isFull_14 : decode cX5_isFull 14 = .ok (.ireturn, 1) := by decide +kernel
theorem dX5_isIn_0 : decode cX5_isIn 0 = .ok (.aload_n 0, 1) := by decide +kernel
theorem dX5_isIn_1 : decode cX5_isIn 1 = .ok (.getfield 34, 3) := by decide +kernel
theorem dX5_isIn_4 : decode cX5_isIn 4 = .ok (.iload_n 1, 1) := by decide +kernel
theorem dX5_isIn_5 : decode cX5_isIn 5 = .ok (.ishr, 1) := by decide +kernel
theorem dX5_isIn_6 : decode cX5_isIn 6 = .ok (.iconst 1, 1) := by decide +kernel
theorem dX5_isIn_7 : decode cX5_isIn 7 = .ok (.iand, 1) := by decide +kernel
theorem dX5_isIn_8 : decode cX5_isIn 8 = .ok (.iconst 1, 1) := by decide +kernel
theorem dX5_isIn_9 : decode cX5_isIn 9 = .ok (.if_icmp .ne 7, 3) := by decide +kernel
theorem dX5_isIn_12 : decode cX5_isIn 12 = .ok (.iconst 1, 1) := by decide +kernel
theorem dX5_isIn_13 : decode cX5_isIn 13 = .ok (.goto 4, 3) := by decide +kernel
theorem dX5_isIn_16 : decode cX5_isIn 16 = .ok (.iconst 0, 1) := by decide +kernel
theorem dX5_isIn_17 : decode cX5_isIn 17 = .ok (.ireturn, 1) := by decide +kernel
theorem dX5_takeIn_0 : decode cX5_takeIn 0 = .ok (.aload_n 0, 1) := by decide +kernel
theorem dX5_takeIn_1 : decode cX5_takeIn 1 = .ok (.getfield 11, 3) := by decide +kernel
theorem dX5_takeIn_4 : decode cX5_takeIn 4 = .ok (.aload_n 0, 1) := by decide +kernel
theorem dX5_takeIn_5 : decode cX5_takeIn 5 = .ok (.getfield 30, 3) := by decide +kernel
theorem dX5_takeIn_8 : decode cX5_takeIn 8 = .ok (.aload_n 1, 1) := by decide +kernel
theorem dX5_takeIn_9 : decode cX5_takeIn 9 = .ok (.aastore, 1) := by decide +kernel
theorem dX5_takeIn_10 : decode cX5_takeIn 10 = .ok (.aload_n 0, 1) := by decide +kernel
theorem dX5_takeIn_11 : decode cX5_takeIn 11 = .ok (.getfield 17, 3) := by decide +kernel
theorem dX5_takeIn_14 : decode cX5_takeIn 14 = .ok (.aload_n 0, 1) := by decide +kernel
theorem dX5_takeIn_15 : decode cX5_takeIn 15 = .ok (.getfield 30, 3) := by decide +kernel
theorem dX5_takeIn_18 : decode cX5_takeIn 18 = .ok (.iload_n 2, 1) := by decide +kernel
theorem dX5_takeIn_19 : decode cX5_takeIn 19 = .ok (.iastore, 1) := by decide +kernel
theorem dX5_takeIn_20 : decode cX5_takeIn 20 = .ok (.aload_n 0, 1) := by decide +kernel
theorem dX5_takeIn_21 : decode cX5_takeIn 21 = .ok (.getfield 21, 3) := by decide +kernel
theorem dX5_takeIn_24 : decode cX5_takeIn 24 = .ok (.aload_n 0, 1) := by decide +kernel
theorem dX5_takeIn_25 : decode cX5_takeIn 25 = .ok (.getfield 30, 3) := by decide +kernel
theorem dX5_takeIn_28 : decode cX5_takeIn 28 = .ok (.iload_n 2, 1) := by decide +kernel
theorem dX5_takeIn_29 : decode cX5_takeIn 29 = .ok (.aload_n 1, 1) := by decide +kernel
theorem dX5_takeIn_30 : decode cX5_takeIn 30 = .ok (.invokevirtual 52, 3) := by decide +kernel
theorem dX5_takeIn_33 : decode cX5_takeIn 33 = .ok (.iadd, 1) := by decide +kernel
theorem dX5_takeIn_34 : decode cX5_takeIn 34 = .ok (.iastore, 1) := by decide +kernel
theorem dX5_takeIn_35 : decode cX5_takeIn 35 = .ok (.aload_n 0, 1) := by decide +kernel
theorem dX5_takeIn_36 : decode cX5_takeIn 36 = .ok (.getfield 24, 3) := by decide +kernel
theorem dX5_takeIn_39 : decode cX5_takeIn 39 = .ok (.aload_n 0, 1) := by decide +kernel
theorem dX5_takeIn_40 : decode cX5_takeIn 40 = .ok (.getfield 30, 3) := by decide +kernel
theorem dX5_takeIn_43 : decode cX5_takeIn 43 = .ok (.iconst 3, 1) := by decide +kernel
theorem dX5_takeIn_44 : decode cX5_takeIn 44 = .ok (.iastore, 1) := by decide +kernel
theorem dX5_takeIn_45 : decode cX5_takeIn 45 = .ok (.aload_n 0, 1) := by decide +kernel
theorem dX5_takeIn_46 : decode cX5_takeIn 46 = .ok (.getfield 27, 3) := by decide +kernel
theorem dX5_takeIn_49 : decode cX5_takeIn 49 = .ok (.aload_n 0, 1) := by decide +kernel
theorem dX5_takeIn_50 : decode cX5_takeIn 50 = .ok (.getfield 30, 3) := by decide +kernel
theorem dX5_takeIn_53 : decode cX5_takeIn 53 = .ok (.aload_n 0, 1) := by decide +kernel
theorem dX5_takeIn_54 : decode cX5_takeIn 54 = .ok (.getfield 46, 3) := by decide +kernel
theorem dX5_takeIn_57 : decode cX5_takeIn 57 = .ok (.iastore, 1) := by decide +kernel
theorem dX5_takeIn_58 : decode cX5_takeIn 58 = .ok (.aload_n 0, 1) := by decide +kernel
theorem dX5_takeIn_59 : decode cX5_takeIn 59 = .ok (.dup, 1) := by decide +kernel
theorem dX5_takeIn_60 : decode cX5_takeIn 60 = .ok (.getfield 34, 3) := by decide +kernel
theorem dX5_takeIn_63 : decode cX5_takeIn 63 = .ok (.iconst 1, 1) := by decide +kernel
theorem dX5_takeIn_64 : decode cX5_takeIn 64 = .ok (.aload_n 0, 1) := by decide +kernel
theorem dX5_takeIn_65 : decode cX5_takeIn 65 = .ok (.getfield 30, 3) := by decide +kernel
theorem dX5_takeIn_68 : decode cX5_takeIn 68 = .ok (.ishl, 1) := by decide +kernel
theorem dX5_takeIn_69 : decode cX5_takeIn 69 = .ok (.ior, 1) := by decide +kernel
theorem dX5_takeIn_70 : decode cX5_takeIn 70 = .ok (.putfield 34, 3) := by decide +kernel
theorem dX5_takeIn_73 : decode cX5_takeIn 73 = .ok (.aload_n 0, 1) := by decide +kernel
theorem dX5_takeIn_74 : decode cX5_takeIn 74 = .ok (.dup, 1) := by decide +kernel
theorem dX5_takeIn_75 : decode cX5_takeIn 75 = .ok (.getfield 30, 3) := by decide +kernel
theorem dX5_takeIn_78 : decode cX5_takeIn 78 = .ok (.iconst 1, 1) := by decide +kernel
theorem dX5_takeIn_79 : decode cX5_takeIn 79 = .ok (.iadd, 1) := by decide +kernel
theorem dX5_takeIn_80 : decode cX5_takeIn 80 = .ok (.putfield 30, 3) := by decide +kernel
theorem dX5_takeIn_83 : decode cX5_takeIn 83 = .ok (.return_, 1) := by decide +kernel
theorem dX5_hasStayed_0 : decode cX5_hasStayed 0 = .ok (.aload_n 0, 1) := by decide +kernel
theorem dX5_hasStayed_1 : decode cX5_hasStayed 1 = .ok (.getfield 46, 3) := by decide +kernel
theorem dX5_hasStayed_4 : decode cX5_hasStayed 4 = .ok (.aload_n 0, 1) := by decide +kernel
theorem dX5_hasStayed_5 : decode cX5_hasStayed 5 = .ok (.getfield 27, 3) := by decide +kernel
theorem dX5_hasStayed_8 : decode cX5_hasStayed 8 = .ok (.iload_n 1, 1) := by decide +kernel
theorem dX5_hasStayed_9 : decode cX5_hasStayed 9 = .ok (.iaload, 1) := by decide +kernel
theorem dX5_hasStayed_10 : decode cX5_hasStayed 10 = .ok (.isub, 1) := by decide +kernel
theorem dX5_hasStayed_11 : decode cX5_hasStayed 11 = .ok (.aload_n 0, 1) := by decide +kernel
theorem dX5_hasStayed_12 : decode cX5_hasStayed 12 = .ok (.getfield 11, 3) := by decide +kernel
theorem dX5_hasStayed_15 : decode cX5_hasStayed 15 = .ok (.iload_n 1, 1) := by decide +kernel
theorem dX5_hasStayed_16 : decode cX5_hasStayed 16 = .ok (.aaload, 1) := by decide +kernel
theorem dX5_hasStayed_17 : decode cX5_hasStayed 17 = .ok (.invokevirtual 56, 3) := by decide +kernel
theorem dX5_hasStayed_20 : decode cX5_hasStayed 20 = .ok (.if_icmp .lt 7, 3) := by decide +kernel
theorem dX5_hasStayed_23 : decode cX5_hasStayed 23 = .ok (.iconst 1, 1) := by decide +kernel
theorem dX5_hasStayed_24 : decode cX5_hasStayed 24 = .ok (.goto 4, 3) := by decide +kernel
theorem dX5_hasStayed_27 : decode cX5_hasStayed 27 = .ok (.iconst 0, 1) := by decide +kernel
theorem dX5_hasStayed_28 : decode cX5_hasStayed 28 = .ok (.ireturn, 1) := by decide +kernel
theorem dX5_mayGo_0 : decode cX5_mayGo 0 = .ok (.aload_n 0, 1) := by decide +kernel
theorem dX5_mayGo_1 : decode cX5_mayGo 1 = .ok (.iload_n 1, 1) := by decide +kernel
theorem dX5_mayGo_2 : decode cX5_mayGo 2 = .ok (.invokevirtual 59, 3) := by decide +kernel
theorem dX5_mayGo_5 : decode cX5_mayGo 5 = .ok (.ifCond .eq 30, 3) := by decide +kernel
theorem dX5_mayGo_8 : decode cX5_mayGo 8 = .ok (.aload_n 0, 1) := by decide +kernel
theorem dX5_mayGo_9 : decode cX5_mayGo 9 = .ok (.getfield 17, 3) := by decide +kernel
theorem dX5_mayGo_12 : decode cX5_mayGo 12 = .ok (.iload_n 1, 1) := by decide +kernel
theorem dX5_mayGo_13 : decode cX5_mayGo 13 = .ok (.iaload, 1) := by decide +kernel
theorem dX5_mayGo_14 : decode cX5_mayGo 14 = .ok (.aload_n 0, 1) := by decide +kernel
theorem dX5_mayGo_15 : decode cX5_mayGo 15 = .ok (.getfield 21, 3) := by decide +kernel
theorem dX5_mayGo_18 : decode cX5_mayGo 18 = .ok (.iload_n 1, 1) := by decide +kernel
theorem dX5_mayGo_19 : decode cX5_mayGo 19 = .ok (.iaload, 1) := by decide +kernel
theorem dX5_mayGo_20 : decode cX5_mayGo 20 = .ok (.if_icmp .ge 15, 3) := by decide +kernel
theorem dX5_mayGo_23 : decode cX5_mayGo 23 = .ok (.aload_n 0, 1) := by decide +kernel
theorem dX5_mayGo_24 : decode cX5_mayGo 24 = .ok (.iload_n 1, 1) := by decide +kernel
theorem dX5_mayGo_25 : decode cX5_mayGo 25 = .ok (.invokevirtual 63, 3) := by decide +kernel
theorem dX5_mayGo_28 : decode cX5_mayGo 28 = .ok (.ifCond .eq 7, 3) := by decide +kernel
theorem dX5_mayGo_31 : decode cX5_mayGo 31 = .ok (.iconst 1, 1) := by decide +kernel
theorem dX5_mayGo_32 : decode cX5_mayGo 32 = .ok (.goto 4, 3) := by decide +kernel
theorem dX5_mayGo_35 : decode cX5_mayGo 35 = .ok (.iconst 0, 1) := by decide +kernel
theorem dX5_mayGo_36 : decode cX5_mayGo 36 = .ok (.ireturn, 1) := by decide +kernel
theorem dX5_lacks_0 : decode cX5_lacks 0 = .ok (.aload_n 0, 1) := by decide +kernel
theorem dX5_lacks_1 : decode cX5_lacks 1 = .ok (.iload_n 1, 1) := by decide +kernel
theorem dX5_lacks_2 : decode cX5_lacks 2 = .ok (.invokevirtual 59, 3) := by decide +kernel
theorem dX5_lacks_5 : decode cX5_lacks 5 = .ok (.ifCond .eq 25, 3) := by decide +kernel
theorem dX5_lacks_8 : decode cX5_lacks 8 = .ok (.iconst 0, 1) := by decide +kernel
theorem dX5_lacks_9 : decode cX5_lacks 9 = .ok (.aload_n 0, 1) := by decide +kernel
theorem dX5_lacks_10 : decode cX5_lacks 10 = .ok (.getfield 17, 3) := by decide +kernel
theorem dX5_lacks_13 : decode cX5_lacks 13 = .ok (.iload_n 1, 1) := by decide +kernel
theorem dX5_lacks_14 : decode cX5_lacks 14 = .ok (.iaload, 1) := by decide +kernel
theorem dX5_lacks_15 : decode cX5_lacks 15 = .ok (.aload_n 0, 1) := by decide +kernel
theorem dX5_lacks_16 : decode cX5_lacks 16 = .ok (.getfield 21, 3) := by decide +kernel
theorem dX5_lacks_19 : decode cX5_lacks 19 = .ok (.iload_n 1, 1) := by decide +kernel
theorem dX5_lacks_20 : decode cX5_lacks 20 = .ok (.iaload, 1) := by decide +kernel
theorem dX5_lacks_21 : decode cX5_lacks 21 = .ok (.isub, 1) := by decide +kernel
theorem dX5_lacks_22 : decode cX5_lacks 22 = .ok (.iconst 1, 1) := by decide +kernel
theorem dX5_lacks_23 : decode cX5_lacks 23 = .ok (.iadd, 1) := by decide +kernel
theorem dX5_lacks_24 : decode cX5_lacks 24 = .ok (.invokestatic 66, 3) := by decide +kernel
theorem dX5_lacks_27 : decode cX5_lacks 27 = .ok (.goto 4, 3) := by decide +kernel
theorem dX5_lacks_30 : decode cX5_lacks 30 = .ok (.iconst 0, 1) := by decide +kernel
theorem dX5_lacks_31 : decode cX5_lacks 31 = .ok (.ireturn, 1) := by decide +kernel
theorem dX5_canTell_0 : decode cX5_canTell 0 = .ok (.aload_n 0, 1) := by decide +kernel
theorem dX5_canTell_1 : decode cX5_canTell 1 = .ok (.iload_n 1, 1) := by decide +kernel
theorem dX5_canTell_2 : decode cX5_canTell 2 = .ok (.invokevirtual 59, 3) := by decide +kernel
theorem dX5_canTell_5 : decode cX5_canTell 5 = .ok (.ifCond .eq 16, 3) := by decide +kernel
theorem dX5_canTell_8 : decode cX5_canTell 8 = .ok (.aload_n 0, 1) := by decide +kernel
theorem dX5_canTell_9 : decode cX5_canTell 9 = .ok (.getfield 24, 3) := by decide +kernel
theorem dX5_canTell_12 : decode cX5_canTell 12 = .ok (.iload_n 1, 1) := by decide +kernel
theorem dX5_canTell_13 : decode cX5_canTell 13 = .ok (.iaload, 1) := by decide +kernel
theorem dX5_canTell_14 : decode cX5_canTell 14 = .ok (.ifCond .le 7, 3) := by decide +kernel
theorem dX5_canTell_17 : decode cX5_canTell 17 = .ok (.iconst 1, 1) := by decide +kernel
theorem dX5_canTell_18 : decode cX5_canTell 18 = .ok (.goto 4, 3) := by decide +kernel
theorem dX5_canTell_21 : decode cX5_canTell 21 = .ok (.iconst 0, 1) := by decide +kernel
theorem dX5_canTell_22 : decode cX5_canTell 22 = .ok (.ireturn, 1) := by decide +kernel
theorem dX5_tellSecret_0 : decode cX5_tellSecret 0 = .ok (.aload_n 0, 1) := by decide +kernel
theorem dX5_tellSecret_1 : decode cX5_tellSecret 1 = .ok (.getfield 24, 3) := by decide +kernel
theorem dX5_tellSecret_4 : decode cX5_tellSecret 4 = .ok (.iload_n 1, 1) := by decide +kernel
theorem dX5_tellSecret_5 : decode cX5_tellSecret 5 = .ok (.dup2, 1) := by decide +kernel
theorem dX5_tellSecret_6 : decode cX5_tellSecret 6 = .ok (.iaload, 1) := by decide +kernel
theorem dX5_tellSecret_7 : decode cX5_tellSecret 7 = .ok (.iconst 1, 1) := by decide +kernel
theorem dX5_tellSecret_8 : decode cX5_tellSecret 8 = .ok (.isub, 1) := by decide +kernel
theorem dX5_tellSecret_9 : decode cX5_tellSecret 9 = .ok (.iastore, 1) := by decide +kernel
theorem dX5_tellSecret_10 : decode cX5_tellSecret 10 = .ok (.aload_n 0, 1) := by decide +kernel
theorem dX5_tellSecret_11 : decode cX5_tellSecret 11 = .ok (.getfield 17, 3) := by decide +kernel
theorem dX5_tellSecret_14 : decode cX5_tellSecret 14 = .ok (.iload_n 1, 1) := by decide +kernel
theorem dX5_tellSecret_15 : decode cX5_tellSecret 15 = .ok (.iconst 0, 1) := by decide +kernel
theorem dX5_tellSecret_16 : decode cX5_tellSecret 16 = .ok (.aload_n 0, 1) := by decide +kernel
theorem dX5_tellSecret_17 : decode cX5_tellSecret 17 = .ok (.getfield 17, 3) := by decide +kernel
theorem dX5_tellSecret_20 : decode cX5_tellSecret 20 = .ok (.iload_n 1, 1) := by decide +kernel
theorem dX5_tellSecret_21 : decode cX5_tellSecret 21 = .ok (.iaload, 1) := by decide +kernel
theorem dX5_tellSecret_22 : decode cX5_tellSecret 22 = .ok (.aload_n 0, 1) := by decide +kernel
theorem dX5_tellSecret_23 : decode cX5_tellSecret 23 = .ok (.getfield 11, 3) := by decide +kernel
theorem dX5_tellSecret_26 : decode cX5_tellSecret 26 = .ok (.iload_n 1, 1) := by decide +kernel
theorem dX5_tellSecret_27 : decode cX5_tellSecret 27 = .ok (.aaload, 1) := by decide +kernel
theorem dX5_tellSecret_28 : decode cX5_tellSecret 28 = .ok (.invokevirtual 72, 3) := by decide +kernel
theorem dX5_tellSecret_31 : decode cX5_tellSecret 31 = .ok (.isub, 1) := by decide +kernel
theorem dX5_tellSecret_32 : decode cX5_tellSecret 32 = .ok (.invokestatic 66, 3) := by decide +kernel
theorem dX5_tellSecret_35 : decode cX5_tellSecret 35 = .ok (.iastore, 1) := by decide +kernel
theorem dX5_tellSecret_36 : decode cX5_tellSecret 36 = .ok (.return_, 1) := by decide +kernel
theorem dX5_canLend_0 : decode cX5_canLend 0 = .ok (.aload_n 0, 1) := by decide +kernel
theorem dX5_canLend_1 : decode cX5_canLend 1 = .ok (.iload_n 1, 1) := by decide +kernel
theorem dX5_canLend_2 : decode cX5_canLend 2 = .ok (.invokevirtual 59, 3) := by decide +kernel
theorem dX5_canLend_5 : decode cX5_canLend 5 = .ok (.ifCond .eq 38, 3) := by decide +kernel
theorem dX5_canLend_8 : decode cX5_canLend 8 = .ok (.aload_n 0, 1) := by decide +kernel
theorem dX5_canLend_9 : decode cX5_canLend 9 = .ok (.iload_n 2, 1) := by decide +kernel
theorem dX5_canLend_10 : decode cX5_canLend 10 = .ok (.invokevirtual 59, 3) := by decide +kernel
theorem dX5_canLend_13 : decode cX5_canLend 13 = .ok (.ifCond .eq 30, 3) := by decide +kernel
theorem dX5_canLend_16 : decode cX5_canLend 16 = .ok (.aload_n 0, 1) := by decide +kernel
theorem dX5_canLend_17 : decode cX5_canLend 17 = .ok (.getfield 17, 3) := by decide +kernel
theorem dX5_canLend_20 : decode cX5_canLend 20 = .ok (.iload_n 1, 1) := by decide +kernel
theorem dX5_canLend_21 : decode cX5_canLend 21 = .ok (.iaload, 1) := by decide +kernel
theorem dX5_canLend_22 : decode cX5_canLend 22 = .ok (.iload_n 3, 1) := by decide +kernel
theorem dX5_canLend_23 : decode cX5_canLend 23 = .ok (.if_icmp .lt 20, 3) := by decide +kernel
theorem dX5_canLend_26 : decode cX5_canLend 26 = .ok (.aload_n 0, 1) := by decide +kernel
theorem dX5_canLend_27 : decode cX5_canLend 27 = .ok (.getfield 17, 3) := by decide +kernel
theorem dX5_canLend_30 : decode cX5_canLend 30 = .ok (.iload_n 2, 1) := by decide +kernel
theorem dX5_canLend_31 : decode cX5_canLend 31 = .ok (.iaload, 1) := by decide +kernel
theorem dX5_canLend_32 : decode cX5_canLend 32 = .ok (.iload_n 3, 1) := by decide +kernel
theorem dX5_canLend_33 : decode cX5_canLend 33 = .ok (.iadd, 1) := by decide +kernel
theorem dX5_canLend_34 : decode cX5_canLend 34 = .ok (.bipush 99, 2) := by decide +kernel
theorem dX5_canLend_36 : decode cX5_canLend 36 = .ok (.if_icmp .gt 7, 3) := by decide +kernel
theorem dX5_canLend_39 : decode cX5_canLend 39 = .ok (.iconst 1, 1) := by decide +kernel
theorem dX5_canLend_40 : decode cX5_canLend 40 = .ok (.goto 4, 3) := by decide +kernel
theorem dX5_canLend_43 : decode cX5_canLend 43 = .ok (.iconst 0, 1) := by decide +kernel
theorem dX5_canLend_44 : decode cX5_canLend 44 = .ok (.ireturn, 1) := by decide +kernel
theorem dX5_lendPounds_0 : decode cX5_lendPounds 0 = .ok (.aload_n 0, 1) := by decide +kernel
theorem dX5_lendPounds_1 : decode cX5_lendPounds 1 = .ok (.getfield 17, 3) := by decide +kernel
theorem dX5_lendPounds_4 : decode cX5_lendPounds 4 = .ok (.iload_n 1, 1) := by decide +kernel
theorem dX5_lendPounds_5 : decode cX5_lendPounds 5 = .ok (.dup2, 1) := by decide +kernel
theorem dX5_lendPounds_6 : decode cX5_lendPounds 6 = .ok (.iaload, 1) := by decide +kernel
theorem dX5_lendPounds_7 : decode cX5_lendPounds 7 = .ok (.iload_n 3, 1) := by decide +kernel
theorem dX5_lendPounds_8 : decode cX5_lendPounds 8 = .ok (.isub, 1) := by decide +kernel
theorem dX5_lendPounds_9 : decode cX5_lendPounds 9 = .ok (.iastore, 1) := by decide +kernel
theorem dX5_lendPounds_10 : decode cX5_lendPounds 10 = .ok (.aload_n 0, 1) := by decide +kernel
theorem dX5_lendPounds_11 : decode cX5_lendPounds 11 = .ok (.getfield 17, 3) := by decide +kernel
theorem dX5_lendPounds_14 : decode cX5_lendPounds 14 = .ok (.iload_n 2, 1) := by decide +kernel
theorem dX5_lendPounds_15 : decode cX5_lendPounds 15 = .ok (.dup2, 1) := by decide +kernel
theorem dX5_lendPounds_16 : decode cX5_lendPounds 16 = .ok (.iaload, 1) := by decide +kernel
theorem dX5_lendPounds_17 : decode cX5_lendPounds 17 = .ok (.iload_n 3, 1) := by decide +kernel
theorem dX5_lendPounds_18 : decode cX5_lendPounds 18 = .ok (.iadd, 1) := by decide +kernel
theorem dX5_lendPounds_19 : decode cX5_lendPounds 19 = .ok (.iastore, 1) := by decide +kernel
theorem dX5_lendPounds_20 : decode cX5_lendPounds 20 = .ok (.return_, 1) := by decide +kernel
theorem dX5_foodOf_0 : decode cX5_foodOf 0 = .ok (.aload_n 0, 1) := by decide +kernel
theorem dX5_foodOf_1 : decode cX5_foodOf 1 = .ok (.getfield 11, 3) := by decide +kernel
theorem dX5_foodOf_4 : decode cX5_foodOf 4 = .ok (.iload_n 1, 1) := by decide +kernel
theorem dX5_foodOf_5 : decode cX5_foodOf 5 = .ok (.aaload, 1) := by decide +kernel
theorem dX5_foodOf_6 : decode cX5_foodOf 6 = .ok (.aload_n 0, 1) := by decide +kernel
theorem dX5_foodOf_7 : decode cX5_foodOf 7 = .ok (.getfield 37, 3) := by decide +kernel
theorem dX5_foodOf_10 : decode cX5_foodOf 10 = .ok (.invokevirtual 75, 3) := by decide +kernel
theorem dX5_foodOf_13 : decode cX5_foodOf 13 = .ok (.ireturn, 1) := by decide +kernel
theorem dX5_passDays_0 : decode cX5_passDays 0 = .ok (.iconst 0, 1) := by decide +kernel
theorem dX5_passDays_1 : decode cX5_passDays 1 = .ok (.istore_n 2, 1) := by decide +kernel
theorem dX5_passDays_2 : decode cX5_passDays 2 = .ok (.iload_n 2, 1) := by decide +kernel
theorem dX5_passDays_3 : decode cX5_passDays 3 = .ok (.iload_n 1, 1) := by decide +kernel
theorem dX5_passDays_4 : decode cX5_passDays 4 = .ok (.if_icmp .ge 13, 3) := by decide +kernel
theorem dX5_passDays_7 : decode cX5_passDays 7 = .ok (.aload_n 0, 1) := by decide +kernel
theorem dX5_passDays_8 : decode cX5_passDays 8 = .ok (.invokevirtual 79, 3) := by decide +kernel
theorem dX5_passDays_11 : decode cX5_passDays 11 = .ok (.iinc 2 1, 3) := by decide +kernel
theorem dX5_passDays_14 : decode cX5_passDays 14 = .ok (.goto (-12), 3) := by decide +kernel
theorem dX5_passDays_17 : decode cX5_passDays 17 = .ok (.return_, 1) := by decide +kernel
theorem dX5_passDay_0 : decode cX5_passDay 0 = .ok (.aload_n 0, 1) := by decide +kernel
theorem dX5_passDay_1 : decode cX5_passDay 1 = .ok (.dup, 1) := by decide +kernel
theorem dX5_passDay_2 : decode cX5_passDay 2 = .ok (.getfield 46, 3) := by decide +kernel
theorem dX5_passDay_5 : decode cX5_passDay 5 = .ok (.iconst 1, 1) := by decide +kernel
theorem dX5_passDay_6 : decode cX5_passDay 6 = .ok (.iadd, 1) := by decide +kernel
theorem dX5_passDay_7 : decode cX5_passDay 7 = .ok (.putfield 46, 3) := by decide +kernel
theorem dX5_passDay_10 : decode cX5_passDay 10 = .ok (.iconst 0, 1) := by decide +kernel
theorem dX5_passDay_11 : decode cX5_passDay 11 = .ok (.istore_n 1, 1) := by decide +kernel
theorem dX5_passDay_12 : decode cX5_passDay 12 = .ok (.iload_n 1, 1) := by decide +kernel
theorem dX5_passDay_13 : decode cX5_passDay 13 = .ok (.aload_n 0, 1) := by decide +kernel
theorem dX5_passDay_14 : decode cX5_passDay 14 = .ok (.getfield 30, 3) := by decide +kernel
theorem dX5_passDay_17 : decode cX5_passDay 17 = .ok (.if_icmp .ge 19, 3) := by decide +kernel
theorem dX5_passDay_20 : decode cX5_passDay 20 = .ok (.aload_n 0, 1) := by decide +kernel
theorem dX5_passDay_21 : decode cX5_passDay 21 = .ok (.iload_n 1, 1) := by decide +kernel
theorem dX5_passDay_22 : decode cX5_passDay 22 = .ok (.aload_n 0, 1) := by decide +kernel
theorem dX5_passDay_23 : decode cX5_passDay 23 = .ok (.iload_n 1, 1) := by decide +kernel
theorem dX5_passDay_24 : decode cX5_passDay 24 = .ok (.invokevirtual 82, 3) := by decide +kernel
theorem dX5_passDay_27 : decode cX5_passDay 27 = .ok (.invokevirtual 85, 3) := by decide +kernel
theorem dX5_passDay_30 : decode cX5_passDay 30 = .ok (.iinc 1 1, 3) := by decide +kernel
theorem dX5_passDay_33 : decode cX5_passDay 33 = .ok (.goto (-21), 3) := by decide +kernel
theorem dX5_passDay_36 : decode cX5_passDay 36 = .ok (.iconst 0, 1) := by decide +kernel
theorem dX5_passDay_37 : decode cX5_passDay 37 = .ok (.istore_n 1, 1) := by decide +kernel
theorem dX5_passDay_38 : decode cX5_passDay 38 = .ok (.iload_n 1, 1) := by decide +kernel
theorem dX5_passDay_39 : decode cX5_passDay 39 = .ok (.aload_n 0, 1) := by decide +kernel
theorem dX5_passDay_40 : decode cX5_passDay 40 = .ok (.getfield 30, 3) := by decide +kernel
theorem dX5_passDay_43 : decode cX5_passDay 43 = .ok (.if_icmp .ge 22, 3) := by decide +kernel
theorem dX5_passDay_46 : decode cX5_passDay 46 = .ok (.aload_n 0, 1) := by decide +kernel
theorem dX5_passDay_47 : decode cX5_passDay 47 = .ok (.iload_n 1, 1) := by decide +kernel
theorem dX5_passDay_48 : decode cX5_passDay 48 = .ok (.invokevirtual 88, 3) := by decide +kernel
theorem dX5_passDay_51 : decode cX5_passDay 51 = .ok (.ifCond .eq 8, 3) := by decide +kernel
theorem dX5_passDay_54 : decode cX5_passDay 54 = .ok (.aload_n 0, 1) := by decide +kernel
theorem dX5_passDay_55 : decode cX5_passDay 55 = .ok (.iload_n 1, 1) := by decide +kernel
theorem dX5_passDay_56 : decode cX5_passDay 56 = .ok (.invokevirtual 91, 3) := by decide +kernel
theorem dX5_passDay_59 : decode cX5_passDay 59 = .ok (.iinc 1 1, 3) := by decide +kernel
theorem dX5_passDay_62 : decode cX5_passDay 62 = .ok (.goto (-24), 3) := by decide +kernel
theorem dX5_passDay_65 : decode cX5_passDay 65 = .ok (.return_, 1) := by decide +kernel
theorem dX5_passDayOf_0 : decode cX5_passDayOf 0 = .ok (.aload_n 0, 1) := by decide +kernel
theorem dX5_passDayOf_1 : decode cX5_passDayOf 1 = .ok (.iload_n 1, 1) := by decide +kernel
theorem dX5_passDayOf_2 : decode cX5_passDayOf 2 = .ok (.aload_n 0, 1) := by decide +kernel
theorem dX5_passDayOf_3 : decode cX5_passDayOf 3 = .ok (.iload_n 1, 1) := by decide +kernel
theorem dX5_passDayOf_4 : decode cX5_passDayOf 4 = .ok (.invokevirtual 82, 3) := by decide +kernel
theorem dX5_passDayOf_7 : decode cX5_passDayOf 7 = .ok (.invokevirtual 95, 3) := by decide +kernel
theorem dX5_passDayOf_10 : decode cX5_passDayOf 10 = .ok (.return_, 1) := by decide +kernel
theorem dX5_passDayEating_0 : decode cX5_passDayEating 0 = .ok (.aload_n 0, 1) := by decide +kernel
theorem dX5_passDayEating_1 : decode cX5_passDayEating 1 = .ok (.dup, 1) := by decide +kernel
theorem dX5_passDayEating_2 : decode cX5_passDayEating 2 = .ok (.getfield 46, 3) := by decide +kernel
theorem dX5_passDayEating_5 : decode cX5_passDayEating 5 = .ok (.iconst 1, 1) := by decide +kernel
theorem dX5_passDayEating_6 : decode cX5_passDayEating 6 = .ok (.iadd, 1) := by decide +kernel
theorem dX5_passDayEating_7 : decode cX5_passDayEating 7 = .ok (.putfield 46, 3) := by decide +kernel
theorem dX5_passDayEating_10 : decode cX5_passDayEating 10 = .ok (.aload_n 0, 1) := by decide +kernel
theorem dX5_passDayEating_11 : decode cX5_passDayEating 11 = .ok (.iload_n 1, 1) := by decide +kernel
theorem dX5_passDayEating_12 : decode cX5_passDayEating 12 = .ok (.iload_n 2, 1) := by decide +kernel
theorem dX5_passDayEating_13 : decode cX5_passDayEating 13 = .ok (.invokevirtual 85, 3) := by decide +kernel
theorem dX5_passDayEating_16 : decode cX5_passDayEating 16 = .ok (.aload_n 0, 1) := by decide +kernel
theorem dX5_passDayEating_17 : decode cX5_passDayEating 17 = .ok (.iload_n 1, 1) := by decide +kernel
theorem dX5_passDayEating_18 : decode cX5_passDayEating 18 = .ok (.invokevirtual 88, 3) := by decide +kernel
theorem dX5_passDayEating_21 : decode cX5_passDayEating 21 = .ok (.ifCond .eq 8, 3) := by decide +kernel
theorem dX5_passDayEating_24 : decode cX5_passDayEating 24 = .ok (.aload_n 0, 1) := by decide +kernel
theorem dX5_passDayEating_25 : decode cX5_passDayEating 25 = .ok (.iload_n 1, 1) := by decide +kernel
theorem dX5_passDayEating_26 : decode cX5_passDayEating 26 = .ok (.invokevirtual 91, 3) := by decide +kernel
theorem dX5_passDayEating_29 : decode cX5_passDayEating 29 = .ok (.return_, 1) := by decide +kernel
theorem dX5_eatAndDance_0 : decode cX5_eatAndDance 0 = .ok (.aload_n 0, 1) := by decide +kernel
theorem dX5_eatAndDance_1 : decode cX5_eatAndDance 1 = .ok (.iload_n 1, 1) := by decide +kernel
theorem dX5_eatAndDance_2 : decode cX5_eatAndDance 2 = .ok (.invokevirtual 59, 3) := by decide +kernel
theorem dX5_eatAndDance_5 : decode cX5_eatAndDance 5 = .ok (.ifCond .eq 42, 3) := by decide +kernel
theorem dX5_eatAndDance_8 : decode cX5_eatAndDance 8 = .ok (.bipush 99, 2) := by decide +kernel
theorem dX5_eatAndDance_10 : decode cX5_eatAndDance 10 = .ok (.aload_n 0, 1) := by decide +kernel
theorem dX5_eatAndDance_11 : decode cX5_eatAndDance 11 = .ok (.getfield 17, 3) := by decide +kernel
theorem dX5_eatAndDance_14 : decode cX5_eatAndDance 14 = .ok (.iload_n 1, 1) := by decide +kernel
theorem dX5_eatAndDance_15 : decode cX5_eatAndDance 15 = .ok (.iaload, 1) := by decide +kernel
theorem dX5_eatAndDance_16 : decode cX5_eatAndDance 16 = .ok (.iload_n 2, 1) := by decide +kernel
theorem dX5_eatAndDance_17 : decode cX5_eatAndDance 17 = .ok (.iadd, 1) := by decide +kernel
theorem dX5_eatAndDance_18 : decode cX5_eatAndDance 18 = .ok (.invokestatic 98, 3) := by decide +kernel
theorem dX5_eatAndDance_21 : decode cX5_eatAndDance 21 = .ok (.istore_n 3, 1) := by decide +kernel
theorem dX5_eatAndDance_22 : decode cX5_eatAndDance 22 = .ok (.aload_n 0, 1) := by decide +kernel
theorem dX5_eatAndDance_23 : decode cX5_eatAndDance 23 = .ok (.getfield 17, 3) := by decide +kernel
theorem dX5_eatAndDance_26 : decode cX5_eatAndDance 26 = .ok (.iload_n 1, 1) := by decide +kernel
theorem dX5_eatAndDance_27 : decode cX5_eatAndDance 27 = .ok (.iconst 0, 1) := by decide +kernel
theorem dX5_eatAndDance_28 : decode cX5_eatAndDance 28 = .ok (.iload_n 3, 1) := by decide +kernel
theorem dX5_eatAndDance_29 : decode cX5_eatAndDance 29 = .ok (.aload_n 0, 1) := by decide +kernel
theorem dX5_eatAndDance_30 : decode cX5_eatAndDance 30 = .ok (.getfield 11, 3) := by decide +kernel
theorem dX5_eatAndDance_33 : decode cX5_eatAndDance 33 = .ok (.iload_n 1, 1) := by decide +kernel
theorem dX5_eatAndDance_34 : decode cX5_eatAndDance 34 = .ok (.aaload, 1) := by decide +kernel
theorem dX5_eatAndDance_35 : decode cX5_eatAndDance 35 = .ok (.aload_n 0, 1) := by decide +kernel
theorem dX5_eatAndDance_36 : decode cX5_eatAndDance 36 = .ok (.getfield 40, 3) := by decide +kernel
theorem dX5_eatAndDance_39 : decode cX5_eatAndDance 39 = .ok (.invokevirtual 101, 3) := by decide +kernel
theorem dX5_eatAndDance_42 : decode cX5_eatAndDance 42 = .ok (.isub, 1) := by decide +kernel
theorem dX5_eatAndDance_43 : decode cX5_eatAndDance 43 = .ok (.invokestatic 66, 3) := by decide +kernel
theorem dX5_eatAndDance_46 : decode cX5_eatAndDance 46 = .ok (.iastore, 1) := by decide +kernel
theorem dX5_eatAndDance_47 : decode cX5_eatAndDance 47 = .ok (.return_, 1) := by decide +kernel
theorem dX5_goAway_0 : decode cX5_goAway 0 = .ok (.aload_n 0, 1) := by decide +kernel
theorem dX5_goAway_1 : decode cX5_goAway 1 = .ok (.dup, 1) := by decide +kernel
theorem dX5_goAway_2 : decode cX5_goAway 2 = .ok (.getfield 34, 3) := by decide +kernel
theorem dX5_goAway_5 : decode cX5_goAway 5 = .ok (.iconst 1, 1) := by decide +kernel
theorem dX5_goAway_6 : decode cX5_goAway 6 = .ok (.iload_n 1, 1) := by decide +kernel
theorem dX5_goAway_7 : decode cX5_goAway 7 = .ok (.ishl, 1) := by decide +kernel
theorem dX5_goAway_8 : decode cX5_goAway 8 = .ok (.iconst (-1), 1) := by decide +kernel
theorem dX5_goAway_9 : decode cX5_goAway 9 = .ok (.ixor, 1) := by decide +kernel
theorem dX5_goAway_10 : decode cX5_goAway 10 = .ok (.iand, 1) := by decide +kernel
theorem dX5_goAway_11 : decode cX5_goAway 11 = .ok (.putfield 34, 3) := by decide +kernel
theorem dX5_goAway_14 : decode cX5_goAway 14 = .ok (.aload_n 0, 1) := by decide +kernel
theorem dX5_goAway_15 : decode cX5_goAway 15 = .ok (.sipush 9999, 3) := by decide +kernel
theorem dX5_goAway_18 : decode cX5_goAway 18 = .ok (.aload_n 0, 1) := by decide +kernel
theorem dX5_goAway_19 : decode cX5_goAway 19 = .ok (.getfield 43, 3) := by decide +kernel
theorem dX5_goAway_22 : decode cX5_goAway 22 = .ok (.aload_n 0, 1) := by decide +kernel
theorem dX5_goAway_23 : decode cX5_goAway 23 = .ok (.getfield 21, 3) := by decide +kernel
theorem dX5_goAway_26 : decode cX5_goAway 26 = .ok (.iload_n 1, 1) := by decide +kernel
theorem dX5_goAway_27 : decode cX5_goAway 27 = .ok (.iaload, 1) := by decide +kernel
theorem dX5_goAway_28 : decode cX5_goAway 28 = .ok (.iadd, 1) := by decide +kernel
theorem dX5_goAway_29 : decode cX5_goAway 29 = .ok (.aload_n 0, 1) := by decide +kernel
theorem dX5_goAway_30 : decode cX5_goAway 30 = .ok (.getfield 17, 3) := by decide +kernel
theorem dX5_goAway_33 : decode cX5_goAway 33 = .ok (.iload_n 1, 1) := by decide +kernel
theorem dX5_goAway_34 : decode cX5_goAway 34 = .ok (.iaload, 1) := by decide +kernel
theorem dX5_goAway_35 : decode cX5_goAway 35 = .ok (.isub, 1) := by decide +kernel
theorem dX5_goAway_36 : decode cX5_goAway 36 = .ok (.invokestatic 98, 3) := by decide +kernel
theorem dX5_goAway_39 : decode cX5_goAway 39 = .ok (.putfield 43, 3) := by decide +kernel
theorem dX5_goAway_42 : decode cX5_goAway 42 = .ok (.return_, 1) := by decide +kernel
theorem dX5_weightOfAll_0 : decode cX5_weightOfAll 0 = .ok (.iconst 0, 1) := by decide +kernel
theorem dX5_weightOfAll_1 : decode cX5_weightOfAll 1 = .ok (.istore_n 1, 1) := by decide +kernel
theorem dX5_weightOfAll_2 : decode cX5_weightOfAll 2 = .ok (.iconst 0, 1) := by decide +kernel
theorem dX5_weightOfAll_3 : decode cX5_weightOfAll 3 = .ok (.istore_n 2, 1) := by decide +kernel
theorem dX5_weightOfAll_4 : decode cX5_weightOfAll 4 = .ok (.iload_n 2, 1) := by decide +kernel
theorem dX5_weightOfAll_5 : decode cX5_weightOfAll 5 = .ok (.aload_n 0, 1) := by decide +kernel
theorem dX5_weightOfAll_6 : decode cX5_weightOfAll 6 = .ok (.getfield 30, 3) := by decide +kernel
theorem dX5_weightOfAll_9 : decode cX5_weightOfAll 9 = .ok (.if_icmp .ge 30, 3) := by decide +kernel
theorem dX5_weightOfAll_12 : decode cX5_weightOfAll 12 = .ok (.iload_n 1, 1) := by decide +kernel
theorem dX5_weightOfAll_13 : decode cX5_weightOfAll 13 = .ok (.aload_n 0, 1) := by decide +kernel
theorem dX5_weightOfAll_14 : decode cX5_weightOfAll 14 = .ok (.iload_n 2, 1) := by decide +kernel
theorem dX5_weightOfAll_15 : decode cX5_weightOfAll 15 = .ok (.invokevirtual 59, 3) := by decide +kernel
theorem dX5_weightOfAll_18 : decode cX5_weightOfAll 18 = .ok (.ifCond .eq 12, 3) := by decide +kernel
theorem dX5_weightOfAll_21 : decode cX5_weightOfAll 21 = .ok (.aload_n 0, 1) := by decide +kernel
theorem dX5_weightOfAll_22 : decode cX5_weightOfAll 22 = .ok (.getfield 17, 3) := by decide +kernel
theorem dX5_weightOfAll_25 : decode cX5_weightOfAll 25 = .ok (.iload_n 2, 1) := by decide +kernel
theorem dX5_weightOfAll_26 : decode cX5_weightOfAll 26 = .ok (.iaload, 1) := by decide +kernel
theorem dX5_weightOfAll_27 : decode cX5_weightOfAll 27 = .ok (.goto 4, 3) := by decide +kernel
theorem dX5_weightOfAll_30 : decode cX5_weightOfAll 30 = .ok (.iconst 0, 1) := by decide +kernel
theorem dX5_weightOfAll_31 : decode cX5_weightOfAll 31 = .ok (.iadd, 1) := by decide +kernel
theorem dX5_weightOfAll_32 : decode cX5_weightOfAll 32 = .ok (.istore_n 1, 1) := by decide +kernel
theorem dX5_weightOfAll_33 : decode cX5_weightOfAll 33 = .ok (.iinc 2 1, 3) := by decide +kernel
theorem dX5_weightOfAll_36 : decode cX5_weightOfAll 36 = .ok (.goto (-32), 3) := by decide +kernel
theorem dX5_weightOfAll_39 : decode cX5_weightOfAll 39 = .ok (.iload_n 1, 1) := by decide +kernel
theorem dX5_weightOfAll_40 : decode cX5_weightOfAll 40 = .ok (.ireturn, 1) := by decide +kernel
theorem dX5_ledgerOfAll_0 : decode cX5_ledgerOfAll 0 = .ok (.iconst 0, 1) := by decide +kernel
theorem dX5_ledgerOfAll_1 : decode cX5_ledgerOfAll 1 = .ok (.istore_n 1, 1) := by decide +kernel
theorem dX5_ledgerOfAll_2 : decode cX5_ledgerOfAll 2 = .ok (.iconst 0, 1) := by decide +kernel
theorem dX5_ledgerOfAll_3 : decode cX5_ledgerOfAll 3 = .ok (.istore_n 2, 1) := by decide +kernel
theorem dX5_ledgerOfAll_4 : decode cX5_ledgerOfAll 4 = .ok (.iload_n 2, 1) := by decide +kernel
theorem dX5_ledgerOfAll_5 : decode cX5_ledgerOfAll 5 = .ok (.aload_n 0, 1) := by decide +kernel
theorem dX5_ledgerOfAll_6 : decode cX5_ledgerOfAll 6 = .ok (.getfield 30, 3) := by decide +kernel
theorem dX5_ledgerOfAll_9 : decode cX5_ledgerOfAll 9 = .ok (.if_icmp .ge 37, 3) := by decide +kernel
theorem dX5_ledgerOfAll_12 : decode cX5_ledgerOfAll 12 = .ok (.iload_n 1, 1) := by decide +kernel
theorem dX5_ledgerOfAll_13 : decode cX5_ledgerOfAll 13 = .ok (.aload_n 0, 1) := by decide +kernel
theorem dX5_ledgerOfAll_14 : decode cX5_ledgerOfAll 14 = .ok (.iload_n 2, 1) := by decide +kernel
theorem dX5_ledgerOfAll_15 : decode cX5_ledgerOfAll 15 = .ok (.invokevirtual 59, 3) := by decide +kernel
theorem dX5_ledgerOfAll_18 : decode cX5_ledgerOfAll 18 = .ok (.ifCond .eq 19, 3) := by decide +kernel
theorem dX5_ledgerOfAll_21 : decode cX5_ledgerOfAll 21 = .ok (.aload_n 0, 1) := by decide +kernel
theorem dX5_ledgerOfAll_22 : decode cX5_ledgerOfAll 22 = .ok (.getfield 21, 3) := by decide +kernel
theorem dX5_ledgerOfAll_25 : decode cX5_ledgerOfAll 25 = .ok (.iload_n 2, 1) := by decide +kernel
theorem dX5_ledgerOfAll_26 : decode cX5_ledgerOfAll 26 = .ok (.iaload, 1) := by decide +kernel
theorem dX5_ledgerOfAll_27 : decode cX5_ledgerOfAll 27 = .ok (.aload_n 0, 1) := by decide +kernel
theorem dX5_ledgerOfAll_28 : decode cX5_ledgerOfAll 28 = .ok (.getfield 17, 3) := by decide +kernel
theorem dX5_ledgerOfAll_31 : decode cX5_ledgerOfAll 31 = .ok (.iload_n 2, 1) := by decide +kernel
theorem dX5_ledgerOfAll_32 : decode cX5_ledgerOfAll 32 = .ok (.iaload, 1) := by decide +kernel
theorem dX5_ledgerOfAll_33 : decode cX5_ledgerOfAll 33 = .ok (.isub, 1) := by decide +kernel
theorem dX5_ledgerOfAll_34 : decode cX5_ledgerOfAll 34 = .ok (.goto 4, 3) := by decide +kernel
theorem dX5_ledgerOfAll_37 : decode cX5_ledgerOfAll 37 = .ok (.iconst 0, 1) := by decide +kernel
theorem dX5_ledgerOfAll_38 : decode cX5_ledgerOfAll 38 = .ok (.iadd, 1) := by decide +kernel
theorem dX5_ledgerOfAll_39 : decode cX5_ledgerOfAll 39 = .ok (.istore_n 1, 1) := by decide +kernel
theorem dX5_ledgerOfAll_40 : decode cX5_ledgerOfAll 40 = .ok (.iinc 2 1, 3) := by decide +kernel
theorem dX5_ledgerOfAll_43 : decode cX5_ledgerOfAll 43 = .ok (.goto (-39), 3) := by decide +kernel
theorem dX5_ledgerOfAll_46 : decode cX5_ledgerOfAll 46 = .ok (.iload_n 1, 1) := by decide +kernel
theorem dX5_ledgerOfAll_47 : decode cX5_ledgerOfAll 47 = .ok (.ireturn, 1) := by decide +kernel
theorem dX5_secretsOfAll_0 : decode cX5_secretsOfAll 0 = .ok (.iconst 0, 1) := by decide +kernel
theorem dX5_secretsOfAll_1 : decode cX5_secretsOfAll 1 = .ok (.istore_n 1, 1) := by decide +kernel
theorem dX5_secretsOfAll_2 : decode cX5_secretsOfAll 2 = .ok (.iconst 0, 1) := by decide +kernel
theorem dX5_secretsOfAll_3 : decode cX5_secretsOfAll 3 = .ok (.istore_n 2, 1) := by decide +kernel
theorem dX5_secretsOfAll_4 : decode cX5_secretsOfAll 4 = .ok (.iload_n 2, 1) := by decide +kernel
theorem dX5_secretsOfAll_5 : decode cX5_secretsOfAll 5 = .ok (.aload_n 0, 1) := by decide +kernel
theorem dX5_secretsOfAll_6 : decode cX5_secretsOfAll 6 = .ok (.getfield 30, 3) := by decide +kernel
theorem dX5_secretsOfAll_9 : decode cX5_secretsOfAll 9 = .ok (.if_icmp .ge 30, 3) := by decide +kernel
theorem dX5_secretsOfAll_12 : decode cX5_secretsOfAll 12 = .ok (.iload_n 1, 1) := by decide +kernel
theorem dX5_secretsOfAll_13 : decode cX5_secretsOfAll 13 = .ok (.aload_n 0, 1) := by decide +kernel
theorem dX5_secretsOfAll_14 : decode cX5_secretsOfAll 14 = .ok (.iload_n 2, 1) := by decide +kernel
theorem dX5_secretsOfAll_15 : decode cX5_secretsOfAll 15 = .ok (.invokevirtual 59, 3) := by decide +kernel
theorem dX5_secretsOfAll_18 : decode cX5_secretsOfAll 18 = .ok (.ifCond .eq 12, 3) := by decide +kernel
theorem dX5_secretsOfAll_21 : decode cX5_secretsOfAll 21 = .ok (.aload_n 0, 1) := by decide +kernel
theorem dX5_secretsOfAll_22 : decode cX5_secretsOfAll 22 = .ok (.getfield 24, 3) := by decide +kernel
theorem dX5_secretsOfAll_25 : decode cX5_secretsOfAll 25 = .ok (.iload_n 2, 1) := by decide +kernel
theorem dX5_secretsOfAll_26 : decode cX5_secretsOfAll 26 = .ok (.iaload, 1) := by decide +kernel
theorem dX5_secretsOfAll_27 : decode cX5_secretsOfAll 27 = .ok (.goto 4, 3) := by decide +kernel
theorem dX5_secretsOfAll_30 : decode cX5_secretsOfAll 30 = .ok (.iconst 0, 1) := by decide +kernel
theorem dX5_secretsOfAll_31 : decode cX5_secretsOfAll 31 = .ok (.iadd, 1) := by decide +kernel
theorem dX5_secretsOfAll_32 : decode cX5_secretsOfAll 32 = .ok (.istore_n 1, 1) := by decide +kernel
theorem dX5_secretsOfAll_33 : decode cX5_secretsOfAll 33 = .ok (.iinc 2 1, 3) := by decide +kernel
theorem dX5_secretsOfAll_36 : decode cX5_secretsOfAll 36 = .ok (.goto (-32), 3) := by decide +kernel
theorem dX5_secretsOfAll_39 : decode cX5_secretsOfAll 39 = .ok (.iload_n 1, 1) := by decide +kernel
theorem dX5_secretsOfAll_40 : decode cX5_secretsOfAll 40 = .ok (.ireturn, 1) := by decide +kernel
theorem dX5_withoutSecrets_0 : decode cX5_withoutSecrets 0 = .ok (.iconst 0, 1) := by decide +kernel
theorem dX5_withoutSecrets_1 : decode cX5_withoutSecrets 1 = .ok (.istore_n 1, 1) := by decide +kernel
theorem dX5_withoutSecrets_2 : decode cX5_withoutSecrets 2 = .ok (.iconst 0, 1) := by decide +kernel
theorem dX5_withoutSecrets_3 : decode cX5_withoutSecrets 3 = .ok (.istore_n 2, 1) := by decide +kernel
theorem dX5_withoutSecrets_4 : decode cX5_withoutSecrets 4 = .ok (.iload_n 2, 1) := by decide +kernel
theorem dX5_withoutSecrets_5 : decode cX5_withoutSecrets 5 = .ok (.aload_n 0, 1) := by decide +kernel
theorem dX5_withoutSecrets_6 : decode cX5_withoutSecrets 6 = .ok (.getfield 30, 3) := by decide +kernel
theorem dX5_withoutSecrets_9 : decode cX5_withoutSecrets 9 = .ok (.if_icmp .ge 32, 3) := by decide +kernel
theorem dX5_withoutSecrets_12 : decode cX5_withoutSecrets 12 = .ok (.aload_n 0, 1) := by decide +kernel
theorem dX5_withoutSecrets_13 : decode cX5_withoutSecrets 13 = .ok (.iload_n 2, 1) := by decide +kernel
theorem dX5_withoutSecrets_14 : decode cX5_withoutSecrets 14 = .ok (.invokevirtual 59, 3) := by decide +kernel
theorem dX5_withoutSecrets_17 : decode cX5_withoutSecrets 17 = .ok (.ifCond .eq 18, 3) := by decide +kernel
theorem dX5_withoutSecrets_20 : decode cX5_withoutSecrets 20 = .ok (.aload_n 0, 1) := by decide +kernel
theorem dX5_withoutSecrets_21 : decode cX5_withoutSecrets 21 = .ok (.getfield 24, 3) := by decide +kernel
theorem dX5_withoutSecrets_24 : decode cX5_withoutSecrets 24 = .ok (.iload_n 2, 1) := by decide +kernel
theorem dX5_withoutSecrets_25 : decode cX5_withoutSecrets 25 = .ok (.iaload, 1) := by decide +kernel
theorem dX5_withoutSecrets_26 : decode cX5_withoutSecrets 26 = .ok (.ifCond .ne 9, 3) := by decide +kernel
theorem dX5_withoutSecrets_29 : decode cX5_withoutSecrets 29 = .ok (.iload_n 1, 1) := by decide +kernel
theorem dX5_withoutSecrets_30 : decode cX5_withoutSecrets 30 = .ok (.iconst 1, 1) := by decide +kernel
theorem dX5_withoutSecrets_31 : decode cX5_withoutSecrets 31 = .ok (.iload_n 2, 1) := by decide +kernel
theorem dX5_withoutSecrets_32 : decode cX5_withoutSecrets 32 = .ok (.ishl, 1) := by decide +kernel
theorem dX5_withoutSecrets_33 : decode cX5_withoutSecrets 33 = .ok (.ior, 1) := by decide +kernel
theorem dX5_withoutSecrets_34 : decode cX5_withoutSecrets 34 = .ok (.istore_n 1, 1) := by decide +kernel
theorem dX5_withoutSecrets_35 : decode cX5_withoutSecrets 35 = .ok (.iinc 2 1, 3) := by decide +kernel
theorem dX5_withoutSecrets_38 : decode cX5_withoutSecrets 38 = .ok (.goto (-34), 3) := by decide +kernel
theorem dX5_withoutSecrets_41 : decode cX5_withoutSecrets 41 = .ok (.iload_n 1, 1) := by decide +kernel
theorem dX5_withoutSecrets_42 : decode cX5_withoutSecrets 42 = .ok (.ireturn, 1) := by decide +kernel
theorem dX5_alikeTwos_0 : decode cX5_alikeTwos 0 = .ok (.iconst 0, 1) := by decide +kernel
theorem dX5_alikeTwos_1 : decode cX5_alikeTwos 1 = .ok (.istore_n 1, 1) := by decide +kernel
theorem dX5_alikeTwos_2 : decode cX5_alikeTwos 2 = .ok (.iconst 0, 1) := by decide +kernel
theorem dX5_alikeTwos_3 : decode cX5_alikeTwos 3 = .ok (.istore_n 2, 1) := by decide +kernel
theorem dX5_alikeTwos_4 : decode cX5_alikeTwos 4 = .ok (.iload_n 2, 1) := by decide +kernel
theorem dX5_alikeTwos_5 : decode cX5_alikeTwos 5 = .ok (.aload_n 0, 1) := by decide +kernel
theorem dX5_alikeTwos_6 : decode cX5_alikeTwos 6 = .ok (.getfield 30, 3) := by decide +kernel
theorem dX5_alikeTwos_9 : decode cX5_alikeTwos 9 = .ok (.if_icmp .ge 61, 3) := by decide +kernel
theorem dX5_alikeTwos_12 : decode cX5_alikeTwos 12 = .ok (.iload_n 2, 1) := by decide +kernel
theorem dX5_alikeTwos_13 : decode cX5_alikeTwos 13 = .ok (.iconst 1, 1) := by decide +kernel
theorem dX5_alikeTwos_14 : decode cX5_alikeTwos 14 = .ok (.iadd, 1) := by decide +kernel
theorem dX5_alikeTwos_15 : decode cX5_alikeTwos 15 = .ok (.istore_n 3, 1) := by decide +kernel
theorem dX5_alikeTwos_16 : decode cX5_alikeTwos 16 = .ok (.iload_n 3, 1) := by decide +kernel
theorem dX5_alikeTwos_17 : decode cX5_alikeTwos 17 = .ok (.aload_n 0, 1) := by decide +kernel
theorem dX5_alikeTwos_18 : decode cX5_alikeTwos 18 = .ok (.getfield 30, 3) := by decide +kernel
theorem dX5_alikeTwos_21 : decode cX5_alikeTwos 21 = .ok (.if_icmp .ge 43, 3) := by decide +kernel
theorem dX5_alikeTwos_24 : decode cX5_alikeTwos 24 = .ok (.aload_n 0, 1) := by decide +kernel
theorem dX5_alikeTwos_25 : decode cX5_alikeTwos 25 = .ok (.iload_n 2, 1) := by decide +kernel
theorem dX5_alikeTwos_26 : decode cX5_alikeTwos 26 = .ok (.invokevirtual 59, 3) := by decide +kernel
theorem dX5_alikeTwos_29 : decode cX5_alikeTwos 29 = .ok (.ifCond .eq 29, 3) := by decide +kernel
theorem dX5_alikeTwos_32 : decode cX5_alikeTwos 32 = .ok (.aload_n 0, 1) := by decide +kernel
theorem dX5_alikeTwos_33 : decode cX5_alikeTwos 33 = .ok (.iload_n 3, 1) := by decide +kernel
theorem dX5_alikeTwos_34 : decode cX5_alikeTwos 34 = .ok (.invokevirtual 59, 3) := by decide +kernel
theorem dX5_alikeTwos_37 : decode cX5_alikeTwos 37 = .ok (.ifCond .eq 21, 3) := by decide +kernel
theorem dX5_alikeTwos_40 : decode cX5_alikeTwos 40 = .ok (.aload_n 0, 1) := by decide +kernel
theorem dX5_alikeTwos_41 : decode cX5_alikeTwos 41 = .ok (.getfield 17, 3) := by decide +kernel
theorem dX5_alikeTwos_44 : decode cX5_alikeTwos 44 = .ok (.iload_n 2, 1) := by decide +kernel
theorem dX5_alikeTwos_45 : decode cX5_alikeTwos 45 = .ok (.iaload, 1) := by decide +kernel
theorem dX5_alikeTwos_46 : decode cX5_alikeTwos 46 = .ok (.aload_n 0, 1) := by decide +kernel
theorem dX5_alikeTwos_47 : decode cX5_alikeTwos 47 = .ok (.getfield 17, 3) := by decide +kernel
theorem dX5_alikeTwos_50 : decode cX5_alikeTwos 50 = .ok (.iload_n 3, 1) := by decide +kernel
theorem dX5_alikeTwos_51 : decode cX5_alikeTwos 51 = .ok (.iaload, 1) := by decide +kernel
theorem dX5_alikeTwos_52 : decode cX5_alikeTwos 52 = .ok (.if_icmp .ne 6, 3) := by decide +kernel
theorem dX5_alikeTwos_55 : decode cX5_alikeTwos 55 = .ok (.iinc 1 1, 3) := by decide +kernel
theorem dX5_alikeTwos_58 : decode cX5_alikeTwos 58 = .ok (.iinc 3 1, 3) := by decide +kernel
theorem dX5_alikeTwos_61 : decode cX5_alikeTwos 61 = .ok (.goto (-45), 3) := by decide +kernel
theorem dX5_alikeTwos_64 : decode cX5_alikeTwos 64 = .ok (.iinc 2 1, 3) := by decide +kernel
theorem dX5_alikeTwos_67 : decode cX5_alikeTwos 67 = .ok (.goto (-63), 3) := by decide +kernel
theorem dX5_alikeTwos_70 : decode cX5_alikeTwos 70 = .ok (.iload_n 1, 1) := by decide +kernel
theorem dX5_alikeTwos_71 : decode cX5_alikeTwos 71 = .ok (.ireturn, 1) := by decide +kernel
theorem dX5_heaviest_0 : decode cX5_heaviest 0 = .ok (.bipush (-4), 2) := by decide +kernel
theorem dX5_heaviest_2 : decode cX5_heaviest 2 = .ok (.istore_n 1, 1) := by decide +kernel
theorem dX5_heaviest_3 : decode cX5_heaviest 3 = .ok (.iconst (-1), 1) := by decide +kernel
theorem dX5_heaviest_4 : decode cX5_heaviest 4 = .ok (.istore_n 2, 1) := by decide +kernel
theorem dX5_heaviest_5 : decode cX5_heaviest 5 = .ok (.iconst 0, 1) := by decide +kernel
theorem dX5_heaviest_6 : decode cX5_heaviest 6 = .ok (.istore_n 3, 1) := by decide +kernel
theorem dX5_heaviest_7 : decode cX5_heaviest 7 = .ok (.iload_n 3, 1) := by decide +kernel
theorem dX5_heaviest_8 : decode cX5_heaviest 8 = .ok (.aload_n 0, 1) := by decide +kernel
theorem dX5_heaviest_9 : decode cX5_heaviest 9 = .ok (.getfield 30, 3) := by decide +kernel
theorem dX5_heaviest_12 : decode cX5_heaviest 12 = .ok (.if_icmp .ge 36, 3) := by decide +kernel
theorem dX5_heaviest_15 : decode cX5_heaviest 15 = .ok (.aload_n 0, 1) := by decide +kernel
theorem dX5_heaviest_16 : decode cX5_heaviest 16 = .ok (.iload_n 3, 1) := by decide +kernel
theorem dX5_heaviest_17 : decode cX5_heaviest 17 = .ok (.invokevirtual 59, 3) := by decide +kernel
theorem dX5_heaviest_20 : decode cX5_heaviest 20 = .ok (.ifCond .eq 22, 3) := by decide +kernel
theorem dX5_heaviest_23 : decode cX5_heaviest 23 = .ok (.aload_n 0, 1) := by decide +kernel
theorem dX5_heaviest_24 : decode cX5_heaviest 24 = .ok (.getfield 17, 3) := by decide +kernel
theorem dX5_heaviest_27 : decode cX5_heaviest 27 = .ok (.iload_n 3, 1) := by decide +kernel
theorem dX5_heaviest_28 : decode cX5_heaviest 28 = .ok (.iaload, 1) := by decide +kernel
theorem dX5_heaviest_29 : decode cX5_heaviest 29 = .ok (.iload_n 2, 1) := by decide +kernel
theorem dX5_heaviest_30 : decode cX5_heaviest 30 = .ok (.if_icmp .le 12, 3) := by decide +kernel
theorem dX5_heaviest_33 : decode cX5_heaviest 33 = .ok (.iload_n 3, 1) := by decide +kernel
theorem dX5_heaviest_34 : decode cX5_heaviest 34 = .ok (.istore_n 1, 1) := by decide +kernel
theorem dX5_heaviest_35 : decode cX5_heaviest 35 = .ok (.aload_n 0, 1) := by decide +kernel
theorem dX5_heaviest_36 : decode cX5_heaviest 36 = .ok (.getfield 17, 3) := by decide +kernel
theorem dX5_heaviest_39 : decode cX5_heaviest 39 = .ok (.iload_n 3, 1) := by decide +kernel
theorem dX5_heaviest_40 : decode cX5_heaviest 40 = .ok (.iaload, 1) := by decide +kernel
theorem dX5_heaviest_41 : decode cX5_heaviest 41 = .ok (.istore_n 2, 1) := by decide +kernel
theorem dX5_heaviest_42 : decode cX5_heaviest 42 = .ok (.iinc 3 1, 3) := by decide +kernel
theorem dX5_heaviest_45 : decode cX5_heaviest 45 = .ok (.goto (-38), 3) := by decide +kernel
theorem dX5_heaviest_48 : decode cX5_heaviest 48 = .ok (.iload_n 1, 1) := by decide +kernel
theorem dX5_heaviest_49 : decode cX5_heaviest 49 = .ok (.ireturn, 1) := by decide +kernel
theorem dX5_byWeight_0 : decode cX5_byWeight 0 = .ok (.iconst 0, 1) := by decide +kernel
theorem dX5_byWeight_1 : decode cX5_byWeight 1 = .ok (.istore_n 2, 1) := by decide +kernel
theorem dX5_byWeight_2 : decode cX5_byWeight 2 = .ok (.iload_n 2, 1) := by decide +kernel
theorem dX5_byWeight_3 : decode cX5_byWeight 3 = .ok (.aload_n 0, 1) := by decide +kernel
theorem dX5_byWeight_4 : decode cX5_byWeight 4 = .ok (.getfield 30, 3) := by decide +kernel
theorem dX5_byWeight_7 : decode cX5_byWeight 7 = .ok (.if_icmp .ge 28, 3) := by decide +kernel
theorem dX5_byWeight_10 : decode cX5_byWeight 10 = .ok (.aload_n 0, 1) := by decide +kernel
theorem dX5_byWeight_11 : decode cX5_byWeight 11 = .ok (.iload_n 2, 1) := by decide +kernel
theorem dX5_byWeight_12 : decode cX5_byWeight 12 = .ok (.invokevirtual 59, 3) := by decide +kernel
theorem dX5_byWeight_15 : decode cX5_byWeight 15 = .ok (.ifCond .eq 14, 3) := by decide +kernel
theorem dX5_byWeight_18 : decode cX5_byWeight 18 = .ok (.aload_n 0, 1) := by decide +kernel
theorem dX5_byWeight_19 : decode cX5_byWeight 19 = .ok (.iload_n 2, 1) := by decide +kernel
theorem dX5_byWeight_20 : decode cX5_byWeight 20 = .ok (.invokevirtual 104, 3) := by decide +kernel
theorem dX5_byWeight_23 : decode cX5_byWeight 23 = .ok (.iload_n 1, 1) := by decide +kernel
theorem dX5_byWeight_24 : decode cX5_byWeight 24 = .ok (.if_icmp .ne 5, 3) := by decide +kernel
theorem dX5_byWeight_27 : decode cX5_byWeight 27 = .ok (.iload_n 2, 1) := by decide +kernel
theorem dX5_byWeight_28 : decode cX5_byWeight 28 = .ok (.ireturn, 1) := by decide +kernel
theorem dX5_byWeight_29 : decode cX5_byWeight 29 = .ok (.iinc 2 1, 3) := by decide +kernel
theorem dX5_byWeight_32 : decode cX5_byWeight 32 = .ok (.goto (-30), 3) := by decide +kernel
theorem dX5_byWeight_35 : decode cX5_byWeight 35 = .ok (.bipush (-4), 2) := by decide +kernel
theorem dX5_byWeight_37 : decode cX5_byWeight 37 = .ok (.ireturn, 1) := by decide +kernel
theorem dX5_lighterThan_0 : decode cX5_lighterThan 0 = .ok (.iconst 0, 1) := by decide +kernel
theorem dX5_lighterThan_1 : decode cX5_lighterThan 1 = .ok (.istore_n 2, 1) := by decide +kernel
theorem dX5_lighterThan_2 : decode cX5_lighterThan 2 = .ok (.iconst 0, 1) := by decide +kernel
theorem dX5_lighterThan_3 : decode cX5_lighterThan 3 = .ok (.istore_n 3, 1) := by decide +kernel
theorem dX5_lighterThan_4 : decode cX5_lighterThan 4 = .ok (.iload_n 3, 1) := by decide +kernel
theorem dX5_lighterThan_5 : decode cX5_lighterThan 5 = .ok (.aload_n 0, 1) := by decide +kernel
theorem dX5_lighterThan_6 : decode cX5_lighterThan 6 = .ok (.getfield 30, 3) := by decide +kernel
theorem dX5_lighterThan_9 : decode cX5_lighterThan 9 = .ok (.if_icmp .ge 67, 3) := by decide +kernel
theorem dX5_lighterThan_12 : decode cX5_lighterThan 12 = .ok (.aload_n 0, 1) := by decide +kernel
theorem dX5_lighterThan_13 : decode cX5_lighterThan 13 = .ok (.getfield 17, 3) := by decide +kernel
theorem dX5_lighterThan_16 : decode cX5_lighterThan 16 = .ok (.iload_n 3, 1) := by decide +kernel
theorem dX5_lighterThan_17 : decode cX5_lighterThan 17 = .ok (.iaload, 1) := by decide +kernel
theorem dX5_lighterThan_18 : decode cX5_lighterThan 18 = .ok (.aload_n 0, 1) := by decide +kernel
theorem dX5_lighterThan_19 : decode cX5_lighterThan 19 = .ok (.getfield 17, 3) := by decide +kernel
theorem dX5_lighterThan_22 : decode cX5_lighterThan 22 = .ok (.iload_n 1, 1) := by decide +kernel
theorem dX5_lighterThan_23 : decode cX5_lighterThan 23 = .ok (.iaload, 1) := by decide +kernel
theorem dX5_lighterThan_24 : decode cX5_lighterThan 24 = .ok (.if_icmp .lt 23, 3) := by decide +kernel
theorem dX5_lighterThan_27 : decode cX5_lighterThan 27 = .ok (.aload_n 0, 1) := by decide +kernel
theorem dX5_lighterThan_28 : decode cX5_lighterThan 28 = .ok (.getfield 17, 3) := by decide +kernel
theorem dX5_lighterThan_31 : decode cX5_lighterThan 31 = .ok (.iload_n 3, 1) := by decide +kernel
theorem dX5_lighterThan_32 : decode cX5_lighterThan 32 = .ok (.iaload, 1) := by decide +kernel
theorem dX5_lighterThan_33 : decode cX5_lighterThan 33 = .ok (.aload_n 0, 1) := by decide +kernel
theorem dX5_lighterThan_34 : decode cX5_lighterThan 34 = .ok (.getfield 17, 3) := by decide +kernel
theorem dX5_lighterThan_37 : decode cX5_lighterThan 37 = .ok (.iload_n 1, 1) := by decide +kernel
theorem dX5_lighterThan_38 : decode cX5_lighterThan 38 = .ok (.iaload, 1) := by decide +kernel
theorem dX5_lighterThan_39 : decode cX5_lighterThan 39 = .ok (.if_icmp .ne 12, 3) := by decide +kernel
theorem dX5_lighterThan_42 : decode cX5_lighterThan 42 = .ok (.iload_n 3, 1) := by decide +kernel
theorem dX5_lighterThan_43 : decode cX5_lighterThan 43 = .ok (.iload_n 1, 1) := by decide +kernel
theorem dX5_lighterThan_44 : decode cX5_lighterThan 44 = .ok (.if_icmp .ge 7, 3) := by decide +kernel
theorem dX5_lighterThan_47 : decode cX5_lighterThan 47 = .ok (.iconst 1, 1) := by decide +kernel
theorem dX5_lighterThan_48 : decode cX5_lighterThan 48 = .ok (.goto 4, 3) := by decide +kernel
theorem dX5_lighterThan_51 : decode cX5_lighterThan 51 = .ok (.iconst 0, 1) := by decide +kernel
theorem dX5_lighterThan_52 : decode cX5_lighterThan 52 = .ok (.istore 4, 2) := by decide +kernel
theorem dX5_lighterThan_54 : decode cX5_lighterThan 54 = .ok (.aload_n 0, 1) := by decide +kernel
theorem dX5_lighterThan_55 : decode cX5_lighterThan 55 = .ok (.iload_n 3, 1) := by decide +kernel
theorem dX5_lighterThan_56 : decode cX5_lighterThan 56 = .ok (.invokevirtual 59, 3) := by decide +kernel
theorem dX5_lighterThan_59 : decode cX5_lighterThan 59 = .ok (.ifCond .eq 11, 3) := by decide +kernel
theorem dX5_lighterThan_62 : decode cX5_lighterThan 62 = .ok (.iload 4, 2) := by decide +kernel
theorem dX5_lighterThan_64 : decode cX5_lighterThan 64 = .ok (.ifCond .eq 6, 3) := by decide +kernel
theorem dX5_lighterThan_67 : decode cX5_lighterThan 67 = .ok (.iinc 2 1, 3) := by decide +kernel
theorem dX5_lighterThan_70 : decode cX5_lighterThan 70 = .ok (.iinc 3 1, 3) := by decide +kernel
theorem dX5_lighterThan_73 : decode cX5_lighterThan 73 = .ok (.goto (-69), 3) := by decide +kernel
theorem dX5_lighterThan_76 : decode cX5_lighterThan 76 = .ok (.iload_n 2, 1) := by decide +kernel
theorem dX5_lighterThan_77 : decode cX5_lighterThan 77 = .ok (.ireturn, 1) := by decide +kernel
theorem dX6_init_0 : decode cX6_init 0 = .ok (.aload_n 0, 1) := by decide +kernel
theorem dX6_init_1 : decode cX6_init 1 = .ok (.iload_n 1, 1) := by decide +kernel
theorem dX6_init_2 : decode cX6_init 2 = .ok (.iload_n 2, 1) := by decide +kernel
theorem dX6_init_3 : decode cX6_init 3 = .ok (.invokespecial 1, 3) := by decide +kernel
theorem dX6_init_6 : decode cX6_init 6 = .ok (.return_, 1) := by decide +kernel
theorem dX6_food_0 : decode cX6_food 0 = .ok (.iconst 0, 1) := by decide +kernel
theorem dX6_food_1 : decode cX6_food 1 = .ok (.aload_n 0, 1) := by decide +kernel
theorem dX6_food_2 : decode cX6_food 2 = .ok (.iload_n 1, 1) := by decide +kernel
theorem dX6_food_3 : decode cX6_food 3 = .ok (.invokespecial 7, 3) := by decide +kernel
theorem dX6_food_6 : decode cX6_food 6 = .ok (.iconst 2, 1) := by decide +kernel
theorem dX6_food_7 : decode cX6_food 7 = .ok (.isub, 1) := by decide +kernel
theorem dX6_food_8 : decode cX6_food 8 = .ok (.invokestatic 11, 3) := by decide +kernel
theorem dX6_food_11 : decode cX6_food 11 = .ok (.ireturn, 1) := by decide +kernel
theorem dX6_danced_0 : decode cX6_danced 0 = .ok (.aload_n 0, 1) := by decide +kernel
theorem dX6_danced_1 : decode cX6_danced 1 = .ok (.iload_n 1, 1) := by decide +kernel
theorem dX6_danced_2 : decode cX6_danced 2 = .ok (.invokespecial 17, 3) := by decide +kernel
theorem dX6_danced_5 : decode cX6_danced 5 = .ok (.iconst 2, 1) := by decide +kernel
theorem dX6_danced_6 : decode cX6_danced 6 = .ok (.idiv, 1) := by decide +kernel
theorem dX6_danced_7 : decode cX6_danced 7 = .ok (.ireturn, 1) := by decide +kernel
theorem dX6_lighterBySecret_0 : decode cX6_lighterBySecret 0 = .ok (.iconst 1, 1) := by decide +kernel
theorem dX6_lighterBySecret_1 : decode cX6_lighterBySecret 1 = .ok (.ireturn, 1) := by decide +kernel
theorem dX6_price_0 : decode cX6_price 0 = .ok (.aload_n 0, 1) := by decide +kernel
theorem dX6_price_1 : decode cX6_price 1 = .ok (.invokespecial 20, 3) := by decide +kernel
theorem dX6_price_4 : decode cX6_price 4 = .ok (.iconst 2, 1) := by decide +kernel
theorem dX6_price_5 : decode cX6_price 5 = .ok (.idiv, 1) := by decide +kernel
theorem dX6_price_6 : decode cX6_price 6 = .ok (.ireturn, 1) := by decide +kernel
theorem dX7_init_0 : decode cX7_init 0 = .ok (.aload_n 0, 1) := by decide +kernel
theorem dX7_init_1 : decode cX7_init 1 = .ok (.invokespecial 3, 3) := by decide +kernel
theorem dX7_init_4 : decode cX7_init 4 = .ok (.aload_n 0, 1) := by decide +kernel
theorem dX7_init_5 : decode cX7_init 5 = .ok (.iload_n 1, 1) := by decide +kernel
theorem dX7_init_6 : decode cX7_init 6 = .ok (.putfield 9, 3) := by decide +kernel
theorem dX7_init_9 : decode cX7_init 9 = .ok (.aload_n 0, 1) := by decide +kernel
theorem dX7_init_10 : decode cX7_init 10 = .ok (.iconst 0, 1) := by decide +kernel
theorem dX7_init_11 : decode cX7_init 11 = .ok (.iload_n 2, 1) := by decide +kernel
theorem dX7_init_12 : decode cX7_init 12 = .ok (.invokestatic 15, 3) := by decide +kernel
theorem dX7_init_15 : decode cX7_init 15 = .ok (.newarray .int, 2) := by decide +kernel
theorem dX7_init_17 : decode cX7_init 17 = .ok (.putfield 21, 3) := by decide +kernel
theorem dX7_init_20 : decode cX7_init 20 = .ok (.return_, 1) := by decide +kernel
theorem dX7_size_0 : decode cX7_size 0 = .ok (.aload_n 0, 1) := by decide +kernel
theorem dX7_size_1 : decode cX7_size 1 = .ok (.getfield 21, 3) := by decide +kernel
theorem dX7_size_4 : decode cX7_size 4 = .ok (.arraylength, 1) := by decide +kernel
theorem dX7_size_5 : decode cX7_size 5 = .ok (.ireturn, 1) := by decide +kernel
theorem dX7_hasPlace_0 : decode cX7_hasPlace 0 = .ok (.iload_n 1, 1) := by decide +kernel
theorem dX7_hasPlace_1 : decode cX7_hasPlace 1 = .ok (.ifCond .lt 16, 3) := by decide +kernel
theorem dX7_hasPlace_4 : decode cX7_hasPlace 4 = .ok (.iload_n 1, 1) := by decide +kernel
theorem dX7_hasPlace_5 : decode cX7_hasPlace 5 = .ok (.aload_n 0, 1) := by decide +kernel
theorem dX7_hasPlace_6 : decode cX7_hasPlace 6 = .ok (.getfield 21, 3) := by decide +kernel
theorem dX7_hasPlace_9 : decode cX7_hasPlace 9 = .ok (.arraylength, 1) := by decide +kernel
theorem dX7_hasPlace_10 : decode cX7_hasPlace 10 = .ok (.if_icmp .ge 7, 3) := by decide +kernel
theorem dX7_hasPlace_13 : decode cX7_hasPlace 13 = .ok (.iconst 1, 1) := by decide +kernel
theorem dX7_hasPlace_14 : decode cX7_hasPlace 14 = .ok (.goto 4, 3) := by decide +kernel
theorem dX7_hasPlace_17 : decode cX7_hasPlace 17 = .ok (.iconst 0, 1) := by decide +kernel
theorem dX7_hasPlace_18 : decode cX7_hasPlace 18 = .ok (.ireturn, 1) := by decide +kernel
theorem dX7_hasPart_0 : decode cX7_hasPart 0 = .ok (.iload_n 1, 1) := by decide +kernel
theorem dX7_hasPart_1 : decode cX7_hasPart 1 = .ok (.ifCond .lt 31, 3) := by decide +kernel
theorem dX7_hasPart_4 : decode cX7_hasPart 4 = .ok (.iload_n 2, 1) := by decide +kernel
theorem dX7_hasPart_5 : decode cX7_hasPart 5 = .ok (.ifCond .lt 27, 3) := by decide +kernel
theorem dX7_hasPart_8 : decode cX7_hasPart 8 = .ok (.iload_n 2, 1) := by decide +kernel
theorem dX7_hasPart_9 : decode cX7_hasPart 9 = .ok (.aload_n 0, 1) := by decide +kernel
theorem dX7_hasPart_10 : decode cX7_hasPart 10 = .ok (.getfield 21, 3) := by decide +kernel
theorem dX7_hasPart_13 : decode cX7_hasPart 13 = .ok (.arraylength, 1) := by decide +kernel
theorem dX7_hasPart_14 : decode cX7_hasPart 14 = .ok (.if_icmp .gt 18, 3) := by decide +kernel
theorem dX7_hasPart_17 : decode cX7_hasPart 17 = .ok (.iload_n 1, 1) := by decide +kernel
theorem dX7_hasPart_18 : decode cX7_hasPart 18 = .ok (.aload_n 0, 1) := by decide +kernel
theorem dX7_hasPart_19 : decode cX7_hasPart 19 = .ok (.getfield 21, 3) := by decide +kernel
theorem dX7_hasPart_22 : decode cX7_hasPart 22 = .ok (.arraylength, 1) := by decide +kernel
theorem dX7_hasPart_23 : decode cX7_hasPart 23 = .ok (.iload_n 2, 1) := by decide +kernel
theorem dX7_hasPart_24 : decode cX7_hasPart 24 = .ok (.isub, 1) := by decide +kernel
theorem dX7_hasPart_25 : decode cX7_hasPart 25 = .ok (.if_icmp .gt 7, 3) := by decide +kernel
theorem dX7_hasPart_28 : decode cX7_hasPart 28 = .ok (.iconst 1, 1) := by decide +kernel
theorem dX7_hasPart_29 : decode cX7_hasPart 29 = .ok (.goto 4, 3) := by decide +kernel
theorem dX7_hasPart_32 : decode cX7_hasPart 32 = .ok (.iconst 0, 1) := by decide +kernel
theorem dX7_hasPart_33 : decode cX7_hasPart 33 = .ok (.ireturn, 1) := by decide +kernel
theorem dX7_at_0 : decode cX7_at 0 = .ok (.aload_n 0, 1) := by decide +kernel
theorem dX7_at_1 : decode cX7_at 1 = .ok (.iload_n 1, 1) := by decide +kernel
theorem dX7_at_2 : decode cX7_at 2 = .ok (.invokevirtual 25, 3) := by decide +kernel
theorem dX7_at_5 : decode cX7_at 5 = .ok (.ifCond .eq 12, 3) := by decide +kernel
theorem dX7_at_8 : decode cX7_at 8 = .ok (.aload_n 0, 1) := by decide +kernel
theorem dX7_at_9 : decode cX7_at 9 = .ok (.getfield 21, 3) := by decide +kernel
theorem dX7_at_12 : decode cX7_at 12 = .ok (.iload_n 1, 1) := by decide +kernel
theorem dX7_at_13 : decode cX7_at 13 = .ok (.iaload, 1) := by decide +kernel
theorem dX7_at_14 : decode cX7_at 14 = .ok (.goto 4, 3) := by decide +kernel
theorem dX7_at_17 : decode cX7_at 17 = .ok (.iconst 0, 1) := by decide +kernel
theorem dX7_at_18 : decode cX7_at 18 = .ok (.ireturn, 1) := by decide +kernel
theorem dX7_set_0 : decode cX7_set 0 = .ok (.aload_n 0, 1) := by decide +kernel
theorem dX7_set_1 : decode cX7_set 1 = .ok (.iload_n 1, 1) := by decide +kernel
theorem dX7_set_2 : decode cX7_set 2 = .ok (.invokevirtual 25, 3) := by decide +kernel
theorem dX7_set_5 : decode cX7_set 5 = .ok (.ifCond .eq 14, 3) := by decide +kernel
theorem dX7_set_8 : decode cX7_set 8 = .ok (.aload_n 0, 1) := by decide +kernel
theorem dX7_set_9 : decode cX7_set 9 = .ok (.getfield 21, 3) := by decide +kernel
theorem dX7_set_12 : decode cX7_set 12 = .ok (.iload_n 1, 1) := by decide +kernel
theorem dX7_set_13 : decode cX7_set 13 = .ok (.aload_n 0, 1) := by decide +kernel
theorem dX7_set_14 : decode cX7_set 14 = .ok (.iload_n 2, 1) := by decide +kernel
theorem dX7_set_15 : decode cX7_set 15 = .ok (.invokevirtual 29, 3) := by decide +kernel
theorem dX7_set_18 : decode cX7_set 18 = .ok (.iastore, 1) := by decide +kernel
theorem dX7_set_19 : decode cX7_set 19 = .ok (.return_, 1) := by decide +kernel
theorem dX7_lowestBits_0 : decode cX7_lowestBits 0 = .ok (.aload_n 0, 1) := by decide +kernel
theorem dX7_lowestBits_1 : decode cX7_lowestBits 1 = .ok (.getfield 9, 3) := by decide +kernel
theorem dX7_lowestBits_4 : decode cX7_lowestBits 4 = .ok (.lookupswitch 34 #[(0, 28), (1, 31)], 28) := by decide +kernel
theorem dX7_lowestBits_32 : decode cX7_lowestBits 32 = .ok (.iload_n 1, 1) := by decide +kernel
theorem dX7_lowestBits_33 : decode cX7_lowestBits 33 = .ok (.i2b, 1) := by decide +kernel
theorem dX7_lowestBits_34 : decode cX7_lowestBits 34 = .ok (.ireturn, 1) := by decide +kernel
theorem dX7_lowestBits_35 : decode cX7_lowestBits 35 = .ok (.iload_n 1, 1) := by decide +kernel
theorem dX7_lowestBits_36 : decode cX7_lowestBits 36 = .ok (.i2s, 1) := by decide +kernel
theorem dX7_lowestBits_37 : decode cX7_lowestBits 37 = .ok (.ireturn, 1) := by decide +kernel
theorem dX7_lowestBits_38 : decode cX7_lowestBits 38 = .ok (.iload_n 1, 1) := by decide +kernel
theorem dX7_lowestBits_39 : decode cX7_lowestBits 39 = .ok (.ireturn, 1) := by decide +kernel
theorem dX7_isSkipped_0 : decode cX7_isSkipped 0 = .ok (.aload_n 0, 1) := by decide +kernel
theorem dX7_isSkipped_1 : decode cX7_isSkipped 1 = .ok (.getfield 9, 3) := by decide +kernel
theorem dX7_isSkipped_4 : decode cX7_isSkipped 4 = .ok (.lookupswitch 61 #[(0, 28), (1, 44)], 28) := by decide +kernel
theorem dX7_isSkipped_32 : decode cX7_isSkipped 32 = .ok (.aload_n 0, 1) := by decide +kernel
theorem dX7_isSkipped_33 : decode cX7_isSkipped 33 = .ok (.iload_n 1, 1) := by decide +kernel
theorem dX7_isSkipped_34 : decode cX7_isSkipped 34 = .ok (.invokevirtual 33, 3) := by decide +kernel
theorem dX7_isSkipped_37 : decode cX7_isSkipped 37 = .ok (.bipush (-128), 2) := by decide +kernel
theorem dX7_isSkipped_39 : decode cX7_isSkipped 39 = .ok (.if_icmp .ne 7, 3) := by decide +kernel
theorem dX7_isSkipped_42 : decode cX7_isSkipped 42 = .ok (.iconst 1, 1) := by decide +kernel
theorem dX7_isSkipped_43 : decode cX7_isSkipped 43 = .ok (.goto 4, 3) := by decide +kernel
theorem dX7_isSkipped_46 : decode cX7_isSkipped 46 = .ok (.iconst 0, 1) := by decide +kernel
theorem dX7_isSkipped_47 : decode cX7_isSkipped 47 = .ok (.ireturn, 1) := by decide +kernel
theorem dX7_isSkipped_48 : decode cX7_isSkipped 48 = .ok (.aload_n 0, 1) := by decide +kernel
theorem dX7_isSkipped_49 : decode cX7_isSkipped 49 = .ok (.iload_n 1, 1) := by decide +kernel
theorem dX7_isSkipped_50 : decode cX7_isSkipped 50 = .ok (.invokevirtual 33, 3) := by decide +kernel
theorem dX7_isSkipped_53 : decode cX7_isSkipped 53 = .ok (.sipush (-32768), 3) := by decide +kernel
theorem dX7_isSkipped_56 : decode cX7_isSkipped 56 = .ok (.if_icmp .ne 7, 3) := by decide +kernel
theorem dX7_isSkipped_59 : decode cX7_isSkipped 59 = .ok (.iconst 1, 1) := by decide +kernel
theorem dX7_isSkipped_60 : decode cX7_isSkipped 60 = .ok (.goto 4, 3) := by decide +kernel
theorem dX7_isSkipped_63 : decode cX7_isSkipped 63 = .ok (.iconst 0, 1) := by decide +kernel
theorem dX7_isSkipped_64 : decode cX7_isSkipped 64 = .ok (.ireturn, 1) := by decide +kernel
theorem dX7_isSkipped_65 : decode cX7_isSkipped 65 = .ok (.aload_n 0, 1) := by decide +kernel
theorem dX7_isSkipped_66 : decode cX7_isSkipped 66 = .ok (.iload_n 1, 1) := by decide +kernel
theorem dX7_isSkipped_67 : decode cX7_isSkipped 67 = .ok (.invokevirtual 33, 3) := by decide +kernel
theorem dX7_isSkipped_70 : decode cX7_isSkipped 70 = .ok (.ldc 36, 2) := by decide +kernel
theorem dX7_isSkipped_72 : decode cX7_isSkipped 72 = .ok (.if_icmp .ne 7, 3) := by decide +kernel
theorem dX7_isSkipped_75 : decode cX7_isSkipped 75 = .ok (.iconst 1, 1) := by decide +kernel
theorem dX7_isSkipped_76 : decode cX7_isSkipped 76 = .ok (.goto 4, 3) := by decide +kernel
theorem dX7_isSkipped_79 : decode cX7_isSkipped 79 = .ok (.iconst 0, 1) := by decide +kernel
theorem dX7_isSkipped_80 : decode cX7_isSkipped 80 = .ok (.ireturn, 1) := by decide +kernel
theorem dX7_take_0 : decode cX7_take 0 = .ok (.aload_n 0, 1) := by decide +kernel
theorem dX7_take_1 : decode cX7_take 1 = .ok (.iload_n 1, 1) := by decide +kernel
theorem dX7_take_2 : decode cX7_take 2 = .ok (.iload 4, 2) := by decide +kernel
theorem dX7_take_4 : decode cX7_take 4 = .ok (.invokevirtual 37, 3) := by decide +kernel
theorem dX7_take_7 : decode cX7_take 7 = .ok (.ifCond .eq 28, 3) := by decide +kernel
theorem dX7_take_10 : decode cX7_take 10 = .ok (.aload_n 2, 1) := by decide +kernel
theorem dX7_take_11 : decode cX7_take 11 = .ok (.iload_n 3, 1) := by decide +kernel
theorem dX7_take_12 : decode cX7_take 12 = .ok (.iload 4, 2) := by decide +kernel
theorem dX7_take_14 : decode cX7_take 14 = .ok (.invokevirtual 37, 3) := by decide +kernel
theorem dX7_take_17 : decode cX7_take 17 = .ok (.ifCond .eq 18, 3) := by decide +kernel
theorem dX7_take_20 : decode cX7_take 20 = .ok (.aload_n 2, 1) := by decide +kernel
theorem dX7_take_21 : decode cX7_take 21 = .ok (.getfield 21, 3) := by decide +kernel
theorem dX7_take_24 : decode cX7_take 24 = .ok (.iload_n 3, 1) := by decide +kernel
theorem dX7_take_25 : decode cX7_take 25 = .ok (.aload_n 0, 1) := by decide +kernel
theorem dX7_take_26 : decode cX7_take 26 = .ok (.getfield 21, 3) := by decide +kernel
theorem dX7_take_29 : decode cX7_take 29 = .ok (.iload_n 1, 1) := by decide +kernel
theorem dX7_take_30 : decode cX7_take 30 = .ok (.iload 4, 2) := by decide +kernel
theorem dX7_take_32 : decode cX7_take 32 = .ok (.invokestatic 41, 3) := by decide +kernel
theorem dX7_take_35 : decode cX7_take 35 = .ok (.return_, 1) := by decide +kernel
theorem dX8_init_0 : decode cX8_init 0 = .ok (.aload_n 0, 1) := by decide +kernel
theorem dX8_init_1 : decode cX8_init 1 = .ok (.iload_n 1, 1) := by decide +kernel
theorem dX8_init_2 : decode cX8_init 2 = .ok (.iload_n 2, 1) := by decide +kernel
theorem dX8_init_3 : decode cX8_init 3 = .ok (.invokespecial 1, 3) := by decide +kernel
theorem dX8_init_6 : decode cX8_init 6 = .ok (.return_, 1) := by decide +kernel
theorem dX8_danced_0 : decode cX8_danced 0 = .ok (.aload_n 0, 1) := by decide +kernel
theorem dX8_danced_1 : decode cX8_danced 1 = .ok (.iload_n 1, 1) := by decide +kernel
theorem dX8_danced_2 : decode cX8_danced 2 = .ok (.invokespecial 7, 3) := by decide +kernel
theorem dX8_danced_5 : decode cX8_danced 5 = .ok (.iload_n 1, 1) := by decide +kernel
theorem dX8_danced_6 : decode cX8_danced 6 = .ok (.iadd, 1) := by decide +kernel
theorem dX8_danced_7 : decode cX8_danced 7 = .ok (.ireturn, 1) := by decide +kernel
theorem dX8_price_0 : decode cX8_price 0 = .ok (.aload_n 0, 1) := by decide +kernel
theorem dX8_price_1 : decode cX8_price 1 = .ok (.invokespecial 11, 3) := by decide +kernel
theorem dX8_price_4 : decode cX8_price 4 = .ok (.iconst 1, 1) := by decide +kernel
theorem dX8_price_5 : decode cX8_price 5 = .ok (.isub, 1) := by decide +kernel
theorem dX8_price_6 : decode cX8_price 6 = .ok (.ireturn, 1) := by decide +kernel
theorem dX9_init_0 : decode cX9_init 0 = .ok (.aload_n 0, 1) := by decide +kernel
theorem dX9_init_1 : decode cX9_init 1 = .ok (.iload_n 1, 1) := by decide +kernel
theorem dX9_init_2 : decode cX9_init 2 = .ok (.iload_n 2, 1) := by decide +kernel
theorem dX9_init_3 : decode cX9_init 3 = .ok (.invokespecial 1, 3) := by decide +kernel
theorem dX9_init_6 : decode cX9_init 6 = .ok (.return_, 1) := by decide +kernel
theorem dX9_rings_0 : decode cX9_rings 0 = .ok (.aload_n 0, 1) := by decide +kernel
theorem dX9_rings_1 : decode cX9_rings 1 = .ok (.getfield 7, 3) := by decide +kernel
theorem dX9_rings_4 : decode cX9_rings 4 = .ok (.iconst 2, 1) := by decide +kernel
theorem dX9_rings_5 : decode cX9_rings 5 = .ok (.idiv, 1) := by decide +kernel
theorem dX9_rings_6 : decode cX9_rings 6 = .ok (.ireturn, 1) := by decide +kernel
theorem dX9_price_0 : decode cX9_price 0 = .ok (.aload_n 0, 1) := by decide +kernel
theorem dX9_price_1 : decode cX9_price 1 = .ok (.invokespecial 13, 3) := by decide +kernel
theorem dX9_price_4 : decode cX9_price 4 = .ok (.iconst 3, 1) := by decide +kernel
theorem dX9_price_5 : decode cX9_price 5 = .ok (.iadd, 1) := by decide +kernel
theorem dX9_price_6 : decode cX9_price 6 = .ok (.ireturn, 1) := by decide +kernel
theorem dX9_fail_0 : decode cX9_fail 0 = .ok (.aload_n 0, 1) := by decide +kernel
theorem dX9_fail_1 : decode cX9_fail 1 = .ok (.getfield 7, 3) := by decide +kernel
theorem dX9_fail_4 : decode cX9_fail 4 = .ok (.ifCond .eq 13, 3) := by decide +kernel
theorem dX9_fail_7 : decode cX9_fail 7 = .ok (.new 17, 3) := by decide +kernel
theorem dX9_fail_10 : decode cX9_fail 10 = .ok (.dup, 1) := by decide +kernel
theorem dX9_fail_11 : decode cX9_fail 11 = .ok (.ldc 19, 2) := by decide +kernel
theorem dX9_fail_13 : decode cX9_fail 13 = .ok (.invokespecial 21, 3) := by decide +kernel
theorem dX9_fail_16 : decode cX9_fail 16 = .ok (.athrow, 1) := by decide +kernel
theorem dX9_fail_17 : decode cX9_fail 17 = .ok (.return_, 1) := by decide +kernel
theorem dX10_init_0 : decode cX10_init 0 = .ok (.aload_n 0, 1) := by decide +kernel
theorem dX10_init_1 : decode cX10_init 1 = .ok (.invokespecial 3, 3) := by decide +kernel
theorem dX10_init_4 : decode cX10_init 4 = .ok (.aload_n 0, 1) := by decide +kernel
theorem dX10_init_5 : decode cX10_init 5 = .ok (.aload_n 1, 1) := by decide +kernel
theorem dX10_init_6 : decode cX10_init 6 = .ok (.putfield 9, 3) := by decide +kernel
theorem dX10_init_9 : decode cX10_init 9 = .ok (.return_, 1) := by decide +kernel
theorem dX10_firstFlaw_0 : decode cX10_firstFlaw 0 = .ok (.aload_n 0, 1) := by decide +kernel
theorem dX10_firstFlaw_1 : decode cX10_firstFlaw 1 = .ok (.getfield 9, 3) := by decide +kernel
theorem dX10_firstFlaw_4 : decode cX10_firstFlaw 4 = .ok (.invokevirtual 15, 3) := by decide +kernel
theorem dX10_firstFlaw_7 : decode cX10_firstFlaw 7 = .ok (.ifCond .ne 5, 3) := by decide +kernel
theorem dX10_firstFlaw_10 : decode cX10_firstFlaw 10 = .ok (.iconst 0, 1) := by decide +kernel
theorem dX10_firstFlaw_11 : decode cX10_firstFlaw 11 = .ok (.ireturn, 1) := by decide +kernel
theorem dX10_firstFlaw_12 : decode cX10_firstFlaw 12 = .ok (.iconst 0, 1) := by decide +kernel
theorem dX10_firstFlaw_13 : decode cX10_firstFlaw 13 = .ok (.istore_n 1, 1) := by decide +kernel
theorem dX10_firstFlaw_14 : decode cX10_firstFlaw 14 = .ok (.iconst 0, 1) := by decide +kernel
theorem dX10_firstFlaw_15 : decode cX10_firstFlaw 15 = .ok (.istore_n 2, 1) := by decide +kernel
theorem dX10_firstFlaw_16 : decode cX10_firstFlaw 16 = .ok (.iload_n 2, 1) := by decide +kernel
theorem dX10_firstFlaw_17 : decode cX10_firstFlaw 17 = .ok (.bipush 100, 2) := by decide +kernel
theorem dX10_firstFlaw_19 : decode cX10_firstFlaw 19 = .ok (.if_icmp .ge 40, 3) := by decide +kernel
theorem dX10_firstFlaw_22 : decode cX10_firstFlaw 22 = .ok (.iload_n 1, 1) := by decide +kernel
theorem dX10_firstFlaw_23 : decode cX10_firstFlaw 23 = .ok (.aload_n 0, 1) := by decide +kernel
theorem dX10_firstFlaw_24 : decode cX10_firstFlaw 24 = .ok (.getfield 9, 3) := by decide +kernel
theorem dX10_firstFlaw_27 : decode cX10_firstFlaw 27 = .ok (.invokevirtual 15, 3) := by decide +kernel
theorem dX10_firstFlaw_30 : decode cX10_firstFlaw 30 = .ok (.if_icmp .ge 29, 3) := by decide +kernel
theorem dX10_firstFlaw_33 : decode cX10_firstFlaw 33 = .ok (.aload_n 0, 1) := by decide +kernel
theorem dX10_firstFlaw_34 : decode cX10_firstFlaw 34 = .ok (.iload_n 1, 1) := by decide +kernel
theorem dX10_firstFlaw_35 : decode cX10_firstFlaw 35 = .ok (.invokevirtual 21, 3) := by decide +kernel
theorem dX10_firstFlaw_38 : decode cX10_firstFlaw 38 = .ok (.istore_n 3, 1) := by decide +kernel
theorem dX10_firstFlaw_39 : decode cX10_firstFlaw 39 = .ok (.iload_n 3, 1) := by decide +kernel
theorem dX10_firstFlaw_40 : decode cX10_firstFlaw 40 = .ok (.ifCond .lt 5, 3) := by decide +kernel
theorem dX10_firstFlaw_43 : decode cX10_firstFlaw 43 = .ok (.iload_n 3, 1) := by decide +kernel
theorem dX10_firstFlaw_44 : decode cX10_firstFlaw 44 = .ok (.ireturn, 1) := by decide +kernel
theorem dX10_firstFlaw_45 : decode cX10_firstFlaw 45 = .ok (.iload_n 1, 1) := by decide +kernel
theorem dX10_firstFlaw_46 : decode cX10_firstFlaw 46 = .ok (.aload_n 0, 1) := by decide +kernel
theorem dX10_firstFlaw_47 : decode cX10_firstFlaw 47 = .ok (.iload_n 1, 1) := by decide +kernel
theorem dX10_firstFlaw_48 : decode cX10_firstFlaw 48 = .ok (.invokevirtual 25, 3) := by decide +kernel
theorem dX10_firstFlaw_51 : decode cX10_firstFlaw 51 = .ok (.iadd, 1) := by decide +kernel
theorem dX10_firstFlaw_52 : decode cX10_firstFlaw 52 = .ok (.istore_n 1, 1) := by decide +kernel
theorem dX10_firstFlaw_53 : decode cX10_firstFlaw 53 = .ok (.iinc 2 1, 3) := by decide +kernel
theorem dX10_firstFlaw_56 : decode cX10_firstFlaw 56 = .ok (.goto (-40), 3) := by decide +kernel
theorem dX10_firstFlaw_59 : decode cX10_firstFlaw 59 = .ok (.iconst (-1), 1) := by decide +kernel
theorem dX10_firstFlaw_60 : decode cX10_firstFlaw 60 = .ok (.ireturn, 1) := by decide +kernel
theorem dX10_flawInStatement_0 : decode cX10_flawInStatement 0 = .ok (.aload_n 0, 1) := by decide +kernel
theorem dX10_flawInStatement_1 : decode cX10_flawInStatement 1 = .ok (.getfield 9, 3) := by decide +kernel
theorem dX10_flawInStatement_4 : decode cX10_flawInStatement 4 = .ok (.iload_n 1, 1) := by decide +kernel
theorem dX10_flawInStatement_5 : decode cX10_flawInStatement 5 = .ok (.invokevirtual 28, 3) := by decide +kernel
theorem dX10_flawInStatement_8 : decode cX10_flawInStatement 8 = .ok (.invokestatic 31, 3) := by decide +kernel
theorem dX10_flawInStatement_11 : decode cX10_flawInStatement 11 = .ok (.ifCond .ne 5, 3) := by decide +kernel
theorem dX10_flawInStatement_14 : decode cX10_flawInStatement 14 = .ok (.iload_n 1, 1) := by decide +kernel
theorem dX10_flawInStatement_15 : decode cX10_flawInStatement 15 = .ok (.ireturn, 1) := by decide +kernel
theorem dX10_flawInStatement_16 : decode cX10_flawInStatement 16 = .ok (.iload_n 1, 1) := by decide +kernel
theorem dX10_flawInStatement_17 : decode cX10_flawInStatement 17 = .ok (.aload_n 0, 1) := by decide +kernel
theorem dX10_flawInStatement_18 : decode cX10_flawInStatement 18 = .ok (.iload_n 1, 1) := by decide +kernel
theorem dX10_flawInStatement_19 : decode cX10_flawInStatement 19 = .ok (.invokevirtual 25, 3) := by decide +kernel
theorem dX10_flawInStatement_22 : decode cX10_flawInStatement 22 = .ok (.iadd, 1) := by decide +kernel
theorem dX10_flawInStatement_23 : decode cX10_flawInStatement 23 = .ok (.iconst 1, 1) := by decide +kernel
theorem dX10_flawInStatement_24 : decode cX10_flawInStatement 24 = .ok (.isub, 1) := by decide +kernel
theorem dX10_flawInStatement_25 : decode cX10_flawInStatement 25 = .ok (.istore_n 2, 1) := by decide +kernel
theorem dX10_flawInStatement_26 : decode cX10_flawInStatement 26 = .ok (.iload_n 1, 1) := by decide +kernel
theorem dX10_flawInStatement_27 : decode cX10_flawInStatement 27 = .ok (.iconst 1, 1) := by decide +kernel
theorem dX10_flawInStatement_28 : decode cX10_flawInStatement 28 = .ok (.iadd, 1) := by decide +kernel
theorem dX10_flawInStatement_29 : decode cX10_flawInStatement 29 = .ok (.istore_n 3, 1) := by decide +kernel
theorem dX10_flawInStatement_30 : decode cX10_flawInStatement 30 = .ok (.iload_n 3, 1) := by decide +kernel
theorem dX10_flawInStatement_31 : decode cX10_flawInStatement 31 = .ok (.iload_n 2, 1) := by decide +kernel
theorem dX10_flawInStatement_32 : decode cX10_flawInStatement 32 = .ok (.if_icmp .gt 71, 3) := by decide +kernel
theorem dX10_flawInStatement_35 : decode cX10_flawInStatement 35 = .ok (.iload_n 3, 1) := by decide +kernel
theorem dX10_flawInStatement_36 : decode cX10_flawInStatement 36 = .ok (.aload_n 0, 1) := by decide +kernel
theorem dX10_flawInStatement_37 : decode cX10_flawInStatement 37 = .ok (.getfield 9, 3) := by decide +kernel
theorem dX10_flawInStatement_40 : decode cX10_flawInStatement 40 = .ok (.invokevirtual 15, 3) := by decide +kernel
theorem dX10_flawInStatement_43 : decode cX10_flawInStatement 43 = .ok (.if_icmp .lt 11, 3) := by decide +kernel
theorem dX10_flawInStatement_46 : decode cX10_flawInStatement 46 = .ok (.aload_n 0, 1) := by decide +kernel
theorem dX10_flawInStatement_47 : decode cX10_flawInStatement 47 = .ok (.getfield 9, 3) := by decide +kernel
theorem dX10_flawInStatement_50 : decode cX10_flawInStatement 50 = .ok (.invokevirtual 15, 3) := by decide +kernel
theorem dX10_flawInStatement_53 : decode cX10_flawInStatement 53 = .ok (.ireturn, 1) := by decide +kernel
theorem dX10_flawInStatement_54 : decode cX10_flawInStatement 54 = .ok (.iload_n 3, 1) := by decide +kernel
theorem dX10_flawInStatement_55 : decode cX10_flawInStatement 55 = .ok (.iload_n 2, 1) := by decide +kernel
theorem dX10_flawInStatement_56 : decode cX10_flawInStatement 56 = .ok (.if_icmp .ne 24, 3) := by decide +kernel
theorem dX10_flawInStatement_59 : decode cX10_flawInStatement 59 = .ok (.aload_n 0, 1) := by decide +kernel
theorem dX10_flawInStatement_60 : decode cX10_flawInStatement 60 = .ok (.getfield 9, 3) := by decide +kernel
theorem dX10_flawInStatement_63 : decode cX10_flawInStatement 63 = .ok (.iload_n 3, 1) := by decide +kernel
theorem dX10_flawInStatement_64 : decode cX10_flawInStatement 64 = .ok (.invokevirtual 28, 3) := by decide +kernel
theorem dX10_flawInStatement_67 : decode cX10_flawInStatement 67 = .ok (.bipush 59, 2) := by decide +kernel
theorem dX10_flawInStatement_69 : decode cX10_flawInStatement 69 = .ok (.if_icmp .ne 7, 3) := by decide +kernel
theorem dX10_flawInStatement_72 : decode cX10_flawInStatement 72 = .ok (.iconst 1, 1) := by decide +kernel
theorem dX10_flawInStatement_73 : decode cX10_flawInStatement 73 = .ok (.goto 15, 3) := by decide +kernel
theorem dX10_flawInStatement_76 : decode cX10_flawInStatement 76 = .ok (.iconst 0, 1) := by decide +kernel
theorem dX10_flawInStatement_77 : decode cX10_flawInStatement 77 = .ok (.goto 11, 3) := by decide +kernel
theorem dX10_flawInStatement_80 : decode cX10_flawInStatement 80 = .ok (.aload_n 0, 1) := by decide +kernel
theorem dX10_flawInStatement_81 : decode cX10_flawInStatement 81 = .ok (.iload_n 3, 1) := by decide +kernel
theorem dX10_flawInStatement_82 : decode cX10_flawInStatement 82 = .ok (.invokevirtual 34, 3) := by decide +kernel
theorem dX10_flawInStatement_85 : decode cX10_flawInStatement 85 = .ok (.invokestatic 37, 3) := by decide +kernel
theorem dX10_flawInStatement_88 : decode cX10_flawInStatement 88 = .ok (.istore 4, 2) := by decide +kernel
theorem dX10_flawInStatement_90 : decode cX10_flawInStatement 90 = .ok (.iload 4, 2) := by decide +kernel
theorem dX10_flawInStatement_92 : decode cX10_flawInStatement 92 = .ok (.ifCond .ne 5, 3) := by decide +kernel
theorem dX10_flawInStatement_95 : decode cX10_flawInStatement 95 = .ok (.iload_n 3, 1) := by decide +kernel
theorem dX10_flawInStatement_96 : decode cX10_flawInStatement 96 = .ok (.ireturn, 1) := by decide +kernel
theorem dX10_flawInStatement_97 : decode cX10_flawInStatement 97 = .ok (.iinc 3 1, 3) := by decide +kernel
theorem dX10_flawInStatement_100 : decode cX10_flawInStatement 100 = .ok (.goto (-70), 3) := by decide +kernel
theorem dX10_flawInStatement_103 : decode cX10_flawInStatement 103 = .ok (.iconst (-1), 1) := by decide +kernel
theorem dX10_flawInStatement_104 : decode cX10_flawInStatement 104 = .ok (.ireturn, 1) := by decide +kernel
theorem dX10_lengthAt_0 : decode cX10_lengthAt 0 = .ok (.iconst 2, 1) := by decide +kernel
theorem dX10_lengthAt_1 : decode cX10_lengthAt 1 = .ok (.aload_n 0, 1) := by decide +kernel
theorem dX10_lengthAt_2 : decode cX10_lengthAt 2 = .ok (.getfield 9, 3) := by decide +kernel
theorem dX10_lengthAt_5 : decode cX10_lengthAt 5 = .ok (.iload_n 1, 1) := by decide +kernel
theorem dX10_lengthAt_6 : decode cX10_lengthAt 6 = .ok (.invokevirtual 28, 3) := by decide +kernel
theorem dX10_lengthAt_9 : decode cX10_lengthAt 9 = .ok (.invokestatic 31, 3) := by decide +kernel
theorem dX10_lengthAt_12 : decode cX10_lengthAt 12 = .ok (.iadd, 1) := by decide +kernel
theorem dX10_lengthAt_13 : decode cX10_lengthAt 13 = .ok (.ireturn, 1) := by decide +kernel
theorem dX10_digitsBehind_0 : decode cX10_digitsBehind 0 = .ok (.iload_n 0, 1) := by decide +kernel
theorem dX10_digitsBehind_1 : decode cX10_digitsBehind 1 = .ok (.tableswitch 103 98 116 #[95, 103, 99, 103, 103, 91, 103, 103, 103, 103, 93, 103, 103, 103, 103, 103, 103, 97, 101], 91) := by decide +kernel
theorem dX10_digitsBehind_92 : decode cX10_digitsBehind 92 = .ok (.iconst 4, 1) := by decide +kernel
theorem dX10_digitsBehind_93 : decode cX10_digitsBehind 93 = .ok (.ireturn, 1) := by decide +kernel
theorem dX10_digitsBehind_94 : decode cX10_digitsBehind 94 = .ok (.iconst 4, 1) := by decide +kernel
theorem dX10_digitsBehind_95 : decode cX10_digitsBehind 95 = .ok (.ireturn, 1) := by decide +kernel
theorem dX10_digitsBehind_96 : decode cX10_digitsBehind 96 = .ok (.iconst 2, 1) := by decide +kernel
theorem dX10_digitsBehind_97 : decode cX10_digitsBehind 97 = .ok (.ireturn, 1) := by decide +kernel
theorem dX10_digitsBehind_98 : decode cX10_digitsBehind 98 = .ok (.iconst 2, 1) := by decide +kernel
theorem dX10_digitsBehind_99 : decode cX10_digitsBehind 99 = .ok (.ireturn, 1) := by decide +kernel
theorem dX10_digitsBehind_100 : decode cX10_digitsBehind 100 = .ok (.iconst 2, 1) := by decide +kernel
theorem dX10_digitsBehind_101 : decode cX10_digitsBehind 101 = .ok (.ireturn, 1) := by decide +kernel
theorem dX10_digitsBehind_102 : decode cX10_digitsBehind 102 = .ok (.iconst 1, 1) := by decide +kernel
theorem dX10_digitsBehind_103 : decode cX10_digitsBehind 103 = .ok (.ireturn, 1) := by decide +kernel
theorem dX10_digitsBehind_104 : decode cX10_digitsBehind 104 = .ok (.iconst 0, 1) := by decide +kernel
theorem dX10_digitsBehind_105 : decode cX10_digitsBehind 105 = .ok (.ireturn, 1) := by decide +kernel
theorem dX10_digit_0 : decode cX10_digit 0 = .ok (.aload_n 0, 1) := by decide +kernel
theorem dX10_digit_1 : decode cX10_digit 1 = .ok (.getfield 9, 3) := by decide +kernel
theorem dX10_digit_4 : decode cX10_digit 4 = .ok (.iload_n 1, 1) := by decide +kernel
theorem dX10_digit_5 : decode cX10_digit 5 = .ok (.invokevirtual 28, 3) := by decide +kernel
theorem dX10_digit_8 : decode cX10_digit 8 = .ok (.bipush 48, 2) := by decide +kernel
theorem dX10_digit_10 : decode cX10_digit 10 = .ok (.isub, 1) := by decide +kernel
theorem dX10_digit_11 : decode cX10_digit 11 = .ok (.ireturn, 1) := by decide +kernel
theorem dX10_twoDigits_0 : decode cX10_twoDigits 0 = .ok (.bipush 10, 2) := by decide +kernel
theorem dX10_twoDigits_2 : decode cX10_twoDigits 2 = .ok (.aload_n 0, 1) := by decide +kernel
theorem dX10_twoDigits_3 : decode cX10_twoDigits 3 = .ok (.iload_n 1, 1) := by decide +kernel
theorem dX10_twoDigits_4 : decode cX10_twoDigits 4 = .ok (.invokevirtual 34, 3) := by decide +kernel
theorem dX10_twoDigits_7 : decode cX10_twoDigits 7 = .ok (.imul, 1) := by decide +kernel
theorem dX10_twoDigits_8 : decode cX10_twoDigits 8 = .ok (.aload_n 0, 1) := by decide +kernel
theorem dX10_twoDigits_9 : decode cX10_twoDigits 9 = .ok (.iload_n 1, 1) := by decide +kernel
theorem dX10_twoDigits_10 : decode cX10_twoDigits 10 = .ok (.iconst 1, 1) := by decide +kernel
theorem dX10_twoDigits_11 : decode cX10_twoDigits 11 = .ok (.iadd, 1) := by decide +kernel
theorem dX10_twoDigits_12 : decode cX10_twoDigits 12 = .ok (.invokevirtual 34, 3) := by decide +kernel
theorem dX10_twoDigits_15 : decode cX10_twoDigits 15 = .ok (.iadd, 1) := by decide +kernel
theorem dX10_twoDigits_16 : decode cX10_twoDigits 16 = .ok (.ireturn, 1) := by decide +kernel
theorem dX10_follow_0 : decode cX10_follow 0 = .ok (.aload_n 0, 1) := by decide +kernel
theorem dX10_follow_1 : decode cX10_follow 1 = .ok (.iload_n 2, 1) := by decide +kernel
theorem dX10_follow_2 : decode cX10_follow 2 = .ok (.iconst 1, 1) := by decide +kernel
theorem dX10_follow_3 : decode cX10_follow 3 = .ok (.iadd, 1) := by decide +kernel
theorem dX10_follow_4 : decode cX10_follow 4 = .ok (.invokevirtual 34, 3) := by decide +kernel
theorem dX10_follow_7 : decode cX10_follow 7 = .ok (.istore_n 3, 1) := by decide +kernel
theorem dX10_follow_8 : decode cX10_follow 8 = .ok (.aload_n 0, 1) := by decide +kernel
theorem dX10_follow_9 : decode cX10_follow 9 = .ok (.iload_n 2, 1) := by decide +kernel
theorem dX10_follow_10 : decode cX10_follow 10 = .ok (.iconst 2, 1) := by decide +kernel
theorem dX10_follow_11 : decode cX10_follow 11 = .ok (.iadd, 1) := by decide +kernel
theorem dX10_follow_12 : decode cX10_follow 12 = .ok (.invokevirtual 34, 3) := by decide +kernel
theorem dX10_follow_15 : decode cX10_follow 15 = .ok (.istore 4, 2) := by decide +kernel
theorem dX10_follow_17 : decode cX10_follow 17 = .ok (.aload_n 0, 1) := by decide +kernel
theorem dX10_follow_18 : decode cX10_follow 18 = .ok (.getfield 9, 3) := by decide +kernel
theorem dX10_follow_21 : decode cX10_follow 21 = .ok (.iload_n 2, 1) := by decide +kernel
theorem dX10_follow_22 : decode cX10_follow 22 = .ok (.invokevirtual 28, 3) := by decide +kernel
theorem dX10_follow_25 : decode cX10_follow 25 = .ok (.tableswitch 155 98 116 #[106, 155, 143, 155, 155, 91, 155, 155, 155, 155, 120, 155, 155, 155, 155, 155, 155, 135, 114], 91) := by decide +kernel
theorem dX10_follow_116 : decode cX10_follow 116 = .ok (.aload_n 1, 1) := by decide +kernel
theorem dX10_follow_117 : decode cX10_follow 117 = .ok (.iload_n 3, 1) := by decide +kernel
theorem dX10_follow_118 : decode cX10_follow 118 = .ok (.iload 4, 2) := by decide +kernel
theorem dX10_follow_120 : decode cX10_follow 120 = .ok (.aload_n 0, 1) := by decide +kernel
theorem dX10_follow_121 : decode cX10_follow 121 = .ok (.iload_n 2, 1) := by decide +kernel
theorem dX10_follow_122 : decode cX10_follow 122 = .ok (.iconst 3, 1) := by decide +kernel
theorem dX10_follow_123 : decode cX10_follow 123 = .ok (.iadd, 1) := by decide +kernel
theorem dX10_follow_124 : decode cX10_follow 124 = .ok (.invokevirtual 41, 3) := by decide +kernel
theorem dX10_follow_127 : decode cX10_follow 127 = .ok (.invokestatic 44, 3) := by decide +kernel
theorem dX10_follow_130 : decode cX10_follow 130 = .ok (.ireturn, 1) := by decide +kernel
theorem dX10_follow_131 : decode cX10_follow 131 = .ok (.aload_n 1, 1) := by decide +kernel
theorem dX10_follow_132 : decode cX10_follow 132 = .ok (.iload_n 3, 1) := by decide +kernel
theorem dX10_follow_133 : decode cX10_follow 133 = .ok (.iload 4, 2) := by decide +kernel
theorem dX10_follow_135 : decode cX10_follow 135 = .ok (.invokestatic 48, 3) := by decide +kernel
theorem dX10_follow_138 : decode cX10_follow 138 = .ok (.ireturn, 1) := by decide +kernel
theorem dX10_follow_139 : decode cX10_follow 139 = .ok (.aload_n 1, 1) := by decide +kernel
theorem dX10_follow_140 : decode cX10_follow 140 = .ok (.iload_n 3, 1) := by decide +kernel
theorem dX10_follow_141 : decode cX10_follow 141 = .ok (.invokestatic 52, 3) := by decide +kernel
theorem dX10_follow_144 : decode cX10_follow 144 = .ok (.ireturn, 1) := by decide +kernel
theorem dX10_follow_145 : decode cX10_follow 145 = .ok (.aload_n 1, 1) := by decide +kernel
theorem dX10_follow_146 : decode cX10_follow 146 = .ok (.iload_n 3, 1) := by decide +kernel
theorem dX10_follow_147 : decode cX10_follow 147 = .ok (.iload 4, 2) := by decide +kernel
theorem dX10_follow_149 : decode cX10_follow 149 = .ok (.aload_n 0, 1) := by decide +kernel
theorem dX10_follow_150 : decode cX10_follow 150 = .ok (.iload_n 2, 1) := by decide +kernel
theorem dX10_follow_151 : decode cX10_follow 151 = .ok (.iconst 3, 1) := by decide +kernel
theorem dX10_follow_152 : decode cX10_follow 152 = .ok (.iadd, 1) := by decide +kernel
theorem dX10_follow_153 : decode cX10_follow 153 = .ok (.invokevirtual 41, 3) := by decide +kernel
theorem dX10_follow_156 : decode cX10_follow 156 = .ok (.invokestatic 56, 3) := by decide +kernel
theorem dX10_follow_159 : decode cX10_follow 159 = .ok (.ireturn, 1) := by decide +kernel
theorem dX10_follow_160 : decode cX10_follow 160 = .ok (.aload_n 1, 1) := by decide +kernel
theorem dX10_follow_161 : decode cX10_follow 161 = .ok (.iload_n 3, 1) := by decide +kernel
theorem dX10_follow_162 : decode cX10_follow 162 = .ok (.iload 4, 2) := by decide +kernel
theorem dX10_follow_164 : decode cX10_follow 164 = .ok (.invokestatic 59, 3) := by decide +kernel
theorem dX10_follow_167 : decode cX10_follow 167 = .ok (.ireturn, 1) := by decide +kernel
theorem dX10_follow_168 : decode cX10_follow 168 = .ok (.aload_n 1, 1) := by decide +kernel
theorem dX10_follow_169 : decode cX10_follow 169 = .ok (.aload_n 0, 1) := by decide +kernel
theorem dX10_follow_170 : decode cX10_follow 170 = .ok (.iload_n 2, 1) := by decide +kernel
theorem dX10_follow_171 : decode cX10_follow 171 = .ok (.iconst 1, 1) := by decide +kernel
theorem dX10_follow_172 : decode cX10_follow 172 = .ok (.iadd, 1) := by decide +kernel
theorem dX10_follow_173 : decode cX10_follow 173 = .ok (.invokevirtual 41, 3) := by decide +kernel
theorem dX10_follow_176 : decode cX10_follow 176 = .ok (.invokestatic 62, 3) := by decide +kernel
theorem dX10_follow_179 : decode cX10_follow 179 = .ok (.ireturn, 1) := by decide +kernel
theorem dX10_follow_180 : decode cX10_follow 180 = .ok (.iconst 0, 1) := by decide +kernel
theorem dX10_follow_181 : decode cX10_follow 181 = .ok (.ireturn, 1) := by decide +kernel
theorem dX10_takeIn_0 : decode cX10_takeIn 0 = .ok (.iload_n 1, 1) := by decide +kernel
theorem dX10_takeIn_1 : decode cX10_takeIn 1 = .ok (.bipush 8, 2) := by decide +kernel
theorem dX10_takeIn_3 : decode cX10_takeIn 3 = .ok (.if_icmp .ge 10, 3) := by decide +kernel
theorem dX10_takeIn_6 : decode cX10_takeIn 6 = .ok (.aload_n 0, 1) := by decide +kernel
theorem dX10_takeIn_7 : decode cX10_takeIn 7 = .ok (.invokevirtual 65, 3) := by decide +kernel
theorem dX10_takeIn_10 : decode cX10_takeIn 10 = .ok (.ifCond .eq 5, 3) := by decide +kernel
theorem dX10_takeIn_13 : decode cX10_takeIn 13 = .ok (.iconst 0, 1) := by decide +kernel
theorem dX10_takeIn_14 : decode cX10_takeIn 14 = .ok (.ireturn, 1) := by decide +kernel
theorem dX10_takeIn_15 : decode cX10_takeIn 15 = .ok (.aload_n 0, 1) := by decide +kernel
theorem dX10_takeIn_16 : decode cX10_takeIn 16 = .ok (.iload_n 1, 1) := by decide +kernel
theorem dX10_takeIn_17 : decode cX10_takeIn 17 = .ok (.iload_n 2, 1) := by decide +kernel
theorem dX10_takeIn_18 : decode cX10_takeIn 18 = .ok (.invokestatic 71, 3) := by decide +kernel
theorem dX10_takeIn_21 : decode cX10_takeIn 21 = .ok (.iload_n 3, 1) := by decide +kernel
theorem dX10_takeIn_22 : decode cX10_takeIn 22 = .ok (.invokevirtual 75, 3) := by decide +kernel
theorem dX10_takeIn_25 : decode cX10_takeIn 25 = .ok (.iconst 1, 1) := by decide +kernel
theorem dX10_takeIn_26 : decode cX10_takeIn 26 = .ok (.ireturn, 1) := by decide +kernel
theorem dX10_setTable_0 : decode cX10_setTable 0 = .ok (.aload_n 0, 1) := by decide +kernel
theorem dX10_setTable_1 : decode cX10_setTable 1 = .ok (.iload_n 1, 1) := by decide +kernel
theorem dX10_setTable_2 : decode cX10_setTable 2 = .ok (.putfield 78, 3) := by decide +kernel
theorem dX10_setTable_5 : decode cX10_setTable 5 = .ok (.aload_n 0, 1) := by decide +kernel
theorem dX10_setTable_6 : decode cX10_setTable 6 = .ok (.iload_n 2, 1) := by decide +kernel
theorem dX10_setTable_7 : decode cX10_setTable 7 = .ok (.putfield 82, 3) := by decide +kernel
theorem dX10_setTable_10 : decode cX10_setTable 10 = .ok (.iconst 1, 1) := by decide +kernel
theorem dX10_setTable_11 : decode cX10_setTable 11 = .ok (.ireturn, 1) := by decide +kernel
theorem dX10_tellSecret_0 : decode cX10_tellSecret 0 = .ok (.aload_n 0, 1) := by decide +kernel
theorem dX10_tellSecret_1 : decode cX10_tellSecret 1 = .ok (.iload_n 1, 1) := by decide +kernel
theorem dX10_tellSecret_2 : decode cX10_tellSecret 2 = .ok (.invokevirtual 85, 3) := by decide +kernel
theorem dX10_tellSecret_5 : decode cX10_tellSecret 5 = .ok (.ifCond .eq 11, 3) := by decide +kernel
theorem dX10_tellSecret_8 : decode cX10_tellSecret 8 = .ok (.aload_n 0, 1) := by decide +kernel
theorem dX10_tellSecret_9 : decode cX10_tellSecret 9 = .ok (.iload_n 1, 1) := by decide +kernel
theorem dX10_tellSecret_10 : decode cX10_tellSecret 10 = .ok (.invokevirtual 88, 3) := by decide +kernel
theorem dX10_tellSecret_13 : decode cX10_tellSecret 13 = .ok (.ifCond .ne 5, 3) := by decide +kernel
theorem dX10_tellSecret_16 : decode cX10_tellSecret 16 = .ok (.iconst 0, 1) := by decide +kernel
theorem dX10_tellSecret_17 : decode cX10_tellSecret 17 = .ok (.ireturn, 1) := by decide +kernel
theorem dX10_tellSecret_18 : decode cX10_tellSecret 18 = .ok (.aload_n 0, 1) := by decide +kernel
theorem dX10_tellSecret_19 : decode cX10_tellSecret 19 = .ok (.iload_n 1, 1) := by decide +kernel
theorem dX10_tellSecret_20 : decode cX10_tellSecret 20 = .ok (.invokevirtual 91, 3) := by decide +kernel
theorem dX10_tellSecret_23 : decode cX10_tellSecret 23 = .ok (.iconst 1, 1) := by decide +kernel
theorem dX10_tellSecret_24 : decode cX10_tellSecret 24 = .ok (.ireturn, 1) := by decide +kernel
theorem dX10_lendPounds_0 : decode cX10_lendPounds 0 = .ok (.aload_n 0, 1) := by decide +kernel
theorem dX10_lendPounds_1 : decode cX10_lendPounds 1 = .ok (.iload_n 1, 1) := by decide +kernel
theorem dX10_lendPounds_2 : decode cX10_lendPounds 2 = .ok (.invokevirtual 85, 3) := by decide +kernel
theorem dX10_lendPounds_5 : decode cX10_lendPounds 5 = .ok (.ifCond .eq 20, 3) := by decide +kernel
theorem dX10_lendPounds_8 : decode cX10_lendPounds 8 = .ok (.aload_n 0, 1) := by decide +kernel
theorem dX10_lendPounds_9 : decode cX10_lendPounds 9 = .ok (.iload_n 2, 1) := by decide +kernel
theorem dX10_lendPounds_10 : decode cX10_lendPounds 10 = .ok (.invokevirtual 85, 3) := by decide +kernel
theorem dX10_lendPounds_13 : decode cX10_lendPounds 13 = .ok (.ifCond .eq 12, 3) := by decide +kernel
theorem dX10_lendPounds_16 : decode cX10_lendPounds 16 = .ok (.iload_n 1, 1) := by decide +kernel
theorem dX10_lendPounds_17 : decode cX10_lendPounds 17 = .ok (.iload_n 2, 1) := by decide +kernel
theorem dX10_lendPounds_18 : decode cX10_lendPounds 18 = .ok (.if_icmp .eq 7, 3) := by decide +kernel
theorem dX10_lendPounds_21 : decode cX10_lendPounds 21 = .ok (.iconst 1, 1) := by decide +kernel
theorem dX10_lendPounds_22 : decode cX10_lendPounds 22 = .ok (.goto 4, 3) := by decide +kernel
theorem dX10_lendPounds_25 : decode cX10_lendPounds 25 = .ok (.iconst 0, 1) := by decide +kernel
theorem dX10_lendPounds_26 : decode cX10_lendPounds 26 = .ok (.istore 4, 2) := by decide +kernel
theorem dX10_lendPounds_28 : decode cX10_lendPounds 28 = .ok (.iload 4, 2) := by decide +kernel
theorem dX10_lendPounds_30 : decode cX10_lendPounds 30 = .ok (.ifCond .eq 24, 3) := by decide +kernel
theorem dX10_lendPounds_33 : decode cX10_lendPounds 33 = .ok (.iload_n 3, 1) := by decide +kernel
theorem dX10_lendPounds_34 : decode cX10_lendPounds 34 = .ok (.iconst 1, 1) := by decide +kernel
theorem dX10_lendPounds_35 : decode cX10_lendPounds 35 = .ok (.if_icmp .lt 19, 3) := by decide +kernel
theorem dX10_lendPounds_38 : decode cX10_lendPounds 38 = .ok (.iload_n 3, 1) := by decide +kernel
theorem dX10_lendPounds_39 : decode cX10_lendPounds 39 = .ok (.bipush 20, 2) := by decide +kernel
theorem dX10_lendPounds_41 : decode cX10_lendPounds 41 = .ok (.if_icmp .gt 13, 3) := by decide +kernel
theorem dX10_lendPounds_44 : decode cX10_lendPounds 44 = .ok (.aload_n 0, 1) := by decide +kernel
theorem dX10_lendPounds_45 : decode cX10_lendPounds 45 = .ok (.iload_n 1, 1) := by decide +kernel
theorem dX10_lendPounds_46 : decode cX10_lendPounds 46 = .ok (.iload_n 2, 1) := by decide +kernel
theorem dX10_lendPounds_47 : decode cX10_lendPounds 47 = .ok (.iload_n 3, 1) := by decide +kernel
theorem dX10_lendPounds_48 : decode cX10_lendPounds 48 = .ok (.invokevirtual 94, 3) := by decide +kernel
theorem dX10_lendPounds_51 : decode cX10_lendPounds 51 = .ok (.ifCond .ne 5, 3) := by decide +kernel
theorem dX10_lendPounds_54 : decode cX10_lendPounds 54 = .ok (.iconst 0, 1) := by decide +kernel
theorem dX10_lendPounds_55 : decode cX10_lendPounds 55 = .ok (.ireturn, 1) := by decide +kernel
theorem dX10_lendPounds_56 : decode cX10_lendPounds 56 = .ok (.aload_n 0, 1) := by decide +kernel
theorem dX10_lendPounds_57 : decode cX10_lendPounds 57 = .ok (.iload_n 1, 1) := by decide +kernel
theorem dX10_lendPounds_58 : decode cX10_lendPounds 58 = .ok (.iload_n 2, 1) := by decide +kernel
theorem dX10_lendPounds_59 : decode cX10_lendPounds 59 = .ok (.iload_n 3, 1) := by decide +kernel
theorem dX10_lendPounds_60 : decode cX10_lendPounds 60 = .ok (.invokevirtual 98, 3) := by decide +kernel
theorem dX10_lendPounds_63 : decode cX10_lendPounds 63 = .ok (.iconst 1, 1) := by decide +kernel
theorem dX10_lendPounds_64 : decode cX10_lendPounds 64 = .ok (.ireturn, 1) := by decide +kernel
theorem dX10_setSecrets_0 : decode cX10_setSecrets 0 = .ok (.aload_n 0, 1) := by decide +kernel
theorem dX10_setSecrets_1 : decode cX10_setSecrets 1 = .ok (.iload_n 1, 1) := by decide +kernel
theorem dX10_setSecrets_2 : decode cX10_setSecrets 2 = .ok (.invokevirtual 85, 3) := by decide +kernel
theorem dX10_setSecrets_5 : decode cX10_setSecrets 5 = .ok (.ifCond .ne 5, 3) := by decide +kernel
theorem dX10_setSecrets_8 : decode cX10_setSecrets 8 = .ok (.iconst 0, 1) := by decide +kernel
theorem dX10_setSecrets_9 : decode cX10_setSecrets 9 = .ok (.ireturn, 1) := by decide +kernel
theorem dX10_setSecrets_10 : decode cX10_setSecrets 10 = .ok (.aload_n 0, 1) := by decide +kernel
theorem dX10_setSecrets_11 : decode cX10_setSecrets 11 = .ok (.getfield 101, 3) := by decide +kernel
theorem dX10_setSecrets_14 : decode cX10_setSecrets 14 = .ok (.iload_n 1, 1) := by decide +kernel
theorem dX10_setSecrets_15 : decode cX10_setSecrets 15 = .ok (.iload_n 2, 1) := by decide +kernel
theorem dX10_setSecrets_16 : decode cX10_setSecrets 16 = .ok (.iastore, 1) := by decide +kernel
theorem dX10_setSecrets_17 : decode cX10_setSecrets 17 = .ok (.iconst 1, 1) := by decide +kernel
theorem dX10_setSecrets_18 : decode cX10_setSecrets 18 = .ok (.ireturn, 1) := by decide +kernel
theorem dX10_passDays_0 : decode cX10_passDays 0 = .ok (.iload_n 1, 1) := by decide +kernel
theorem dX10_passDays_1 : decode cX10_passDays 1 = .ok (.iconst 1, 1) := by decide +kernel
theorem dX10_passDays_2 : decode cX10_passDays 2 = .ok (.if_icmp .lt 21, 3) := by decide +kernel
theorem dX10_passDays_5 : decode cX10_passDays 5 = .ok (.iload_n 1, 1) := by decide +kernel
theorem dX10_passDays_6 : decode cX10_passDays 6 = .ok (.bipush 60, 2) := by decide +kernel
theorem dX10_passDays_8 : decode cX10_passDays 8 = .ok (.if_icmp .gt 15, 3) := by decide +kernel
theorem dX10_passDays_11 : decode cX10_passDays 11 = .ok (.aload_n 0, 1) := by decide +kernel
theorem dX10_passDays_12 : decode cX10_passDays 12 = .ok (.getfield 105, 3) := by decide +kernel
theorem dX10_passDays_15 : decode cX10_passDays 15 = .ok (.iload_n 1, 1) := by decide +kernel
theorem dX10_passDays_16 : decode cX10_passDays 16 = .ok (.iadd, 1) := by decide +kernel
theorem dX10_passDays_17 : decode cX10_passDays 17 = .ok (.sipush 999, 3) := by decide +kernel
theorem dX10_passDays_20 : decode cX10_passDays 20 = .ok (.if_icmp .le 5, 3) := by decide +kernel
theorem dX10_passDays_23 : decode cX10_passDays 23 = .ok (.iconst 0, 1) := by decide +kernel
theorem dX10_passDays_24 : decode cX10_passDays 24 = .ok (.ireturn, 1) := by decide +kernel
theorem dX10_passDays_25 : decode cX10_passDays 25 = .ok (.aload_n 0, 1) := by decide +kernel
theorem dX10_passDays_26 : decode cX10_passDays 26 = .ok (.iload_n 1, 1) := by decide +kernel
theorem dX10_passDays_27 : decode cX10_passDays 27 = .ok (.invokevirtual 108, 3) := by decide +kernel
theorem dX10_passDays_30 : decode cX10_passDays 30 = .ok (.iconst 1, 1) := by decide +kernel
theorem dX10_passDays_31 : decode cX10_passDays 31 = .ok (.ireturn, 1) := by decide +kernel
theorem dJ6_bitCount_0f7a4_0 : decode cJ6_bitCount_0f7a4 0 = .ok (.iload_n 0, 1) := by decide +kernel
theorem dJ6_bitCount_0f7a4_1 : decode cJ6_bitCount_0f7a4 1 = .ok (.iload_n 0, 1) := by decide +kernel
theorem dJ6_bitCount_0f7a4_2 : decode cJ6_bitCount_0f7a4 2 = .ok (.iconst 1, 1) := by decide +kernel
theorem dJ6_bitCount_0f7a4_3 : decode cJ6_bitCount_0f7a4 3 = .ok (.iushr, 1) := by decide +kernel
theorem dJ6_bitCount_0f7a4_4 : decode cJ6_bitCount_0f7a4 4 = .ok (.ldc_w 265, 3) := by decide +kernel
theorem dJ6_bitCount_0f7a4_7 : decode cJ6_bitCount_0f7a4 7 = .ok (.iand, 1) := by decide +kernel
theorem dJ6_bitCount_0f7a4_8 : decode cJ6_bitCount_0f7a4 8 = .ok (.isub, 1) := by decide +kernel
theorem dJ6_bitCount_0f7a4_9 : decode cJ6_bitCount_0f7a4 9 = .ok (.istore_n 0, 1) := by decide +kernel
theorem dJ6_bitCount_0f7a4_10 : decode cJ6_bitCount_0f7a4 10 = .ok (.iload_n 0, 1) := by decide +kernel
theorem dJ6_bitCount_0f7a4_11 : decode cJ6_bitCount_0f7a4 11 = .ok (.ldc_w 266, 3) := by decide +kernel
theorem dJ6_bitCount_0f7a4_14 : decode cJ6_bitCount_0f7a4 14 = .ok (.iand, 1) := by decide +kernel
theorem dJ6_bitCount_0f7a4_15 : decode cJ6_bitCount_0f7a4 15 = .ok (.iload_n 0, 1) := by decide +kernel
theorem dJ6_bitCount_0f7a4_16 : decode cJ6_bitCount_0f7a4 16 = .ok (.iconst 2, 1) := by decide +kernel
theorem dJ6_bitCount_0f7a4_17 : decode cJ6_bitCount_0f7a4 17 = .ok (.iushr, 1) := by decide +kernel
theorem dJ6_bitCount_0f7a4_18 : decode cJ6_bitCount_0f7a4 18 = .ok (.ldc_w 266, 3) := by decide +kernel
theorem dJ6_bitCount_0f7a4_21 : decode cJ6_bitCount_0f7a4 21 = .ok (.iand, 1) := by decide +kernel
theorem dJ6_bitCount_0f7a4_22 : decode cJ6_bitCount_0f7a4 22 = .ok (.iadd, 1) := by decide +kernel
theorem dJ6_bitCount_0f7a4_23 : decode cJ6_bitCount_0f7a4 23 = .ok (.istore_n 0, 1) := by decide +kernel
theorem dJ6_bitCount_0f7a4_24 : decode cJ6_bitCount_0f7a4 24 = .ok (.iload_n 0, 1) := by decide +kernel
theorem dJ6_bitCount_0f7a4_25 : decode cJ6_bitCount_0f7a4 25 = .ok (.iload_n 0, 1) := by decide +kernel
theorem dJ6_bitCount_0f7a4_26 : decode cJ6_bitCount_0f7a4 26 = .ok (.iconst 4, 1) := by decide +kernel
theorem dJ6_bitCount_0f7a4_27 : decode cJ6_bitCount_0f7a4 27 = .ok (.iushr, 1) := by decide +kernel
theorem dJ6_bitCount_0f7a4_28 : decode cJ6_bitCount_0f7a4 28 = .ok (.iadd, 1) := by decide +kernel
theorem dJ6_bitCount_0f7a4_29 : decode cJ6_bitCount_0f7a4 29 = .ok (.ldc_w 267, 3) := by decide +kernel
theorem dJ6_bitCount_0f7a4_32 : decode cJ6_bitCount_0f7a4 32 = .ok (.iand, 1) := by decide +kernel
theorem dJ6_bitCount_0f7a4_33 : decode cJ6_bitCount_0f7a4 33 = .ok (.istore_n 0, 1) := by decide +kernel
theorem dJ6_bitCount_0f7a4_34 : decode cJ6_bitCount_0f7a4 34 = .ok (.iload_n 0, 1) := by decide +kernel
theorem dJ6_bitCount_0f7a4_35 : decode cJ6_bitCount_0f7a4 35 = .ok (.iload_n 0, 1) := by decide +kernel
theorem dJ6_bitCount_0f7a4_36 : decode cJ6_bitCount_0f7a4 36 = .ok (.bipush 8, 2) := by decide +kernel
theorem dJ6_bitCount_0f7a4_38 : decode cJ6_bitCount_0f7a4 38 = .ok (.iushr, 1) := by decide +kernel
theorem dJ6_bitCount_0f7a4_39 : decode cJ6_bitCount_0f7a4 39 = .ok (.iadd, 1) := by decide +kernel
theorem dJ6_bitCount_0f7a4_40 : decode cJ6_bitCount_0f7a4 40 = .ok (.istore_n 0, 1) := by decide +kernel
theorem dJ6_bitCount_0f7a4_41 : decode cJ6_bitCount_0f7a4 41 = .ok (.iload_n 0, 1) := by decide +kernel
theorem dJ6_bitCount_0f7a4_42 : decode cJ6_bitCount_0f7a4 42 = .ok (.iload_n 0, 1) := by decide +kernel
theorem dJ6_bitCount_0f7a4_43 : decode cJ6_bitCount_0f7a4 43 = .ok (.bipush 16, 2) := by decide +kernel
theorem dJ6_bitCount_0f7a4_45 : decode cJ6_bitCount_0f7a4 45 = .ok (.iushr, 1) := by decide +kernel
theorem dJ6_bitCount_0f7a4_46 : decode cJ6_bitCount_0f7a4 46 = .ok (.iadd, 1) := by decide +kernel
theorem dJ6_bitCount_0f7a4_47 : decode cJ6_bitCount_0f7a4 47 = .ok (.istore_n 0, 1) := by decide +kernel
theorem dJ6_bitCount_0f7a4_48 : decode cJ6_bitCount_0f7a4 48 = .ok (.iload_n 0, 1) := by decide +kernel
theorem dJ6_bitCount_0f7a4_49 : decode cJ6_bitCount_0f7a4 49 = .ok (.bipush 63, 2) := by decide +kernel
theorem dJ6_bitCount_0f7a4_51 : decode cJ6_bitCount_0f7a4 51 = .ok (.iand, 1) := by decide +kernel
theorem dJ6_bitCount_0f7a4_52 : decode cJ6_bitCount_0f7a4 52 = .ok (.ireturn, 1) := by decide +kernel
theorem dJ9_max_7cf53_0 : decode cJ9_max_7cf53 0 = .ok (.iload_n 0, 1) := by decide +kernel
theorem dJ9_max_7cf53_1 : decode cJ9_max_7cf53 1 = .ok (.iload_n 1, 1) := by decide +kernel
theorem dJ9_max_7cf53_2 : decode cJ9_max_7cf53 2 = .ok (.if_icmp .lt 7, 3) := by decide +kernel
theorem dJ9_max_7cf53_5 : decode cJ9_max_7cf53 5 = .ok (.iload_n 0, 1) := by decide +kernel
theorem dJ9_max_7cf53_6 : decode cJ9_max_7cf53 6 = .ok (.goto 4, 3) := by decide +kernel
theorem dJ9_max_7cf53_9 : decode cJ9_max_7cf53 9 = .ok (.iload_n 1, 1) := by decide +kernel
theorem dJ9_max_7cf53_10 : decode cJ9_max_7cf53 10 = .ok (.ireturn, 1) := by decide +kernel
theorem dJ9_min_7cf53_0 : decode cJ9_min_7cf53 0 = .ok (.iload_n 0, 1) := by decide +kernel
theorem dJ9_min_7cf53_1 : decode cJ9_min_7cf53 1 = .ok (.iload_n 1, 1) := by decide +kernel
theorem dJ9_min_7cf53_2 : decode cJ9_min_7cf53 2 = .ok (.if_icmp .gt 7, 3) := by decide +kernel
theorem dJ9_min_7cf53_5 : decode cJ9_min_7cf53 5 = .ok (.iload_n 0, 1) := by decide +kernel
theorem dJ9_min_7cf53_6 : decode cJ9_min_7cf53 6 = .ok (.goto 4, 3) := by decide +kernel
theorem dJ9_min_7cf53_9 : decode cJ9_min_7cf53 9 = .ok (.iload_n 1, 1) := by decide +kernel
theorem dJ9_min_7cf53_10 : decode cJ9_min_7cf53 10 = .ok (.ireturn, 1) := by decide +kernel
